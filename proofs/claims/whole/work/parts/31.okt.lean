set_option maxHeartbeats 30000 in
theorem f305_1034_ok (L N d : Nat) (s : gI) {o : Int × gI} (h : f305 N 1034  s = some o) : iEE L (d + 1) 305 [vR 1034] (s, g_rho) (some (vI o.1), (o.2, g_rho)) := by
  refine iEE.of (wr := false) (d := d + 0) (md := gm_305) rfl rfl rfl (iRR.of 401 ?_)
  replace h := i_h0 (by decide) h
  refine iRT.ite h (fun h => ?_) (fun h => ?_)
  · replace h := (ib1_inv h).2
    cases h
    exact iRT.ret
  · replace h := (ib1_inv h).2
    cases h
    exact iRT.ret
set_option maxHeartbeats 30000 in
theorem f304_1034_ok (L N d : Nat) (s : gI) {o : Int × gI} (h : f304 N 1034  s = some o) : iEE L (d + 1) 304 [vR 1034] (s, g_rho) (some (vI o.1), (o.2, g_rho)) := by
  refine iEE.of (wr := false) (d := d + 0) (md := gm_304) rfl rfl rfl (iRR.of 401 ?_)
  replace h := i_h0 (by decide) h
  refine iRT.b1 h fun h => ?_
  cases h
  exact iRT.ret
set_option maxHeartbeats 30000 in
theorem f300_1034_ok (L N d : Nat) (s : gI) {o : Int × gI} (h : f300 N 1034 8  s = some o) : iEE L (d + 2) 300 [vR 1034] (s, g_rho) (some (vI o.1), (o.2, g_rho)) := by
  refine iEE.of (wr := false) (d := d + 1) (md := gm_300) rfl rfl rfl (iRR.of 401 ?_)
  replace h := (iov_inv h).2
  obtain ⟨i2, s1, h1, h⟩ := i_o2_inv h
  refine iRT.call (f304_1034_ok L N d  _ h1) ?_
  cases h
  exact iRT.ret
set_option maxHeartbeats 30000 in
theorem f309_ok (L N d : Nat) (x0 : Int) (s : gI) {o : Int × gI} (h : f309 N x0 s = some o) : iEE L (d + 1) 309 [vI x0] (s, g_rho) (some (vI o.1), (o.2, g_rho)) := by
  refine iEE.of (wr := false) (d := d + 0) (md := gm_309) rfl rfl rfl (iRR.of 401 ?_)
  refine iRT.ite h (fun h => ?_) (fun h => ?_)
  · replace h := (ib1_inv h).2
    cases h
    exact iRT.ret
  · refine iRT.ite h (fun h => ?_) (fun h => ?_)
    · replace h := (ib1_inv h).2
      cases h
      exact iRT.ret
    · replace h := (ib1_inv h).2
      cases h
      exact iRT.ret
set_option maxHeartbeats 30000 in
theorem f311_1035_ok (L N d : Nat) (x1 : Int) (x2 : Int) (x3 : Int) (s : gI) {o : Int × gI} (h : f311 N 1035 x1 x2 x3 s = some o) : iEE L (d + 1) 311 [vR 1035, vI x1, vI x2, vI x3] (s, g_rho) (some (vI o.1), (o.2, g_rho)) := by
  refine iEE.of (wr := false) (d := d + 0) (md := gm_311) rfl rfl rfl (iRR.of 401 ?_)
  cases h
set_option maxHeartbeats 30000 in
theorem f310_1035_ok (L N d : Nat) (x1 : Int) (x2 : Int) (x3 : Int) (s : gI) {o : Int × gI} (h : f310 N 1035 8 x1 x2 x3 s = some o) : iEE L (d + 2) 310 [vR 1035, vI x1, vI x2, vI x3] (s, g_rho) (some (vI o.1), (o.2, g_rho)) := by
  refine iEE.of (wr := false) (d := d + 1) (md := gm_310) rfl rfl rfl (iRR.of 401 ?_)
  obtain ⟨i2, s1, h1, h⟩ := i_o2_inv h
  refine iRT.call (f309_ok L N d _ _ h1) ?_
  refine iRT.ite h (fun h => ?_) (fun h => ?_)
  · cases h
    exact iRT.ret
  · replace h := (iov_inv h).2
    refine iRT.ite h (fun h => ?_) (fun h => ?_)
    · obtain ⟨i6, s5, h1, h⟩ := i_o2_inv h
      refine iRT.call (f311_1035_ok L N d _ _ _ _ h1) ?_
      cases h
      exact iRT.ret
    · cases h
      exact iRT.ret
set_option maxHeartbeats 30000 in
theorem f303_1034_ok (L N d : Nat) (x1 : Int) (x2 : Int) (s : gI) {o : Int × gI} (h : f303 N 1034 8 x1 x2 s = some o) : iEE L (d + 3) 303 [vR 1034, vI x1, vI x2] (s, g_rho) (some (vI o.1), (o.2, g_rho)) := by
  refine iEE.of (wr := false) (d := d + 2) (md := gm_303) rfl rfl rfl (iRR.of 401 ?_)
  obtain ⟨i2, s1, h1, h⟩ := i_o2_inv h
  refine iRT.call (f305_1034_ok L N (d + 1)  _ h1) ?_
  refine iRT.ite h (fun h => ?_) (fun h => ?_)
  · obtain ⟨i4, s3, h1, h⟩ := i_o2_inv h
    refine iRT.call (f300_1034_ok L N d  _ h1) ?_
    cases h
  · obtain ⟨i6, s5, h1, h⟩ := i_o2_inv h
    refine iRT.call (f300_1034_ok L N d  _ h1) ?_
    obtain ⟨i8, s7, h1, h⟩ := i_o2_inv h
    refine iRT.call (f310_1035_ok L N d _ _ _ _ h1) ?_
    cases h
    exact iRT.ret
set_option maxHeartbeats 30000 in
theorem f302_1034_ok (L N d : Nat) (x1 : Int) (s : gI) {o : Int × gI} (h : f302 N 1034 8 x1 s = some o) : iEE L (d + 4) 302 [vR 1034, vI x1] (s, g_rho) (some (vI o.1), (o.2, g_rho)) := by
  refine iEE.of (wr := false) (d := d + 3) (md := gm_302) rfl rfl rfl (iRR.of 401 ?_)
  obtain ⟨i2, s1, h1, h⟩ := i_o2_inv h
  refine iRT.call (f303_1034_ok L N d _ _ _ h1) ?_
  cases h
  exact iRT.ret
set_option maxHeartbeats 30000 in
theorem f98_1_at5_ok (L N d : Nat) : ∀ (n : Nat) (x1 : Int) (x2 : Int) (x3 : Int) (s : gI) (o : Int × gI), f98_at5 N n x1 x2 x3 s = some o → iRR false L (d + 0) kj98 k98_5 [some (vR 1), some (vI x1), some (vI x2), some (vI x3)] [] (s, g_rho) (some (vI o.1), (o.2, g_rho)) := by
  intro n
  induction n with
  | zero => intro _ _ _ _ _ h; cases h
  | succ n ih =>
    intro x1 x2 x3 s o h
    refine iRR.of 401 ?_
    refine iRT.ite h (fun h => ?_) (fun h => ?_)
    · cases h
      exact iRT.ret
    · refine iRT.ck h fun h => ?_
      refine iRT.ite h (fun h => ?_) (fun h => ?_)
      · cases h
        exact iRT.ret
      · refine iRT.ck h fun h => ?_
        refine iRT.ite h (fun h => ?_) (fun h => ?_)
        · cases h
          exact iRT.ret
        · refine iRT.ov h fun h => ?_
          exact iRT.go 1 (ih _ _ _ _ _ h) (fun _ _ => rfl)
set_option maxHeartbeats 30000 in
theorem f98_1_ok (L N d : Nat) (x1 : Int) (x2 : Int) (s : gI) {o : Int × gI} (h : f98 N x1 x2 s = some o) : iEE L (d + 1) 98 [vR 1, vI x1, vI x2] (s, g_rho) (some (vI o.1), (o.2, g_rho)) := by
  refine iEE.of (wr := false) (d := d + 0) (md := gm_98) rfl rfl rfl (iRR.of 4 ?_)
  exact iRT.go 3 (f98_1_at5_ok L N d N _ _ _ _ _ h) (fun _ _ => rfl)
set_option maxHeartbeats 30000 in
theorem f99_1_at19_ok (L N d : Nat) : ∀ (n : Nat) (x1 : Int) (s : gI) (o : gI), f99_at19 N n x1 s = some o → iRR false L (d + 0) kj99 k99_19 [some (vR 1), some (vI x1)] [] (s, g_rho) (none, (o, g_rho)) := by
  intro n
  induction n with
  | zero => intro _ _ _ h; cases h
  | succ n ih =>
    intro x1 s o h
    refine iRR.of 401 ?_
    refine iRT.ite h (fun h => ?_) (fun h => ?_)
    · cases h
      exact iRT.ret
    · refine iRT.ov h fun h => ?_
      refine iRT.ck h fun h => ?_
      refine iRT.ov h fun h => ?_
      refine iRT.ov h fun h => ?_
      refine iRT.ov h fun h => ?_
      exact iRT.go 1 (ih _ _ _ h) (fun _ _ => rfl)
set_option maxHeartbeats 30000 in
theorem f99_1_ok (L N d : Nat) (s : gI) {o : gI} (h : f99 N  s = some o) : iEE L (d + 1) 99 [vR 1] (s, g_rho) (none, (o, g_rho)) := by
  refine iEE.of (wr := false) (d := d + 0) (md := gm_99) rfl rfl rfl (iRR.of 401 ?_)
  refine iRT.ite h (fun h => ?_) (fun h => ?_)
  · exact iRT.go 6 (f99_1_at19_ok L N d N _ _ _ h) (fun _ _ => rfl)
  · cases h
    exact iRT.ret
set_option maxHeartbeats 30000 in
theorem f97_1_at178_ok (L N d : Nat) (x1 : Int) (x2 : Int) (s : gI) {o : gI} (h : f97_at178 N x1 x2 s = some o) : iRR false L (d + 4) kj97 k97_178 [some (vR 1), some (vI x1), some (vI x2)] [] (s, g_rho) (none, (o, g_rho)) := by
  refine iRR.of 401 ?_
  refine iRT.ov h fun h => ?_
  obtain ⟨i3, s2, h1, h⟩ := i_o2_inv h
  refine iRT.call (f302_1034_ok L N d _ _ h1) ?_
  refine iRT.ite h (fun h => ?_) (fun h => ?_)
  · cases h
    exact iRT.ret
  · cases h
    exact iRT.ret
set_option maxHeartbeats 30000 in
theorem f97_1_at168_ok (L N d : Nat) (z0 : Int) {u1 : Option iV} {u2 : Option iV} (s : gI) {o : gI} (h : f97_at168 N z0 s = some o) : iRR false L (d + 4) kj97 k97_168 [some (vR 1), u1, u2] [vI z0, vR 1] (s, g_rho) (none, (o, g_rho)) := by
  refine iRR.of 401 ?_
  obtain ⟨s2, h1, h⟩ := i_o1_inv h
  refine iRT.call (f99_1_ok L N (d + 3)  _ h1) ?_
  cases h
  exact iRT.ret
set_option maxHeartbeats 30000 in
theorem f97_1_at125_ok (L N d : Nat) (x1 : Int) (x2 : Int) (s : gI) {o : gI} (h : f97_at125 N x1 x2 s = some o) : iRR false L (d + 4) kj97 k97_125 [some (vR 1), some (vI x1), some (vI x2)] [] (s, g_rho) (none, (o, g_rho)) := by
  refine iRR.of 23 ?_
  refine iRT.ite h (fun h => ?_) (fun h => ?_)
  · exact iRT.go 0 (f97_1_at178_ok L N d _ _ _ h) (fun _ _ => rfl)
  · refine iRT.ite h (fun h => ?_) (fun h => ?_)
    · exact iRT.go 0 (f97_1_at178_ok L N d _ _ _ h) (fun _ _ => rfl)
    · obtain ⟨i2, s1, h1, h⟩ := i_o2_inv h
      refine iRT.call (f98_1_ok L N (d + 3) _ _ _ h1) ?_
      refine iRT.ov h fun h => ?_
      refine iRT.ite h (fun h => ?_) (fun h => ?_)
      · exact iRT.go 1 (f97_1_at168_ok L N d _ _ h) (fun _ _ => rfl)
      · exact iRT.go 2 (f97_1_at168_ok L N d _ _ h) (fun _ _ => rfl)
set_option maxHeartbeats 30000 in
theorem f97_1_at41_ok (L N d : Nat) (x1 : Int) {u2 : Option iV} (s : gI) {o : gI} (h : f97_at41 N x1 s = some o) : iRR false L (d + 4) kj97 k97_41 [some (vR 1), some (vI x1), u2] [] (s, g_rho) (none, (o, g_rho)) := by
  refine iRR.of 401 ?_
  refine iRT.ite h (fun h => ?_) (fun h => ?_)
  · refine iRT.ck h fun h => ?_
    refine iRT.ite h (fun h => ?_) (fun h => ?_)
    · exact iRT.go 0 (f97_1_at125_ok L N d _ _ _ h) (fun _ _ => rfl)
    · refine iRT.ite h (fun h => ?_) (fun h => ?_)
      · exact iRT.go 0 (f97_1_at125_ok L N d _ _ _ h) (fun _ _ => rfl)
      · obtain ⟨i4, s3, h1, h⟩ := i_o2_inv h
        refine iRT.call (f98_1_ok L N (d + 3) _ _ _ h1) ?_
        refine iRT.ov h fun h => ?_
        refine iRT.ite h (fun h => ?_) (fun h => ?_)
        · cases h
          exact iRT.ret
        · cases h
          exact iRT.ret
  · cases h
    exact iRT.ret
set_option maxHeartbeats 30000 in
theorem f97_1_at5_ok (L N d : Nat) : ∀ (n : Nat) (x1 : Int) {u2 : Option iV} (s : gI) (o : gI), f97_at5 N n x1 s = some o → iRR false L (d + 4) kj97 k97_5 [some (vR 1), some (vI x1), u2] [] (s, g_rho) (none, (o, g_rho)) := by
  intro n
  induction n with
  | zero => intro _ _ _ _ h; cases h
  | succ n ih =>
    intro x1 u2 s o h
    refine iRR.of 19 ?_
    refine iRT.ite h (fun h => ?_) (fun h => ?_)
    · exact iRT.go 0 (f97_1_at41_ok L N d _ _ h) (fun _ _ => rfl)
    · refine iRT.ck h fun h => ?_
      refine iRT.ite h (fun h => ?_) (fun h => ?_)
      · refine iRT.ov h fun h => ?_
        exact iRT.go 1 (ih _ _ _ h) (fun _ _ => rfl)
      · refine iRT.ck h fun h => ?_
        refine iRT.ite h (fun h => ?_) (fun h => ?_)
        · refine iRT.ov h fun h => ?_
          exact iRT.go 1 (ih _ _ _ h) (fun _ _ => rfl)
        · exact iRT.go 0 (f97_1_at41_ok L N d _ _ h) (fun _ _ => rfl)
set_option maxHeartbeats 30000 in
theorem f97_1_ok (L N d : Nat) (s : gI) {o : gI} (h : f97 N  s = some o) : iEE L (d + 5) 97 [vR 1] (s, g_rho) (none, (o, g_rho)) := by
  refine iEE.of (wr := false) (d := d + 4) (md := gm_97) rfl rfl rfl (iRR.of 4 ?_)
  exact iRT.go 3 (f97_1_at5_ok L N d N _ _ _ h) (fun _ _ => rfl)
set_option maxHeartbeats 30000 in
theorem f96_1_ok (L N d : Nat) (s : gI) {o : gI} (h : f96 N  s = some o) : iEE L (d + 6) 96 [vR 1] (s, g_rho) (none, (o, g_rho)) := by
  refine iEE.of (wr := false) (d := d + 5) (md := gm_96) rfl rfl rfl (iRR.of 401 ?_)
  obtain ⟨s3, h1, h⟩ := i_o1_inv h
  refine iRT.call (f97_1_ok L N d  _ h1) ?_
  cases h
  exact iRT.ret
set_option maxHeartbeats 30000 in
theorem f304_1028_ok (L N d : Nat) (s : gI) {o : Int × gI} (h : f304 N 1028  s = some o) : iEE L (d + 1) 304 [vR 1028] (s, g_rho) (some (vI o.1), (o.2, g_rho)) := by
  refine iEE.of (wr := false) (d := d + 0) (md := gm_304) rfl rfl rfl (iRR.of 401 ?_)
  replace h := i_h0 (by decide) h
  refine iRT.b1 h fun h => ?_
  cases h
  exact iRT.ret
set_option maxHeartbeats 30000 in
theorem f300_1028_ok (L N d : Nat) (s : gI) {o : Int × gI} (h : f300 N 1028 4  s = some o) : iEE L (d + 2) 300 [vR 1028] (s, g_rho) (some (vI o.1), (o.2, g_rho)) := by
  refine iEE.of (wr := false) (d := d + 1) (md := gm_300) rfl rfl rfl (iRR.of 401 ?_)
  replace h := (iov_inv h).2
  obtain ⟨i2, s1, h1, h⟩ := i_o2_inv h
  refine iRT.call (f304_1028_ok L N d  _ h1) ?_
  cases h
  exact iRT.ret
set_option maxHeartbeats 30000 in
theorem f305_1028_ok (L N d : Nat) (s : gI) {o : Int × gI} (h : f305 N 1028  s = some o) : iEE L (d + 1) 305 [vR 1028] (s, g_rho) (some (vI o.1), (o.2, g_rho)) := by
  refine iEE.of (wr := false) (d := d + 0) (md := gm_305) rfl rfl rfl (iRR.of 401 ?_)
  replace h := i_h0 (by decide) h
  refine iRT.ite h (fun h => ?_) (fun h => ?_)
  · replace h := (ib1_inv h).2
    cases h
    exact iRT.ret
  · replace h := (ib1_inv h).2
    cases h
    exact iRT.ret
set_option maxHeartbeats 30000 in
theorem f322_at9_ok (L N d : Nat) (x0 : Int) (x1 : Int) (s : gI) {o : Int × gI} (h : f322_at9 N x0 x1 s = some o) : iRR false L (d + 0) kj322 k322_9 [some (vI x0), some (vI x1), some (none)] [] (s, g_rho) (some (vI o.1), (o.2, g_rho)) := by
  refine iRR.of 401 ?_
  cases h
set_option maxHeartbeats 30000 in
theorem f322_ok (L N d : Nat) (x0 : Int) (x1 : Int) (s : gI) {o : Int × gI} (h : f322 N x0 x1 s = some o) : iEE L (d + 1) 322 [vI x0, vI x1, none] (s, g_rho) (some (vI o.1), (o.2, g_rho)) := by
  refine iEE.of (wr := false) (d := d + 0) (md := gm_322) rfl rfl rfl (iRR.of 401 ?_)
  refine iRT.ite h (fun h => ?_) (fun h => ?_)
  · exact iRT.go 0 (f322_at9_ok L N d _ _ _ h) (fun _ _ => rfl)
  · refine iRT.ite h (fun h => ?_) (fun h => ?_)
    · cases h
      exact iRT.ret
    · exact iRT.go 0 (f322_at9_ok L N d _ _ _ h) (fun _ _ => rfl)
set_option maxHeartbeats 30000 in
theorem f306_ok (L N d : Nat) (x0 : Int) (x1 : Int) (s : gI) {o : gI} (h : f306 N x0 x1 s = some o) : iEE L (d + 2) 306 [vI x0, vI x1] (s, g_rho) (none, (o, g_rho)) := by
  refine iEE.of (wr := false) (d := d + 1) (md := gm_306) rfl rfl rfl (iRR.of 401 ?_)
  obtain ⟨i2, s1, h1, h⟩ := i_o2_inv h
  refine iRT.call (f322_ok L N d _ _ _ h1) ?_
  cases h
  exact iRT.ret
set_option maxHeartbeats 30000 in
theorem f308_1029_ok (L N d : Nat) (x1 : Int) (s : gI) {o : Int × gI} (h : f308 N 1029 4 x1 s = some o) : iEE L (d + 3) 308 [vR 1029, vI x1] (s, g_rho) (some (vI o.1), (o.2, g_rho)) := by
  refine iEE.of (wr := false) (d := d + 2) (md := gm_308) rfl rfl rfl (iRR.of 401 ?_)
  replace h := (iov_inv h).2
  obtain ⟨s1, h1, h⟩ := i_o1_inv h
  refine iRT.call (f306_ok L N d _ _ _ h1) ?_
  refine iRT.ck h fun h => ?_
  refine iRT.ch h fun h => ?_
  refine iRT.ch h fun h => ?_
  cases h
  exact iRT.ret
set_option maxHeartbeats 30000 in
theorem f301_1028_ok (L N d : Nat) (x1 : Int) (s : gI) {o : Int × gI} (h : f301 N 1028 4 x1 s = some o) : iEE L (d + 4) 301 [vR 1028, vI x1] (s, g_rho) (some (vI o.1), (o.2, g_rho)) := by
  refine iEE.of (wr := false) (d := d + 3) (md := gm_301) rfl rfl rfl (iRR.of 401 ?_)
  obtain ⟨i2, s1, h1, h⟩ := i_o2_inv h
  refine iRT.call (f305_1028_ok L N (d + 2)  _ h1) ?_
  refine iRT.ite h (fun h => ?_) (fun h => ?_)
  · cases h
  · obtain ⟨i4, s3, h1, h⟩ := i_o2_inv h
    refine iRT.call (f308_1029_ok L N d _ _ h1) ?_
    refine iRT.ch h fun h => ?_
    cases h
    exact iRT.ret
set_option maxHeartbeats 30000 in
theorem f101_1_1028_at31_ok (L N d : Nat) : ∀ (n : Nat) (x2 : Int) (s : gI) (o : Int × gI), f101_at31 N 1028 4 n x2 s = some o → iRR false L (d + 4) kj101 k101_31 [some (vR 1), some (vR 1028), some (vI x2)] [] (s, g_rho) (some (vI o.1), (o.2, g_rho)) := by
  intro n
  induction n with
  | zero => intro _ _ _ h; cases h
  | succ n ih =>
    intro x2 s o h
    refine iRR.of 401 ?_
    refine iRT.ite h (fun h => ?_) (fun h => ?_)
    · replace h := (ib1_inv h).2
      cases h
      exact iRT.ret
    · refine iRT.ck h fun h => ?_
      refine iRT.ov h fun h => ?_
      obtain ⟨i2, s1, h1, h⟩ := i_o2_inv h
      refine iRT.call (f301_1028_ok L N d _ _ h1) ?_
      refine iRT.ite h (fun h => ?_) (fun h => ?_)
      · refine iRT.ov h fun h => ?_
        exact iRT.go 1 (ih _ _ _ h) (fun _ _ => rfl)
      · replace h := (ib1_inv h).2
        cases h
        exact iRT.ret
set_option maxHeartbeats 30000 in
theorem f101_1_1028_ok (L N d : Nat) (s : gI) {o : Int × gI} (h : f101 N 1028 4  s = some o) : iEE L (d + 5) 101 [vR 1, vR 1028] (s, g_rho) (some (vI o.1), (o.2, g_rho)) := by
  refine iEE.of (wr := false) (d := d + 4) (md := gm_101) rfl rfl rfl (iRR.of 401 ?_)
  refine iRT.ite h (fun h => ?_) (fun h => ?_)
  · refine iRT.ov h fun h => ?_
    obtain ⟨i2, s1, h1, h⟩ := i_o2_inv h
    refine iRT.call (f300_1028_ok L N (d + 2)  _ h1) ?_
    refine iRT.ite h (fun h => ?_) (fun h => ?_)
    · exact iRT.go 3 (f101_1_1028_at31_ok L N d N _ _ _ h) (fun _ _ => rfl)
    · replace h := (ib1_inv h).2
      cases h
      exact iRT.ret
  · replace h := (ib1_inv h).2
    cases h
    exact iRT.ret
set_option maxHeartbeats 30000 in
theorem f104_1_ok (L N d : Nat) (x1 : Int) (s : gI) {o : Int × gI} (h : f104 N x1 s = some o) : iEE L (d + 1) 104 [vR 1, vI x1] (s, g_rho) (some (vI o.1), (o.2, g_rho)) := by
  refine iEE.of (wr := false) (d := d + 0) (md := gm_104) rfl rfl rfl (iRR.of 401 ?_)
  refine iRT.ov h fun h => ?_
  refine iRT.ov h fun h => ?_
  replace h := (ib1_inv h).2
  cases h
  exact iRT.ret
set_option maxHeartbeats 30000 in
theorem f105_1_1028_ok (L N d : Nat) (s : gI) {o : Int × gI} (h : f105 N 1028 4  s = some o) : iEE L (d + 6) 105 [vR 1, vR 1028] (s, g_rho) (some (vI o.1), (o.2, g_rho)) := by
  refine iEE.of (wr := false) (d := d + 5) (md := gm_105) rfl rfl rfl (iRR.of 401 ?_)
  obtain ⟨i2, s1, h1, h⟩ := i_o2_inv h
  refine iRT.call (f101_1_1028_ok L N d  _ h1) ?_
  refine iRT.ite h (fun h => ?_) (fun h => ?_)
  · obtain ⟨i5, s4, h1, h⟩ := i_o2_inv h
    refine iRT.call (f104_1_ok L N (d + 4) _ _ h1) ?_
    refine iRT.b1 h fun h => ?_
    cases h
    exact iRT.ret
  · obtain ⟨s3, h1, h⟩ := i_o1_inv h
    refine iRT.call (f97_1_ok L N d  _ h1) ?_
    replace h := (ib1_inv h).2
    cases h
    exact iRT.ret
set_option maxHeartbeats 30000 in
theorem f107_1_at30_ok (L N d : Nat) {u1 : Option iV} {u2 : Option iV} (s : gI) {o : Int × gI} (h : f107_at30 N  s = some o) : iRR false L (d + 5) kj107 k107_30 [some (vR 1), u1, u2] [] (s, g_rho) (some (vI o.1), (o.2, g_rho)) := by
  refine iRR.of 401 ?_
  obtain ⟨i2, s1, h1, h⟩ := i_o2_inv h
  refine iRT.call (f104_1_ok L N (d + 4) _ _ h1) ?_
  refine iRT.b1 h fun h => ?_
  cases h
  exact iRT.ret
set_option maxHeartbeats 30000 in
theorem f107_1_ok (L N d : Nat) (x1 : Int) (x2 : Int) (s : gI) {o : Int × gI} (h : f107 N x1 x2 s = some o) : iEE L (d + 6) 107 [vR 1, vI x1, vI x2] (s, g_rho) (some (vI o.1), (o.2, g_rho)) := by
  refine iEE.of (wr := false) (d := d + 5) (md := gm_107) rfl rfl rfl (iRR.of 401 ?_)
  refine iRT.ite h (fun h => ?_) (fun h => ?_)
  · refine iRT.ite h (fun h => ?_) (fun h => ?_)
    · exact iRT.go 0 (f107_1_at30_ok L N d  _ h) (fun _ _ => rfl)
    · refine iRT.ite h (fun h => ?_) (fun h => ?_)
      · obtain ⟨s2, h1, h⟩ := i_o1_inv h
        refine iRT.call (f97_1_ok L N d  _ h1) ?_
        replace h := (ib1_inv h).2
        cases h
        exact iRT.ret
      · exact iRT.go 0 (f107_1_at30_ok L N d  _ h) (fun _ _ => rfl)
  · obtain ⟨i4, s3, h1, h⟩ := i_o2_inv h
    refine iRT.call (f104_1_ok L N (d + 4) _ _ h1) ?_
    refine iRT.b1 h fun h => ?_
    cases h
    exact iRT.ret
set_option maxHeartbeats 30000 in
theorem f100_1_ok (L N d : Nat) (x1 : Int) (s : gI) {o : Int × gI} (h : f100 N x1 s = some o) : iEE L (d + 1) 100 [vR 1, vI x1] (s, g_rho) (some (vI o.1), (o.2, g_rho)) := by
  refine iEE.of (wr := false) (d := d + 0) (md := gm_100) rfl rfl rfl (iRR.of 401 ?_)
  refine iRT.ite h (fun h => ?_) (fun h => ?_)
  · refine iRT.ck h fun h => ?_
    refine iRT.ite h (fun h => ?_) (fun h => ?_)
    · replace h := (ib1_inv h).2
      cases h
      exact iRT.ret
    · replace h := (ib1_inv h).2
      cases h
      exact iRT.ret
  · replace h := (ib1_inv h).2
    cases h
    exact iRT.ret
set_option maxHeartbeats 30000 in
theorem f106_1_ok (L N d : Nat) (s : gI) {o : Int × gI} (h : f106 N  s = some o) : iEE L (d + 6) 106 [vR 1] (s, g_rho) (some (vI o.1), (o.2, g_rho)) := by
  refine iEE.of (wr := false) (d := d + 5) (md := gm_106) rfl rfl rfl (iRR.of 401 ?_)
  obtain ⟨i2, s1, h1, h⟩ := i_o2_inv h
  refine iRT.call (f100_1_ok L N (d + 4) _ _ h1) ?_
  refine iRT.ite h (fun h => ?_) (fun h => ?_)
  · obtain ⟨i5, s4, h1, h⟩ := i_o2_inv h
    refine iRT.call (f104_1_ok L N (d + 4) _ _ h1) ?_
    refine iRT.b1 h fun h => ?_
    cases h
    exact iRT.ret
  · obtain ⟨s3, h1, h⟩ := i_o1_inv h
    refine iRT.call (f97_1_ok L N d  _ h1) ?_
    replace h := (ib1_inv h).2
    cases h
    exact iRT.ret
set_option maxHeartbeats 30000 in
theorem f304_1030_ok (L N d : Nat) (s : gI) {o : Int × gI} (h : f304 N 1030  s = some o) : iEE L (d + 1) 304 [vR 1030] (s, g_rho) (some (vI o.1), (o.2, g_rho)) := by
  refine iEE.of (wr := false) (d := d + 0) (md := gm_304) rfl rfl rfl (iRR.of 401 ?_)
  replace h := i_h0 (by decide) h
  refine iRT.b1 h fun h => ?_
  cases h
  exact iRT.ret
set_option maxHeartbeats 30000 in
theorem f300_1030_ok (L N d : Nat) (s : gI) {o : Int × gI} (h : f300 N 1030 3  s = some o) : iEE L (d + 2) 300 [vR 1030] (s, g_rho) (some (vI o.1), (o.2, g_rho)) := by
  refine iEE.of (wr := false) (d := d + 1) (md := gm_300) rfl rfl rfl (iRR.of 401 ?_)
  replace h := (iov_inv h).2
  obtain ⟨i2, s1, h1, h⟩ := i_o2_inv h
  refine iRT.call (f304_1030_ok L N d  _ h1) ?_
  cases h
  exact iRT.ret
set_option maxHeartbeats 30000 in
theorem f305_1030_ok (L N d : Nat) (s : gI) {o : Int × gI} (h : f305 N 1030  s = some o) : iEE L (d + 1) 305 [vR 1030] (s, g_rho) (some (vI o.1), (o.2, g_rho)) := by
  refine iEE.of (wr := false) (d := d + 0) (md := gm_305) rfl rfl rfl (iRR.of 401 ?_)
  replace h := i_h0 (by decide) h
  refine iRT.ite h (fun h => ?_) (fun h => ?_)
  · replace h := (ib1_inv h).2
    cases h
    exact iRT.ret
  · replace h := (ib1_inv h).2
    cases h
    exact iRT.ret
set_option maxHeartbeats 30000 in
theorem f308_1031_ok (L N d : Nat) (x1 : Int) (s : gI) {o : Int × gI} (h : f308 N 1031 3 x1 s = some o) : iEE L (d + 3) 308 [vR 1031, vI x1] (s, g_rho) (some (vI o.1), (o.2, g_rho)) := by
  refine iEE.of (wr := false) (d := d + 2) (md := gm_308) rfl rfl rfl (iRR.of 401 ?_)
  replace h := (iov_inv h).2
  obtain ⟨s1, h1, h⟩ := i_o1_inv h
  refine iRT.call (f306_ok L N d _ _ _ h1) ?_
  refine iRT.ck h fun h => ?_
  refine iRT.ch h fun h => ?_
  refine iRT.ch h fun h => ?_
  cases h
  exact iRT.ret
set_option maxHeartbeats 30000 in
theorem f301_1030_ok (L N d : Nat) (x1 : Int) (s : gI) {o : Int × gI} (h : f301 N 1030 3 x1 s = some o) : iEE L (d + 4) 301 [vR 1030, vI x1] (s, g_rho) (some (vI o.1), (o.2, g_rho)) := by
  refine iEE.of (wr := false) (d := d + 3) (md := gm_301) rfl rfl rfl (iRR.of 401 ?_)
  obtain ⟨i2, s1, h1, h⟩ := i_o2_inv h
  refine iRT.call (f305_1030_ok L N (d + 2)  _ h1) ?_
  refine iRT.ite h (fun h => ?_) (fun h => ?_)
  · cases h
  · obtain ⟨i4, s3, h1, h⟩ := i_o2_inv h
    refine iRT.call (f308_1031_ok L N d _ _ h1) ?_
    refine iRT.ch h fun h => ?_
    cases h
    exact iRT.ret
set_option maxHeartbeats 30000 in
theorem f101_1_1030_at31_ok (L N d : Nat) : ∀ (n : Nat) (x2 : Int) (s : gI) (o : Int × gI), f101_at31 N 1030 3 n x2 s = some o → iRR false L (d + 4) kj101 k101_31 [some (vR 1), some (vR 1030), some (vI x2)] [] (s, g_rho) (some (vI o.1), (o.2, g_rho)) := by
  intro n
  induction n with
  | zero => intro _ _ _ h; cases h
  | succ n ih =>
    intro x2 s o h
    refine iRR.of 401 ?_
    refine iRT.ite h (fun h => ?_) (fun h => ?_)
    · replace h := (ib1_inv h).2
      cases h
      exact iRT.ret
    · refine iRT.ck h fun h => ?_
      refine iRT.ov h fun h => ?_
      obtain ⟨i2, s1, h1, h⟩ := i_o2_inv h
      refine iRT.call (f301_1030_ok L N d _ _ h1) ?_
      refine iRT.ite h (fun h => ?_) (fun h => ?_)
      · refine iRT.ov h fun h => ?_
        exact iRT.go 1 (ih _ _ _ h) (fun _ _ => rfl)
      · replace h := (ib1_inv h).2
        cases h
        exact iRT.ret
set_option maxHeartbeats 30000 in
theorem f101_1_1030_ok (L N d : Nat) (s : gI) {o : Int × gI} (h : f101 N 1030 3  s = some o) : iEE L (d + 5) 101 [vR 1, vR 1030] (s, g_rho) (some (vI o.1), (o.2, g_rho)) := by
  refine iEE.of (wr := false) (d := d + 4) (md := gm_101) rfl rfl rfl (iRR.of 401 ?_)
  refine iRT.ite h (fun h => ?_) (fun h => ?_)
  · refine iRT.ov h fun h => ?_
    obtain ⟨i2, s1, h1, h⟩ := i_o2_inv h
    refine iRT.call (f300_1030_ok L N (d + 2)  _ h1) ?_
    refine iRT.ite h (fun h => ?_) (fun h => ?_)
    · exact iRT.go 3 (f101_1_1030_at31_ok L N d N _ _ _ h) (fun _ _ => rfl)
    · replace h := (ib1_inv h).2
      cases h
      exact iRT.ret
  · replace h := (ib1_inv h).2
    cases h
    exact iRT.ret
set_option maxHeartbeats 30000 in
theorem f105_1_1030_ok (L N d : Nat) (s : gI) {o : Int × gI} (h : f105 N 1030 3  s = some o) : iEE L (d + 6) 105 [vR 1, vR 1030] (s, g_rho) (some (vI o.1), (o.2, g_rho)) := by
  refine iEE.of (wr := false) (d := d + 5) (md := gm_105) rfl rfl rfl (iRR.of 401 ?_)
  obtain ⟨i2, s1, h1, h⟩ := i_o2_inv h
  refine iRT.call (f101_1_1030_ok L N d  _ h1) ?_
  refine iRT.ite h (fun h => ?_) (fun h => ?_)
  · obtain ⟨i5, s4, h1, h⟩ := i_o2_inv h
    refine iRT.call (f104_1_ok L N (d + 4) _ _ h1) ?_
    refine iRT.b1 h fun h => ?_
    cases h
    exact iRT.ret
  · obtain ⟨s3, h1, h⟩ := i_o1_inv h
    refine iRT.call (f97_1_ok L N d  _ h1) ?_
    replace h := (ib1_inv h).2
    cases h
    exact iRT.ret
set_option maxHeartbeats 30000 in
theorem f103_1_ok (L N d : Nat) (x1 : Int) (s : gI) {o : Int × gI} (h : f103 N x1 s = some o) : iEE L (d + 1) 103 [vR 1, vI x1] (s, g_rho) (some (vI o.1), (o.2, g_rho)) := by
  refine iEE.of (wr := false) (d := d + 0) (md := gm_103) rfl rfl rfl (iRR.of 401 ?_)
  refine iRT.ite h (fun h => ?_) (fun h => ?_)
  · replace h := (ich_inv h).2.2
    cases h
    exact iRT.ret
  · refine iRT.ov h fun h => ?_
    refine iRT.ite h (fun h => ?_) (fun h => ?_)
    · replace h := (ich_inv h).2.2
      cases h
      exact iRT.ret
    · refine iRT.ov h fun h => ?_
      refine iRT.ck h fun h => ?_
      refine iRT.ch h fun h => ?_
      cases h
      exact iRT.ret
set_option maxHeartbeats 30000 in
theorem f305_1032_ok (L N d : Nat) (s : gI) {o : Int × gI} (h : f305 N 1032  s = some o) : iEE L (d + 1) 305 [vR 1032] (s, g_rho) (some (vI o.1), (o.2, g_rho)) := by
  refine iEE.of (wr := false) (d := d + 0) (md := gm_305) rfl rfl rfl (iRR.of 401 ?_)
  replace h := i_h0 (by decide) h
  refine iRT.ite h (fun h => ?_) (fun h => ?_)
  · replace h := (ib1_inv h).2
    cases h
    exact iRT.ret
  · replace h := (ib1_inv h).2
    cases h
    exact iRT.ret
set_option maxHeartbeats 30000 in
theorem f304_1032_ok (L N d : Nat) (s : gI) {o : Int × gI} (h : f304 N 1032  s = some o) : iEE L (d + 1) 304 [vR 1032] (s, g_rho) (some (vI o.1), (o.2, g_rho)) := by
  refine iEE.of (wr := false) (d := d + 0) (md := gm_304) rfl rfl rfl (iRR.of 401 ?_)
  replace h := i_h0 (by decide) h
  refine iRT.b1 h fun h => ?_
  cases h
  exact iRT.ret
set_option maxHeartbeats 30000 in
theorem f300_1032_ok (L N d : Nat) (s : gI) {o : Int × gI} (h : f300 N 1032 9  s = some o) : iEE L (d + 2) 300 [vR 1032] (s, g_rho) (some (vI o.1), (o.2, g_rho)) := by
  refine iEE.of (wr := false) (d := d + 1) (md := gm_300) rfl rfl rfl (iRR.of 401 ?_)
  replace h := (iov_inv h).2
  obtain ⟨i2, s1, h1, h⟩ := i_o2_inv h
  refine iRT.call (f304_1032_ok L N d  _ h1) ?_
  cases h
  exact iRT.ret
set_option maxHeartbeats 30000 in
theorem f311_1033_ok (L N d : Nat) (x1 : Int) (x2 : Int) (x3 : Int) (s : gI) {o : Int × gI} (h : f311 N 1033 x1 x2 x3 s = some o) : iEE L (d + 1) 311 [vR 1033, vI x1, vI x2, vI x3] (s, g_rho) (some (vI o.1), (o.2, g_rho)) := by
  refine iEE.of (wr := false) (d := d + 0) (md := gm_311) rfl rfl rfl (iRR.of 401 ?_)
  cases h
set_option maxHeartbeats 30000 in
theorem f310_1033_ok (L N d : Nat) (x1 : Int) (x2 : Int) (x3 : Int) (s : gI) {o : Int × gI} (h : f310 N 1033 9 x1 x2 x3 s = some o) : iEE L (d + 2) 310 [vR 1033, vI x1, vI x2, vI x3] (s, g_rho) (some (vI o.1), (o.2, g_rho)) := by
  refine iEE.of (wr := false) (d := d + 1) (md := gm_310) rfl rfl rfl (iRR.of 401 ?_)
  obtain ⟨i2, s1, h1, h⟩ := i_o2_inv h
  refine iRT.call (f309_ok L N d _ _ h1) ?_
  refine iRT.ite h (fun h => ?_) (fun h => ?_)
  · cases h
    exact iRT.ret
  · replace h := (iov_inv h).2
    refine iRT.ite h (fun h => ?_) (fun h => ?_)
    · obtain ⟨i6, s5, h1, h⟩ := i_o2_inv h
      refine iRT.call (f311_1033_ok L N d _ _ _ _ h1) ?_
      cases h
      exact iRT.ret
    · cases h
      exact iRT.ret
set_option maxHeartbeats 30000 in
theorem f303_1032_ok (L N d : Nat) (x1 : Int) (x2 : Int) (s : gI) {o : Int × gI} (h : f303 N 1032 9 x1 x2 s = some o) : iEE L (d + 3) 303 [vR 1032, vI x1, vI x2] (s, g_rho) (some (vI o.1), (o.2, g_rho)) := by
  refine iEE.of (wr := false) (d := d + 2) (md := gm_303) rfl rfl rfl (iRR.of 401 ?_)
  obtain ⟨i2, s1, h1, h⟩ := i_o2_inv h
  refine iRT.call (f305_1032_ok L N (d + 1)  _ h1) ?_
  refine iRT.ite h (fun h => ?_) (fun h => ?_)
  · obtain ⟨i4, s3, h1, h⟩ := i_o2_inv h
    refine iRT.call (f300_1032_ok L N d  _ h1) ?_
    cases h
  · obtain ⟨i6, s5, h1, h⟩ := i_o2_inv h
    refine iRT.call (f300_1032_ok L N d  _ h1) ?_
    obtain ⟨i8, s7, h1, h⟩ := i_o2_inv h
    refine iRT.call (f310_1033_ok L N d _ _ _ _ h1) ?_
    cases h
    exact iRT.ret
set_option maxHeartbeats 30000 in
theorem f302_1032_ok (L N d : Nat) (x1 : Int) (s : gI) {o : Int × gI} (h : f302 N 1032 9 x1 s = some o) : iEE L (d + 4) 302 [vR 1032, vI x1] (s, g_rho) (some (vI o.1), (o.2, g_rho)) := by
  refine iEE.of (wr := false) (d := d + 3) (md := gm_302) rfl rfl rfl (iRR.of 401 ?_)
  obtain ⟨i2, s1, h1, h⟩ := i_o2_inv h
  refine iRT.call (f303_1032_ok L N d _ _ _ h1) ?_
  cases h
  exact iRT.ret
set_option maxHeartbeats 30000 in
theorem f81_44_1_at38_ok (L N d : Nat) : ∀ (n : Nat) (x2 : Int) (x3 : Int) {u4 : Option iV} (s : gI) (o : Int × gI), f81_at38 N n x2 x3 s = some o → iRR false L (d + 5) kj81 k81_38 [some (vR 44), some (vR 1), some (vI x2), some (vI x3), u4] [] (s, g_rho) (some (vI o.1), (o.2, g_rho)) := by
  intro n
  induction n with
  | zero => intro _ _ _ _ _ h; cases h
  | succ n ih =>
    intro x2 x3 u4 s o h
    refine iRR.of 401 ?_
    refine iRT.ite h (fun h => ?_) (fun h => ?_)
    · obtain ⟨s1, h1, h⟩ := i_o1_inv h
      refine iRT.call (f97_1_ok L N d  _ h1) ?_
      replace h := (ib1_inv h).2
      cases h
      exact iRT.ret
    · obtain ⟨i3, s2, h1, h⟩ := i_o2_inv h
      refine iRT.call (f103_1_ok L N (d + 4) _ _ h1) ?_
      obtain ⟨i5, s4, h1, h⟩ := i_o2_inv h
      refine iRT.call (f302_1032_ok L N (d + 1) _ _ h1) ?_
      refine iRT.ite h (fun h => ?_) (fun h => ?_)
      · refine iRT.ov h fun h => ?_
        refine iRT.ov h fun h => ?_
        refine iRT.ck h fun h => ?_
        refine iRT.ov h fun h => ?_
        exact iRT.go 1 (ih _ _ _ _ h) (fun _ _ => rfl)
      · obtain ⟨i9, s8, h1, h⟩ := i_o2_inv h
        refine iRT.call (f104_1_ok L N (d + 4) _ _ h1) ?_
        refine iRT.b1 h fun h => ?_
        cases h
        exact iRT.ret
set_option maxHeartbeats 30000 in
theorem f81_44_1_ok (L N d : Nat) (x2 : Int) (s : gI) {o : Int × gI} (h : f81 N x2 s = some o) : iEE L (d + 6) 81 [vR 44, vR 1, vI x2] (s, g_rho) (some (vI o.1), (o.2, g_rho)) := by
  refine iEE.of (wr := false) (d := d + 5) (md := gm_81) rfl rfl rfl (iRR.of 401 ?_)
  refine iRT.ite h (fun h => ?_) (fun h => ?_)
  · refine iRT.ov h fun h => ?_
    refine iRT.ite h (fun h => ?_) (fun h => ?_)
    · exact iRT.go 2 (f81_44_1_at38_ok L N d N _ _ _ _ h) (fun _ _ => rfl)
    · obtain ⟨i2, s1, h1, h⟩ := i_o2_inv h
      refine iRT.call (f104_1_ok L N (d + 4) _ _ h1) ?_
      refine iRT.b1 h fun h => ?_
      cases h
      exact iRT.ret
  · obtain ⟨i4, s3, h1, h⟩ := i_o2_inv h
    refine iRT.call (f104_1_ok L N (d + 4) _ _ h1) ?_
    refine iRT.b1 h fun h => ?_
    cases h
    exact iRT.ret
set_option maxHeartbeats 30000 in
theorem f80_44_1_at127_ok (L N d : Nat) (z0 : Int) {u0 : Option iV} {u1 : Option iV} {u2 : Option iV} (s : gI) {o : Int × gI} (h : f80_at127 N z0 s = some o) : iRR false L (d + 6) kj80 k80_127 [u0, u1, u2] [vI z0, vR 1] (s, g_rho) (some (vI o.1), (o.2, g_rho)) := by
  refine iRR.of 401 ?_
  obtain ⟨i2, s1, h1, h⟩ := i_o2_inv h
  refine iRT.call (f104_1_ok L N (d + 5) _ _ h1) ?_
  refine iRT.ite h (fun h => ?_) (fun h => ?_)
  · replace h := (ib1_inv h).2
    cases h
    exact iRT.ret
  · replace h := (ib1_inv h).2
    cases h
    exact iRT.ret
set_option maxHeartbeats 30000 in
theorem f80_44_1_at64_ok (L N d : Nat) : ∀ (n : Nat) (x2 : Int) (s : gI) (o : Int × gI), f80_at64 N n x2 s = some o → iRR false L (d + 6) kj80 k80_64 [some (vR 44), some (vR 1), some (vI x2)] [] (s, g_rho) (some (vI o.1), (o.2, g_rho)) := by
  intro n
  induction n with
  | zero => intro _ _ _ h; cases h
  | succ n ih =>
    intro x2 s o h
    refine iRR.of 401 ?_
    refine iRT.ite h (fun h => ?_) (fun h => ?_)
    · refine iRT.ite h (fun h => ?_) (fun h => ?_)
      · replace h := (ib1_inv h).2
        cases h
        exact iRT.ret
      · obtain ⟨i2, s1, h1, h⟩ := i_o2_inv h
        refine iRT.call (f101_1_1030_ok L N (d + 1)  _ h1) ?_
        refine iRT.ite h (fun h => ?_) (fun h => ?_)
        · exact iRT.go 1 (f80_44_1_at127_ok L N d _ _ h) (fun _ _ => rfl)
        · exact iRT.go 2 (f80_44_1_at127_ok L N d _ _ h) (fun _ _ => rfl)
    · obtain ⟨i4, s3, h1, h⟩ := i_o2_inv h
      refine iRT.call (f105_1_1030_ok L N d  _ h1) ?_
      refine iRT.ite h (fun h => ?_) (fun h => ?_)
      · replace h := (ib1_inv h).2
        cases h
        exact iRT.ret
      · obtain ⟨i6, s5, h1, h⟩ := i_o2_inv h
        refine iRT.call (f81_44_1_ok L N d _ _ h1) ?_
        refine iRT.ite h (fun h => ?_) (fun h => ?_)
        · replace h := (ib1_inv h).2
          cases h
          exact iRT.ret
        · obtain ⟨i8, s7, h1, h⟩ := i_o2_inv h
          refine iRT.call (f106_1_ok L N d  _ h1) ?_
          refine iRT.ite h (fun h => ?_) (fun h => ?_)
          · replace h := (ib1_inv h).2
            cases h
            exact iRT.ret
          · refine iRT.ov h fun h => ?_
            exact iRT.go 1 (ih _ _ _ h) (fun _ _ => rfl)
set_option maxHeartbeats 30000 in
theorem f80_44_1_ok (L N d : Nat) (s : gI) {o : Int × gI} (h : f80 N  s = some o) : iEE L (d + 7) 80 [vR 44, vR 1] (s, g_rho) (some (vI o.1), (o.2, g_rho)) := by
  refine iEE.of (wr := false) (d := d + 6) (md := gm_80) rfl rfl rfl (iRR.of 401 ?_)
  obtain ⟨s1, h1, h⟩ := i_o1_inv h
  refine iRT.call (f96_1_ok L N d  _ h1) ?_
  obtain ⟨i3, s2, h1, h⟩ := i_o2_inv h
  refine iRT.call (f105_1_1028_ok L N d  _ h1) ?_
  refine iRT.ite h (fun h => ?_) (fun h => ?_)
  · replace h := (ib1_inv h).2
    cases h
    exact iRT.ret
  · obtain ⟨i5, s4, h1, h⟩ := i_o2_inv h
    refine iRT.call (f107_1_ok L N d _ _ _ h1) ?_
    refine iRT.ite h (fun h => ?_) (fun h => ?_)
    · replace h := (ib1_inv h).2
      cases h
      exact iRT.ret
    · obtain ⟨i8, s7, h1, h⟩ := i_o2_inv h
      refine iRT.call (f107_1_ok L N d _ _ _ h1) ?_
      refine iRT.ite h (fun h => ?_) (fun h => ?_)
      · replace h := (ib1_inv h).2
        cases h
        exact iRT.ret
      · obtain ⟨i11, s10, h1, h⟩ := i_o2_inv h
        refine iRT.call (f106_1_ok L N d  _ h1) ?_
        refine iRT.ite h (fun h => ?_) (fun h => ?_)
        · replace h := (ib1_inv h).2
          cases h
          exact iRT.ret
        · exact iRT.go 2 (f80_44_1_at64_ok L N d N _ _ _ h) (fun _ _ => rfl)
set_option maxHeartbeats 30000 in
theorem f321_7R_at5_ok (L N d : Nat) : ∀ (n : Nat) (x1 : Int) (x2 : Int) (x3 : Int) (s : gI) (o : gI), f321_at5 N 7 8 n x1 x2 x3 s = some o → iRR false L (d + 0) kj321 k321_5 [some (vR 7), some (vI x1), some (vI x2), some (vI x3)] [] (s, i_rhoR) (none, (o, i_rhoR)) := by
  intro n
  induction n with
  | zero => intro _ _ _ _ _ h; cases h
  | succ n ih =>
    intro x1 x2 x3 s o h
    refine iRR.of 401 ?_
    refine iRT.ite h (fun h => ?_) (fun h => ?_)
    · cases h
      exact iRT.ret
    · refine iRT.ck h fun h => ?_
      refine iRT.ov h fun h => ?_
      exact iRT.go 1 (ih _ _ _ _ _ h) (fun _ _ => rfl)
set_option maxHeartbeats 30000 in
theorem f321_7R_ok (L N d : Nat) (x1 : Int) (s : gI) {o : gI} (h : f321 N 7 8 x1 s = some o) : iEE L (d + 1) 321 [vR 7, vI x1] (s, i_rhoR) (none, (o, i_rhoR)) := by
  refine iEE.of (wr := false) (d := d + 0) (md := gm_321) rfl rfl rfl (iRR.of 6 ?_)
  replace h := (iov_inv h).2
  exact iRT.go 5 (f321_7R_at5_ok L N d N _ _ _ _ _ h) (fun _ _ => rfl)
set_option maxHeartbeats 30000 in
theorem f321_8R_at5_ok (L N d : Nat) : ∀ (n : Nat) (x1 : Int) (x2 : Int) (x3 : Int) (s : gI) (o : gI), f321_at5 N 8 8 n x1 x2 x3 s = some o → iRR false L (d + 0) kj321 k321_5 [some (vR 8), some (vI x1), some (vI x2), some (vI x3)] [] (s, i_rhoR) (none, (o, i_rhoR)) := by
  intro n
  induction n with
  | zero => intro _ _ _ _ _ h; cases h
  | succ n ih =>
    intro x1 x2 x3 s o h
    refine iRR.of 401 ?_
    refine iRT.ite h (fun h => ?_) (fun h => ?_)
    · cases h
      exact iRT.ret
    · refine iRT.ck h fun h => ?_
      refine iRT.ov h fun h => ?_
      exact iRT.go 1 (ih _ _ _ _ _ h) (fun _ _ => rfl)
set_option maxHeartbeats 30000 in
theorem f321_8R_ok (L N d : Nat) (x1 : Int) (s : gI) {o : gI} (h : f321 N 8 8 x1 s = some o) : iEE L (d + 1) 321 [vR 8, vI x1] (s, i_rhoR) (none, (o, i_rhoR)) := by
  refine iEE.of (wr := false) (d := d + 0) (md := gm_321) rfl rfl rfl (iRR.of 6 ?_)
  replace h := (iov_inv h).2
  exact iRT.go 5 (f321_8R_at5_ok L N d N _ _ _ _ _ h) (fun _ _ => rfl)
set_option maxHeartbeats 30000 in
theorem f321_9R_at5_ok (L N d : Nat) : ∀ (n : Nat) (x1 : Int) (x2 : Int) (x3 : Int) (s : gI) (o : gI), f321_at5 N 9 64 n x1 x2 x3 s = some o → iRR false L (d + 0) kj321 k321_5 [some (vR 9), some (vI x1), some (vI x2), some (vI x3)] [] (s, i_rhoR) (none, (o, i_rhoR)) := by
  intro n
  induction n with
  | zero => intro _ _ _ _ _ h; cases h
  | succ n ih =>
    intro x1 x2 x3 s o h
    refine iRR.of 401 ?_
    refine iRT.ite h (fun h => ?_) (fun h => ?_)
    · cases h
      exact iRT.ret
    · refine iRT.ck h fun h => ?_
      refine iRT.ov h fun h => ?_
      exact iRT.go 1 (ih _ _ _ _ _ h) (fun _ _ => rfl)
set_option maxHeartbeats 30000 in
theorem f321_9R_ok (L N d : Nat) (x1 : Int) (s : gI) {o : gI} (h : f321 N 9 64 x1 s = some o) : iEE L (d + 1) 321 [vR 9, vI x1] (s, i_rhoR) (none, (o, i_rhoR)) := by
  refine iEE.of (wr := false) (d := d + 0) (md := gm_321) rfl rfl rfl (iRR.of 6 ?_)
  replace h := (iov_inv h).2
  exact iRT.go 5 (f321_9R_at5_ok L N d N _ _ _ _ _ h) (fun _ _ => rfl)
set_option maxHeartbeats 30000 in
theorem f321_10R_at5_ok (L N d : Nat) : ∀ (n : Nat) (x1 : Int) (x2 : Int) (x3 : Int) (s : gI) (o : gI), f321_at5 N 10 8 n x1 x2 x3 s = some o → iRR false L (d + 0) kj321 k321_5 [some (vR 10), some (vI x1), some (vI x2), some (vI x3)] [] (s, i_rhoR) (none, (o, i_rhoR)) := by
  intro n
  induction n with
  | zero => intro _ _ _ _ _ h; cases h
  | succ n ih =>
    intro x1 x2 x3 s o h
    refine iRR.of 401 ?_
    refine iRT.ite h (fun h => ?_) (fun h => ?_)
    · cases h
      exact iRT.ret
    · refine iRT.ck h fun h => ?_
      refine iRT.ov h fun h => ?_
      exact iRT.go 1 (ih _ _ _ _ _ h) (fun _ _ => rfl)
set_option maxHeartbeats 30000 in
theorem f321_10R_ok (L N d : Nat) (x1 : Int) (s : gI) {o : gI} (h : f321 N 10 8 x1 s = some o) : iEE L (d + 1) 321 [vR 10, vI x1] (s, i_rhoR) (none, (o, i_rhoR)) := by
  refine iEE.of (wr := false) (d := d + 0) (md := gm_321) rfl rfl rfl (iRR.of 6 ?_)
  replace h := (iov_inv h).2
  exact iRT.go 5 (f321_10R_at5_ok L N d N _ _ _ _ _ h) (fun _ _ => rfl)
set_option maxHeartbeats 30000 in
theorem f87_6R_ok (L N d : Nat) (s : gI) {o : gI} (h : f87 N  s = some o) : iEE L (d + 2) 87 [vR 6] (s, i_rhoR) (none, (o, i_rhoR)) := by
  refine iEE.of (wr := false) (d := d + 1) (md := gm_87) rfl rfl rfl (iRR.of 401 ?_)
  obtain ⟨s1, h1, h⟩ := i_o1_inv h
  refine iRT.call (f321_7R_ok L N d _ _ h1) ?_
  obtain ⟨s2, h1, h⟩ := i_o1_inv h
  refine iRT.call (f321_8R_ok L N d _ _ h1) ?_
  obtain ⟨s3, h1, h⟩ := i_o1_inv h
  refine iRT.call (f321_9R_ok L N d _ _ h1) ?_
  obtain ⟨s4, h1, h⟩ := i_o1_inv h
  refine iRT.call (f321_10R_ok L N d _ _ h1) ?_
  cases h
  exact iRT.ret
set_option maxHeartbeats 30000 in
theorem f41_41R_ok (L N d : Nat) (s : gI) {o : gI} (h : f41 N  s = some o) : iEE L (d + 1) 41 [vR 41] (s, i_rhoR) (none, (o, i_rhoR)) := by
  refine iEE.of (wr := false) (d := d + 0) (md := gm_41) rfl rfl rfl (iRR.of 401 ?_)
  cases h
  exact iRT.ret
set_option maxHeartbeats 30000 in
theorem f165_0R_ok (L N d : Nat) (s : gI) {o : gI} (h : f165 N  s = some o) : iEE L (d + 3) 165 [vR 0] (s, i_rhoR) (none, (o, i_rhoR)) := by
  refine iEE.of (wr := false) (d := d + 2) (md := gm_165) rfl rfl rfl (iRR.of 401 ?_)
  obtain ⟨s1, h1, h⟩ := i_o1_inv h
  refine iRT.call (f87_6R_ok L N d  _ h1) ?_
  obtain ⟨s2, h1, h⟩ := i_o1_inv h
  refine iRT.call (f41_41R_ok L N (d + 1)  _ h1) ?_
  cases h
  exact iRT.ret
set_option maxHeartbeats 30000 in
theorem f135_0_ok (L N d : Nat) (s : gI) {o : Int × gI × (Nat → Nat → Nat)} (h : f135 N  s = some o) : iEE L (d + 8) 135 [vR 0] (s, g_rho) (some (vI o.1), (o.2.1, o.2.2)) := by
  refine iEE.of (wr := false) (d := d + 7) (md := gm_135) rfl rfl rfl (iRR.of 401 ?_)
  obtain ⟨i2, s1, h1, h⟩ := i_o2_inv h
  refine iRT.call (f80_44_1_ok L N d  _ h1) ?_
  refine iRT.ite h (fun h => ?_) (fun h => ?_)
  · cases h
    exact iRT.ret
  · obtain ⟨s4, h1, h⟩ := i_o1_inv h
    refine iRT.call (f165_0R_ok L N (d + 4)  _ h1) ?_
    cases h
    exact iRT.ret
set_option maxHeartbeats 30000 in
theorem f167_0_ok (L N d : Nat) (x1 : Int) (s : gI) {o : Int × gI} (h : f167 N x1 s = some o) : iEE L (d + 1) 167 [vR 0, vI x1] (s, g_rho) (some (vI o.1), (o.2, g_rho)) := by
  refine iEE.of (wr := false) (d := d + 0) (md := gm_167) rfl rfl rfl (iRR.of 401 ?_)
  refine iRT.ite h (fun h => ?_) (fun h => ?_)
  · replace h := (ib1_inv h).2
    cases h
    exact iRT.ret
  · refine iRT.ite h (fun h => ?_) (fun h => ?_)
    · replace h := (ib1_inv h).2
      cases h
      exact iRT.ret
    · replace h := (ib1_inv h).2
      cases h
      exact iRT.ret
set_option maxHeartbeats 30000 in
theorem f171_ok (L N d : Nat) (x0 : Int) (s : gI) {o : Int × gI} (h : f171 N x0 s = some o) : iEE L (d + 1) 171 [vI x0] (s, g_rho) (some (vI o.1), (o.2, g_rho)) := by
  refine iEE.of (wr := false) (d := d + 0) (md := gm_171) rfl rfl rfl (iRR.of 401 ?_)
  refine iRT.ite h (fun h => ?_) (fun h => ?_)
  · cases h
    exact iRT.ret
  · cases h
    exact iRT.ret
set_option maxHeartbeats 30000 in
theorem f138_0_ok (L N d : Nat) (x1 : Int) (x2 : Int) (s : gI) {o : Int × gI} (h : f138 N x1 x2 s = some o) : iEE L (d + 2) 138 [vR 0, vI x1, vI x2] (s, g_rho) (some (vI o.1), (o.2, g_rho)) := by
  refine iEE.of (wr := false) (d := d + 1) (md := gm_138) rfl rfl rfl (iRR.of 401 ?_)
  obtain ⟨i2, s1, h1, h⟩ := i_o2_inv h
  refine iRT.call (f167_0_ok L N d _ _ h1) ?_
  refine iRT.ite h (fun h => ?_) (fun h => ?_)
  · cases h
    exact iRT.ret
  · rcases iRT.cs h with ⟨hx0, h⟩ | ⟨hx0, h⟩
    · refine iRT.swin hx0 (off := 33) (by decide) (by decide) (by decide) ?_
      refine iRT.ck h fun h => ?_
      cases h
      exact iRT.ret
    · skip
      rcases iRT.cs h with ⟨hx1, h⟩ | ⟨hx1, h⟩
      · refine iRT.swin hx1 (off := 46) (by decide) (by decide) (by decide) ?_
        refine iRT.ck h fun h => ?_
        cases h
        exact iRT.ret
      · skip
        rcases iRT.cs h with ⟨hx2, h⟩ | ⟨hx2, h⟩
        · refine iRT.swin hx2 (off := 59) (by decide) (by decide) (by decide) ?_
          refine iRT.ck h fun h => ?_
          cases h
          exact iRT.ret
        · skip
          rcases iRT.cs h with ⟨hx3, h⟩ | ⟨hx3, h⟩
          · refine iRT.swin hx3 (off := 72) (by decide) (by decide) (by decide) ?_
            refine iRT.ck h fun h => ?_
            obtain ⟨i4, s3, h1, h⟩ := i_o2_inv h
            refine iRT.call (f171_ok L N d _ _ h1) ?_
            cases h
            exact iRT.ret
          · skip
            rcases iRT.cs h with ⟨hx4, h⟩ | ⟨hx4, h⟩
            · refine iRT.swin hx4 (off := 85) (by decide) (by decide) (by decide) ?_
              refine iRT.ck h fun h => ?_
              cases h
              exact iRT.ret
            · skip
              refine iRT.swout (by omega) (by decide) ?_
              cases h
              exact iRT.ret
set_option maxHeartbeats 30000 in
theorem f89_ok (L N d : Nat) (x0 : Int) (s : gI) {o : Int × gI} (h : f89 N x0 s = some o) : iEE L (d + 1) 89 [vI x0] (s, g_rho) (some (vI o.1), (o.2, g_rho)) := by
  refine iEE.of (wr := false) (d := d + 0) (md := gm_89) rfl rfl rfl (iRR.of 401 ?_)
  refine iRT.ite h (fun h => ?_) (fun h => ?_)
  · refine iRT.ite h (fun h => ?_) (fun h => ?_)
    · cases h
      exact iRT.ret
    · cases h
      exact iRT.ret
  · refine iRT.ov h fun h => ?_
    cases h
    exact iRT.ret
set_option maxHeartbeats 30000 in
theorem f88_6_at22_ok (L N d : Nat) (x1 : Int) (x2 : Int) {u3 : Option iV} {u4 : Option iV} (s : gI) {o : gI} (h : f88_at22 N x1 x2 s = some o) : iRR false L (d + 1) kj88 k88_22 [some (vR 6), some (vI x1), some (vI x2), u3, u4] [] (s, g_rho) (none, (o, g_rho)) := by
  refine iRR.of 401 ?_
  refine iRT.ck h fun h => ?_
  obtain ⟨i3, s2, h1, h⟩ := i_o2_inv h
  refine iRT.call (f89_ok L N d _ _ h1) ?_
  refine iRT.ite h (fun h => ?_) (fun h => ?_)
  · cases h
    exact iRT.ret
  · refine iRT.ck h fun h => ?_
    cases h
    exact iRT.ret
set_option maxHeartbeats 30000 in
theorem f88_6_ok (L N d : Nat) (x1 : Int) (x2 : Int) (s : gI) {o : gI} (h : f88 N x1 x2 s = some o) : iEE L (d + 2) 88 [vR 6, vI x1, vI x2] (s, g_rho) (none, (o, g_rho)) := by
  refine iEE.of (wr := false) (d := d + 1) (md := gm_88) rfl rfl rfl (iRR.of 15 ?_)
  refine iRT.ck h fun h => ?_
  obtain ⟨i2, s1, h1, h⟩ := i_o2_inv h
  refine iRT.call (f89_ok L N d _ _ h1) ?_
  refine iRT.ite h (fun h => ?_) (fun h => ?_)
  · exact iRT.go 0 (f88_6_at22_ok L N d _ _ _ h) (fun _ _ => rfl)
  · refine iRT.ck h fun h => ?_
    exact iRT.go 0 (f88_6_at22_ok L N d _ _ _ h) (fun _ _ => rfl)
set_option maxHeartbeats 30000 in
theorem f83_12_9_ok (L N d : Nat) (x1 : Int) (x2 : Int) (s : gI) {o : Int × gI} (h : f83 N 9 x1 x2 s = some o) : iEE L (d + 1) 83 [vR 12, vI x1, vI x2, vR 9] (s, g_rho) (some (vI o.1), (o.2, g_rho)) := by
  refine iEE.of (wr := false) (d := d + 0) (md := gm_83) rfl rfl rfl (iRR.of 401 ?_)
  refine iRT.ite h (fun h => ?_) (fun h => ?_)
  · cases h
    exact iRT.ret
  · refine iRT.ite h (fun h => ?_) (fun h => ?_)
    · cases h
      exact iRT.ret
    · refine iRT.ite h (fun h => ?_) (fun h => ?_)
      · refine iRT.ite h (fun h => ?_) (fun h => ?_)
        · refine iRT.ov h fun h => ?_
          refine iRT.ov h fun h => ?_
          refine iRT.ck h fun h => ?_
          refine iRT.ite h (fun h => ?_) (fun h => ?_)
          · cases h
            exact iRT.ret
          · refine iRT.ck h fun h => ?_
            refine iRT.ite h (fun h => ?_) (fun h => ?_)
            · refine iRT.ck h fun h => ?_
              refine iRT.ite h (fun h => ?_) (fun h => ?_)
              · cases h
                exact iRT.ret
              · refine iRT.ov h fun h => ?_
                cases h
                exact iRT.ret
            · cases h
              exact iRT.ret
        · cases h
          exact iRT.ret
      · cases h
        exact iRT.ret
set_option maxHeartbeats 30000 in
theorem f53_11_ok (L N d : Nat) (x1 : Int) (s : gI) {o : Int × gI} (h : f53 N x1 s = some o) : iEE L (d + 1) 53 [vR 11, vI x1] (s, g_rho) (some (vI o.1), (o.2, g_rho)) := by
  refine iEE.of (wr := false) (d := d + 0) (md := gm_53) rfl rfl rfl (iRR.of 401 ?_)
  refine iRT.ck h fun h => ?_
  refine iRT.ite h (fun h => ?_) (fun h => ?_)
  · cases h
    exact iRT.ret
  · refine iRT.ite h (fun h => ?_) (fun h => ?_)
    · cases h
      exact iRT.ret
    · cases h
      exact iRT.ret
set_option maxHeartbeats 30000 in
theorem f82_12_9_at48_ok (L N d : Nat) (x1 : Int) (x4 : Int) (x5 : Int) {u2 : Option iV} {u6 : Option iV} (s : gI) {o : Int × gI} (h : f82_at48 N 9 x1 x4 x5 s = some o) : iRR false L (d + 0) kj82 k82_48 [some (vR 12), some (vI x1), u2, some (vR 9), some (vI x4), some (vI x5), u6] [] (s, g_rho) (some (vI o.1), (o.2, g_rho)) := by
  refine iRR.of 401 ?_
  refine iRT.ite h (fun h => ?_) (fun h => ?_)
  · refine iRT.ite h (fun h => ?_) (fun h => ?_)
    · cases h
      exact iRT.ret
    · refine iRT.ite h (fun h => ?_) (fun h => ?_)
      · cases h
        exact iRT.ret
      · refine iRT.ite h (fun h => ?_) (fun h => ?_)
        · refine iRT.ov h fun h => ?_
          refine iRT.ov h fun h => ?_
          refine iRT.ck h fun h => ?_
          refine iRT.ite h (fun h => ?_) (fun h => ?_)
          · refine iRT.ck h fun h => ?_
            refine iRT.ite h (fun h => ?_) (fun h => ?_)
            · cases h
              exact iRT.ret
            · refine iRT.ov h fun h => ?_
              cases h
              exact iRT.ret
          · refine iRT.ck h fun h => ?_
            refine iRT.ite h (fun h => ?_) (fun h => ?_)
            · cases h
              exact iRT.ret
            · refine iRT.ck h fun h => ?_
              refine iRT.ite h (fun h => ?_) (fun h => ?_)
              · cases h
                exact iRT.ret
              · cases h
                exact iRT.ret
        · cases h
          exact iRT.ret
  · cases h
    exact iRT.ret
set_option maxHeartbeats 30000 in
theorem f82_12_9_at45_ok (L N d : Nat) (x1 : Int) (x5 : Int) (z0 : Int) (z1 : Int) {u2 : Option iV} {u4 : Option iV} {u6 : Option iV} (s : gI) {o : Int × gI} (h : f82_at45 N 9 x1 x5 z0 z1 s = some o) : iRR false L (d + 0) kj82 k82_45 [some (vR 12), some (vI x1), u2, some (vR 9), u4, some (vI x5), u6] [vI z0, vI z1] (s, g_rho) (some (vI o.1), (o.2, g_rho)) := by
  refine iRR.of 3 ?_
  refine iRT.ov h fun h => ?_
  exact iRT.go 1 (f82_12_9_at48_ok L N d _ _ _ _ h) (fun _ _ => rfl)
set_option maxHeartbeats 30000 in
theorem f82_12_9_ok (L N d : Nat) (x1 : Int) (x2 : Int) (s : gI) {o : Int × gI} (h : f82 N 9 x1 x2 s = some o) : iEE L (d + 1) 82 [vR 12, vI x1, vI x2, vR 9] (s, g_rho) (some (vI o.1), (o.2, g_rho)) := by
  refine iEE.of (wr := false) (d := d + 0) (md := gm_82) rfl rfl rfl (iRR.of 20 ?_)
  refine iRT.dv h fun h => ?_
  refine iRT.dv h fun h => ?_
  refine iRT.ite h (fun h => ?_) (fun h => ?_)
  · refine iRT.ov h fun h => ?_
    exact iRT.go 1 (f82_12_9_at48_ok L N d _ _ _ _ h) (fun _ _ => rfl)
  · refine iRT.ite h (fun h => ?_) (fun h => ?_)
    · refine iRT.ov h fun h => ?_
      exact iRT.go 1 (f82_12_9_at48_ok L N d _ _ _ _ h) (fun _ _ => rfl)
    · refine iRT.ite h (fun h => ?_) (fun h => ?_)
      · exact iRT.go 2 (f82_12_9_at45_ok L N d _ _ _ _ _ h) (fun _ _ => rfl)
      · exact iRT.go 1 (f82_12_9_at45_ok L N d _ _ _ _ _ h) (fun _ _ => rfl)
set_option maxHeartbeats 30000 in
theorem f84_12_9_at11_ok (L N d : Nat) : ∀ (n : Nat) (x2 : Int) (y4 : Int) (x6 : Int) (x7 : Int) {u1 u8 u9 : Option iV} (s : gI) (o : Int × gI), f84_at11 N 9 n x2 y4 x6 x7 s = some o → iRR false L (d + 1) kj84 k84_11 [some (vR 12), u1, some (vI x2), some (vR 9), some (vJ y4), none, some (vI x6), some (vI x7), u8, u9] [] (s, g_rho) (some (vI o.1), (o.2, g_rho)) := by
  intro n
  induction n with
  | zero => intro _ _ _ _ _ _ _ _ _ h; cases h
  | succ n ih =>
    intro x2 y4 x6 x7 u1 u8 u9 s o h
    refine iRR.of 401 ?_
    refine iRT.ite h (fun h => ?_) (fun h => ?_)
    · cases h
      exact iRT.ret
    · refine iRT.ck h fun h => ?_
      refine iRT.ov h fun h => ?_
      refine iRT.ite h (fun h => ?_) (fun h => ?_)
      · cases h
        exact iRT.ret
      · refine iRT.ite h (fun h => ?_) (fun h => ?_)
        · obtain ⟨i3, s2, h1, h⟩ := i_o2_inv h
          refine iRT.call (f82_12_9_ok L N d _ _ _ h1) ?_
          refine iRT.ite h (fun h => ?_) (fun h => ?_)
          · refine iRT.ite h (fun h => ?_) (fun h => ?_)
            · refine iRT.ov h fun h => ?_
              exact iRT.go 1 (ih _ _ _ _ _ _ h) (fun _ _ => rfl)
            · cases h
              exact iRT.ret
          · cases h
            exact iRT.ret
        · cases h
          exact iRT.ret
set_option maxHeartbeats 30000 in
theorem f84_12_9_ok (L N d : Nat) (x1 : Int) (x2 : Int) (s : gI) {o : Int × gI} (h : f84 N 9 x1 x2 s = some o) : iEE L (d + 2) 84 [vR 12, vI x1, vI x2, vR 9] (s, g_rho) (some (vI o.1), (o.2, g_rho)) := by
  refine iEE.of (wr := false) (d := d + 1) (md := gm_84) rfl rfl rfl (iRR.of 9 ?_)
  exact iRT.go 8 (f84_12_9_at11_ok L N d N _ _ _ _ _ _ h) (fun _ _ => rfl)
set_option maxHeartbeats 30000 in
theorem f51_11_at5_ok (L N d : Nat) : ∀ (n : Nat) (x2 : Int) (x3 : Int) (x4 : Int) {u1 u5 : Option iV} (s : gI) (o : Int × gI), f51_at5 N n x2 x3 x4 s = some o → iRR false L (d + 1) kj51 k51_5 [some (vR 11), u1, some (vI x2), some (vI x3), some (vI x4), u5] [] (s, g_rho) (some (vI o.1), (o.2, g_rho)) := by
  intro n
  induction n with
  | zero => intro _ _ _ _ _ _ _ h; cases h
  | succ n ih =>
    intro x2 x3 x4 u1 u5 s o h
    refine iRR.of 401 ?_
    refine iRT.ite h (fun h => ?_) (fun h => ?_)
    · cases h
      exact iRT.ret
    · refine iRT.ite h (fun h => ?_) (fun h => ?_)
      · cases h
        exact iRT.ret
      · obtain ⟨i2, s1, h1, h⟩ := i_o2_inv h
        refine iRT.call (f82_12_9_ok L N d _ _ _ h1) ?_
        refine iRT.ite h (fun h => ?_) (fun h => ?_)
        · cases h
          exact iRT.ret
        · refine iRT.ov h fun h => ?_
          exact iRT.go 1 (ih _ _ _ _ _ h) (fun _ _ => rfl)
set_option maxHeartbeats 30000 in
theorem f51_11_ok (L N d : Nat) (x1 : Int) (x2 : Int) (s : gI) {o : Int × gI} (h : f51 N x1 x2 s = some o) : iEE L (d + 2) 51 [vR 11, vI x1, vI x2] (s, g_rho) (some (vI o.1), (o.2, g_rho)) := by
  refine iEE.of (wr := false) (d := d + 1) (md := gm_51) rfl rfl rfl (iRR.of 5 ?_)
  exact iRT.go 4 (f51_11_at5_ok L N d N _ _ _ _ _ h) (fun _ _ => rfl)
set_option maxHeartbeats 30000 in
theorem f52_11_ok (L N d : Nat) (x1 : Int) (x2 : Int) (s : gI) {o : gI} (h : f52 N x1 x2 s = some o) : iEE L (d + 3) 52 [vR 11, vI x1, vI x2] (s, g_rho) (none, (o, g_rho)) := by
  refine iEE.of (wr := false) (d := d + 2) (md := gm_52) rfl rfl rfl (iRR.of 401 ?_)
  obtain ⟨s1, h1, h⟩ := i_o1_inv h
  refine iRT.call (f88_6_ok L N d _ _ _ h1) ?_
  refine iRT.ite h (fun h => ?_) (fun h => ?_)
  · cases h
    exact iRT.ret
  · obtain ⟨i3, s2, h1, h⟩ := i_o2_inv h
    refine iRT.call (f53_11_ok L N (d + 1) _ _ h1) ?_
    obtain ⟨i5, s4, h1, h⟩ := i_o2_inv h
    refine iRT.call (f84_12_9_ok L N d _ _ _ h1) ?_
    obtain ⟨s6, h1, h⟩ := i_o1_inv h
    refine iRT.call (f88_6_ok L N d _ _ _ h1) ?_
    cases h
    exact iRT.ret
set_option maxHeartbeats 30000 in
theorem f49_11_at140_ok (L N d : Nat) (x1 : Int) (x4 : Int) (x5 : Int) {u2 : Option iV} {u3 : Option iV} {u6 : Option iV} (s : gI) {o : Int × gI} (h : f49_at140 N x1 x4 x5 s = some o) : iRR false L (d + 3) kj49 k49_140 [some (vR 11), some (vI x1), u2, u3, some (vI x4), some (vI x5), u6] [] (s, g_rho) (some (vI o.1), (o.2, g_rho)) := by
  refine iRR.of 401 ?_
  obtain ⟨s1, h1, h⟩ := i_o1_inv h
  refine iRT.call (f88_6_ok L N (d + 1) _ _ _ h1) ?_
  cases h
  exact iRT.ret
set_option maxHeartbeats 30000 in
theorem f49_11_at110_ok (L N d : Nat) (x1 : Int) (x4 : Int) (x5 : Int) {u2 : Option iV} {u3 : Option iV} {u6 : Option iV} (s : gI) {o : Int × gI} (h : f49_at110 N x1 x4 x5 s = some o) : iRR false L (d + 3) kj49 k49_110 [some (vR 11), some (vI x1), u2, u3, some (vI x4), some (vI x5), u6] [] (s, g_rho) (some (vI o.1), (o.2, g_rho)) := by
  refine iRR.of 15 ?_
  refine iRT.ite h (fun h => ?_) (fun h => ?_)
  · exact iRT.go 0 (f49_11_at140_ok L N d _ _ _ _ h) (fun _ _ => rfl)
  · obtain ⟨i2, s1, h1, h⟩ := i_o2_inv h
    refine iRT.call (f53_11_ok L N (d + 2) _ _ h1) ?_
    obtain ⟨i4, s3, h1, h⟩ := i_o2_inv h
    refine iRT.call (f84_12_9_ok L N (d + 1) _ _ _ h1) ?_
    exact iRT.go 1 (f49_11_at140_ok L N d _ _ _ _ h) (fun _ _ => rfl)
set_option maxHeartbeats 30000 in
theorem f49_11_at108_ok (L N d : Nat) (x1 : Int) (x5 : Int) (z0 : Int) {u2 : Option iV} {u3 : Option iV} {u4 : Option iV} {u6 : Option iV} (s : gI) {o : Int × gI} (h : f49_at108 N x1 x5 z0 s = some o) : iRR false L (d + 3) kj49 k49_108 [some (vR 11), some (vI x1), u2, u3, u4, some (vI x5), u6] [vI z0] (s, g_rho) (some (vI o.1), (o.2, g_rho)) := by
  refine iRR.of 2 ?_
  exact iRT.go 1 (f49_11_at110_ok L N d _ _ _ _ h) (fun _ _ => rfl)
set_option maxHeartbeats 30000 in
theorem f49_11_at88_ok (L N d : Nat) (x1 : Int) (x4 : Int) (x5 : Int) {u2 : Option iV} {u3 : Option iV} {u6 : Option iV} (s : gI) {o : Int × gI} (h : f49_at88 N x1 x4 x5 s = some o) : iRR false L (d + 3) kj49 k49_88 [some (vR 11), some (vI x1), u2, u3, some (vI x4), some (vI x5), u6] [] (s, g_rho) (some (vI o.1), (o.2, g_rho)) := by
  refine iRR.of 9 ?_
  refine iRT.ck h fun h => ?_
  refine iRT.ite h (fun h => ?_) (fun h => ?_)
  · exact iRT.go 1 (f49_11_at108_ok L N d _ _ _ _ h) (fun _ _ => rfl)
  · exact iRT.go 2 (f49_11_at108_ok L N d _ _ _ _ h) (fun _ _ => rfl)
set_option maxHeartbeats 30000 in
theorem f49_11_at68_ok (L N d : Nat) (x1 : Int) (x4 : Int) (x5 : Int) (z0 : Int) (z1 : Int) {u2 : Option iV} {u3 : Option iV} {u6 : Option iV} (s : gI) {o : Int × gI} (h : f49_at68 N x1 x4 x5 z0 z1 s = some o) : iRR false L (d + 3) kj49 k49_68 [some (vR 11), some (vI x1), u2, u3, some (vI x4), some (vI x5), u6] [vI z0, vI z1, vR 11] (s, g_rho) (some (vI o.1), (o.2, g_rho)) := by
  refine iRR.of 10 ?_
  obtain ⟨i2, s1, h1, h⟩ := i_o2_inv h
  refine iRT.call (f51_11_ok L N (d + 1) _ _ _ h1) ?_
  refine iRT.ite h (fun h => ?_) (fun h => ?_)
  · exact iRT.go 0 (f49_11_at88_ok L N d _ _ _ _ h) (fun _ _ => rfl)
  · obtain ⟨s3, h1, h⟩ := i_o1_inv h
    refine iRT.call (f52_11_ok L N d _ _ _ h1) ?_
    exact iRT.go 0 (f49_11_at88_ok L N d _ _ _ _ h) (fun _ _ => rfl)
set_option maxHeartbeats 30000 in
theorem f49_11_at39_ok (L N d : Nat) (x1 : Int) (x4 : Int) (z0 : Int) {u2 : Option iV} {u3 : Option iV} {u5 : Option iV} {u6 : Option iV} (s : gI) {o : Int × gI} (h : f49_at39 N x1 x4 z0 s = some o) : iRR false L (d + 3) kj49 k49_39 [some (vR 11), some (vI x1), u2, u3, some (vI x4), u5, u6] [vI z0] (s, g_rho) (some (vI o.1), (o.2, g_rho)) := by
  refine iRR.of 16 ?_
  refine iRT.ite h (fun h => ?_) (fun h => ?_)
  · exact iRT.go 0 (f49_11_at110_ok L N d _ _ _ _ h) (fun _ _ => rfl)
  · refine iRT.ck h fun h => ?_
    refine iRT.ite h (fun h => ?_) (fun h => ?_)
    · exact iRT.go 2 (f49_11_at68_ok L N d _ _ _ _ _ _ h) (fun _ _ => rfl)
    · exact iRT.go 1 (f49_11_at68_ok L N d _ _ _ _ _ _ h) (fun _ _ => rfl)
set_option maxHeartbeats 30000 in
theorem f49_11_ok (L N d : Nat) (x1 : Int) (x2 : Int) (x3 : Int) (s : gI) {o : Int × gI} (h : f49 N x1 x2 x3 s = some o) : iEE L (d + 4) 49 [vR 11, vI x1, vI x2, vI x3] (s, g_rho) (some (vI o.1), (o.2, g_rho)) := by
  refine iEE.of (wr := false) (d := d + 3) (md := gm_49) rfl rfl rfl (iRR.of 19 ?_)
  obtain ⟨i2, s1, h1, h⟩ := i_o2_inv h
  refine iRT.call (f83_12_9_ok L N (d + 2) _ _ _ h1) ?_
  refine iRT.ite h (fun h => ?_) (fun h => ?_)
  · exact iRT.go 1 (f49_11_at39_ok L N d _ _ _ _ h) (fun _ _ => rfl)
  · refine iRT.ck h fun h => ?_
    exact iRT.go 1 (f49_11_at39_ok L N d _ _ _ _ h) (fun _ _ => rfl)
set_option maxHeartbeats 30000 in
theorem f55_11_at43_ok (L N d : Nat) {r_at5 : Int → Int → Int → Int → gI → Option (Int × gI)} (h_at5 : ∀ x1 x2 x3 x4 u5 s o, r_at5 x1 x2 x3 x4 s = some o → iRR false L (d + 0) kj55 k55_5 [some (vR 11), some (vI x1), some (vI x2), some (vI x3), some (vI x4), u5] [] (s, g_rho) (some (vI o.1), (o.2, g_rho))) (x1 : Int) (x2 : Int) (x3 : Int) (x4 : Int) (z0 : Int) {u5 : Option iV} (s : gI) {o : Int × gI} (h : f55_at43 N r_at5 x1 x2 x3 x4 z0 s = some o) : iRR false L (d + 0) kj55 k55_43 [some (vR 11), some (vI x1), some (vI x2), some (vI x3), some (vI x4), u5] [vI z0] (s, g_rho) (some (vI o.1), (o.2, g_rho)) := by
  refine iRR.of 19 ?_
  refine iRT.ov h fun h => ?_
  refine iRT.ov h fun h => ?_
  refine iRT.ck h fun h => ?_
  refine iRT.ite h (fun h => ?_) (fun h => ?_)
  · refine iRT.ite h (fun h => ?_) (fun h => ?_)
    · refine iRT.ov h fun h => ?_
      exact iRT.go 1 (h_at5 _ _ _ _ _ _ _ h) (fun _ _ => rfl)
    · refine iRT.ov h fun h => ?_
      exact iRT.go 1 (h_at5 _ _ _ _ _ _ _ h) (fun _ _ => rfl)
  · refine iRT.ov h fun h => ?_
    exact iRT.go 1 (h_at5 _ _ _ _ _ _ _ h) (fun _ _ => rfl)
set_option maxHeartbeats 30000 in
theorem f55_11_at38_ok (L N d : Nat) {r_at5 : Int → Int → Int → Int → gI → Option (Int × gI)} (h_at5 : ∀ x1 x2 x3 x4 u5 s o, r_at5 x1 x2 x3 x4 s = some o → iRR false L (d + 0) kj55 k55_5 [some (vR 11), some (vI x1), some (vI x2), some (vI x3), some (vI x4), u5] [] (s, g_rho) (some (vI o.1), (o.2, g_rho))) (x1 : Int) (x2 : Int) (x3 : Int) (x4 : Int) {u5 : Option iV} (s : gI) {o : Int × gI} (h : f55_at38 N r_at5 x1 x2 x3 x4 s = some o) : iRR false L (d + 0) kj55 k55_38 [some (vR 11), some (vI x1), some (vI x2), some (vI x3), some (vI x4), u5] [] (s, g_rho) (some (vI o.1), (o.2, g_rho)) := by
  refine iRR.of 3 ?_
  exact iRT.go 2 (f55_11_at43_ok L N d h_at5 _ _ _ _ _ _ h) (fun _ _ => rfl)
set_option maxHeartbeats 30000 in
theorem f55_11_at5_ok (L N d : Nat) : ∀ (n : Nat) (x1 : Int) (x2 : Int) (x3 : Int) (x4 : Int) {u5 : Option iV} (s : gI) (o : Int × gI), f55_at5 N n x1 x2 x3 x4 s = some o → iRR false L (d + 0) kj55 k55_5 [some (vR 11), some (vI x1), some (vI x2), some (vI x3), some (vI x4), u5] [] (s, g_rho) (some (vI o.1), (o.2, g_rho)) := by
  intro n
  induction n with
  | zero => intro _ _ _ _ _ _ _ h; cases h
  | succ n ih =>
    intro x1 x2 x3 x4 u5 s o h
    refine iRR.of 401 ?_
    refine iRT.ite h (fun h => ?_) (fun h => ?_)
    · cases h
      exact iRT.ret
    · refine iRT.ite h (fun h => ?_) (fun h => ?_)
      · exact iRT.go 0 (f55_11_at38_ok L N d (fun a0 a1 a2 a3 b0 s o h => ih a0 a1 a2 a3 s o h) _ _ _ _ _ h) (fun _ _ => rfl)
      · refine iRT.ov h fun h => ?_
        refine iRT.ov h fun h => ?_
        refine iRT.ov h fun h => ?_
        refine iRT.ov h fun h => ?_
        refine iRT.ite h (fun h => ?_) (fun h => ?_)
        · exact iRT.go 1 (f55_11_at43_ok L N d (fun a0 a1 a2 a3 b0 s o h => ih a0 a1 a2 a3 s o h) _ _ _ _ _ _ h) (fun _ _ => rfl)
        · exact iRT.go 0 (f55_11_at38_ok L N d (fun a0 a1 a2 a3 b0 s o h => ih a0 a1 a2 a3 s o h) _ _ _ _ _ h) (fun _ _ => rfl)
set_option maxHeartbeats 30000 in
theorem f55_11_ok (L N d : Nat) (x1 : Int) (x2 : Int) (s : gI) {o : Int × gI} (h : f55 N x1 x2 s = some o) : iEE L (d + 1) 55 [vR 11, vI x1, vI x2] (s, g_rho) (some (vI o.1), (o.2, g_rho)) := by
  refine iEE.of (wr := false) (d := d + 0) (md := gm_55) rfl rfl rfl (iRR.of 5 ?_)
  exact iRT.go 4 (f55_11_at5_ok L N d N _ _ _ _ _ _ h) (fun _ _ => rfl)
set_option maxHeartbeats 30000 in
theorem f56_11_at104_ok (L N d : Nat) (x1 : Int) (x3 : Int) (x5 : Int) {u2 : Option iV} {u4 : Option iV} {u6 : Option iV} {u7 : Option iV} (s : gI) {o : Int × gI} (h : f56_at104 N x1 x3 x5 s = some o) : iRR false L (d + 2) kj56 k56_104 [some (vR 11), some (vI x1), u2, some (vI x3), u4, some (vI x5), u6, u7] [] (s, g_rho) (some (vI o.1), (o.2, g_rho)) := by
  refine iRR.of 401 ?_
  obtain ⟨s1, h1, h⟩ := i_o1_inv h
  refine iRT.call (f88_6_ok L N d _ _ _ h1) ?_
  refine iRT.ite h (fun h => ?_) (fun h => ?_)
  · replace h := (ib1_inv h).2
    cases h
    exact iRT.ret
  · replace h := (ib1_inv h).2
    cases h
    exact iRT.ret
set_option maxHeartbeats 30000 in
theorem f56_11_at94_ok (L N d : Nat) {r_at28 : Int → Int → Int → Int → Int → gI → Option (Int × gI)} (h_at28 : ∀ x1 x3 x4 x5 x6 u2 u7 s o, r_at28 x1 x3 x4 x5 x6 s = some o → iRR false L (d + 2) kj56 k56_28 [some (vR 11), some (vI x1), u2, some (vI x3), some (vI x4), some (vI x5), some (vI x6), u7] [] (s, g_rho) (some (vI o.1), (o.2, g_rho))) (x1 : Int) (x3 : Int) (x4 : Int) (x6 : Int) (x7 : Int) {u2 : Option iV} {u5 : Option iV} (s : gI) {o : Int × gI} (h : f56_at94 N r_at28 x1 x3 x4 x6 x7 s = some o) : iRR false L (d + 2) kj56 k56_94 [some (vR 11), some (vI x1), u2, some (vI x3), some (vI x4), u5, some (vI x6), some (vI x7)] [] (s, g_rho) (some (vI o.1), (o.2, g_rho)) := by
  refine iRR.of 5 ?_
  refine iRT.ov h fun h => ?_
  exact iRT.go 1 (h_at28 _ _ _ _ _ _ _ _ _ h) (fun _ _ => rfl)
set_option maxHeartbeats 30000 in
theorem f56_11_at28_ok (L N d : Nat) : ∀ (n : Nat) (x1 : Int) (x3 : Int) (x4 : Int) (x5 : Int) (x6 : Int) {u2 u7 : Option iV} (s : gI) (o : Int × gI), f56_at28 N n x1 x3 x4 x5 x6 s = some o → iRR false L (d + 2) kj56 k56_28 [some (vR 11), some (vI x1), u2, some (vI x3), some (vI x4), some (vI x5), some (vI x6), u7] [] (s, g_rho) (some (vI o.1), (o.2, g_rho)) := by
  intro n
  induction n with
  | zero => intro _ _ _ _ _ _ _ _ _ h; cases h
  | succ n ih =>
    intro x1 x3 x4 x5 x6 u2 u7 s o h
    refine iRR.of 30 ?_
    refine iRT.ite h (fun h => ?_) (fun h => ?_)
    · exact iRT.go 0 (f56_11_at104_ok L N d _ _ _ _ h) (fun _ _ => rfl)
    · refine iRT.ite h (fun h => ?_) (fun h => ?_)
      · exact iRT.go 0 (f56_11_at104_ok L N d _ _ _ _ h) (fun _ _ => rfl)
      · obtain ⟨i2, s1, h1, h⟩ := i_o2_inv h
        refine iRT.call (f82_12_9_ok L N (d + 1) _ _ _ h1) ?_
        refine iRT.ite h (fun h => ?_) (fun h => ?_)
        · exact iRT.go 0 (f56_11_at104_ok L N d _ _ _ _ h) (fun _ _ => rfl)
        · refine iRT.ite h (fun h => ?_) (fun h => ?_)
          · exact iRT.go 0 (f56_11_at94_ok L N d (fun a0 a1 a2 a3 a4 b0 b1 s o h => ih a0 a1 a2 a3 a4 s o h) _ _ _ _ _ _ h) (fun _ _ => rfl)
          · refine iRT.ck h fun h => ?_
            refine iRT.ite h (fun h => ?_) (fun h => ?_)
            · exact iRT.go 0 (f56_11_at94_ok L N d (fun a0 a1 a2 a3 a4 b0 b1 s o h => ih a0 a1 a2 a3 a4 s o h) _ _ _ _ _ _ h) (fun _ _ => rfl)
            · exact iRT.go 1 (f56_11_at104_ok L N d _ _ _ _ h) (fun _ _ => rfl)
set_option maxHeartbeats 30000 in
theorem f56_11_at20_ok (L N d : Nat) (x1 : Int) (x3 : Int) (z0 : Int) {u2 : Option iV} {u4 : Option iV} {u5 : Option iV} {u6 : Option iV} {u7 : Option iV} (s : gI) {o : Int × gI} (h : f56_at20 N x1 x3 z0 s = some o) : iRR false L (d + 2) kj56 k56_20 [some (vR 11), some (vI x1), u2, some (vI x3), u4, u5, u6, u7] [vI z0] (s, g_rho) (some (vI o.1), (o.2, g_rho)) := by
  refine iRR.of 6 ?_
  exact iRT.go 5 (f56_11_at28_ok L N d N _ _ _ _ _ _ _ h) (fun _ _ => rfl)
set_option maxHeartbeats 30000 in
theorem f56_11_ok (L N d : Nat) (x1 : Int) (x2 : Int) (s : gI) {o : Int × gI} (h : f56 N x1 x2 s = some o) : iEE L (d + 3) 56 [vR 11, vI x1, vI x2] (s, g_rho) (some (vI o.1), (o.2, g_rho)) := by
  refine iEE.of (wr := false) (d := d + 2) (md := gm_56) rfl rfl rfl (iRR.of 12 ?_)
  refine iRT.ck h fun h => ?_
  refine iRT.ite h (fun h => ?_) (fun h => ?_)
  · exact iRT.go 1 (f56_11_at20_ok L N d _ _ _ _ h) (fun _ _ => rfl)
  · exact iRT.go 2 (f56_11_at20_ok L N d _ _ _ _ h) (fun _ _ => rfl)
set_option maxHeartbeats 30000 in
theorem f54_11_at76_ok (L N d : Nat) {r_at13 : Int → Int → Int → Int → gI → Option (Int × gI)} (h_at13 : ∀ x1 x2 x3 x4 u5 u6 u7 s o, r_at13 x1 x2 x3 x4 s = some o → iRR false L (d + 3) kj54 k54_13 [some (vR 11), some (vI x1), some (vI x2), some (vI x3), some (vI x4), u5, u6, u7] [] (s, g_rho) (some (vI o.1), (o.2, g_rho))) (x1 : Int) (x2 : Int) (x3 : Int) (x4 : Int) (x5 : Int) (x6 : Int) (z0 : Int) {u7 : Option iV} (s : gI) {o : Int × gI} (h : f54_at76 N r_at13 x1 x2 x3 x4 x5 x6 z0 s = some o) : iRR false L (d + 3) kj54 k54_76 [some (vR 11), some (vI x1), some (vI x2), some (vI x3), some (vI x4), some (vI x5), some (vI x6), u7] [vI z0] (s, g_rho) (some (vI o.1), (o.2, g_rho)) := by
  refine iRR.of 25 ?_
  refine iRT.ite h (fun h => ?_) (fun h => ?_)
  · refine iRT.ov h fun h => ?_
    exact iRT.go 1 (h_at13 _ _ _ _ _ _ _ _ _ h) (fun _ _ => rfl)
  · refine iRT.ite h (fun h => ?_) (fun h => ?_)
    · refine iRT.ov h fun h => ?_
      exact iRT.go 1 (h_at13 _ _ _ _ _ _ _ _ _ h) (fun _ _ => rfl)
    · refine iRT.ov h fun h => ?_
      refine iRT.ov h fun h => ?_
      refine iRT.ite h (fun h => ?_) (fun h => ?_)
      · refine iRT.ov h fun h => ?_
        refine iRT.ov h fun h => ?_
        obtain ⟨i5, s4, h1, h⟩ := i_o2_inv h
        refine iRT.call (f56_11_ok L N d _ _ _ h1) ?_
        refine iRT.ite h (fun h => ?_) (fun h => ?_)
        · refine iRT.ov h fun h => ?_
          exact iRT.go 1 (h_at13 _ _ _ _ _ _ _ _ _ h) (fun _ _ => rfl)
        · refine iRT.ov h fun h => ?_
          refine iRT.ov h fun h => ?_
          exact iRT.go 1 (h_at13 _ _ _ _ _ _ _ _ _ h) (fun _ _ => rfl)
      · refine iRT.ov h fun h => ?_
        exact iRT.go 1 (h_at13 _ _ _ _ _ _ _ _ _ h) (fun _ _ => rfl)
set_option maxHeartbeats 30000 in
theorem f54_11_at75_ok (L N d : Nat) {r_at13 : Int → Int → Int → Int → gI → Option (Int × gI)} (h_at13 : ∀ x1 x2 x3 x4 u5 u6 u7 s o, r_at13 x1 x2 x3 x4 s = some o → iRR false L (d + 3) kj54 k54_13 [some (vR 11), some (vI x1), some (vI x2), some (vI x3), some (vI x4), u5, u6, u7] [] (s, g_rho) (some (vI o.1), (o.2, g_rho))) (x1 : Int) (x2 : Int) (x3 : Int) (x4 : Int) (x5 : Int) (x6 : Int) {u7 : Option iV} (s : gI) {o : Int × gI} (h : f54_at75 N r_at13 x1 x2 x3 x4 x5 x6 s = some o) : iRR false L (d + 3) kj54 k54_75 [some (vR 11), some (vI x1), some (vI x2), some (vI x3), some (vI x4), some (vI x5), some (vI x6), u7] [] (s, g_rho) (some (vI o.1), (o.2, g_rho)) := by
  refine iRR.of 2 ?_
  exact iRT.go 1 (f54_11_at76_ok L N d h_at13 _ _ _ _ _ _ _ _ h) (fun _ _ => rfl)
set_option maxHeartbeats 30000 in
theorem f54_11_at13_ok (L N d : Nat) {r_at4 : Int → Int → Int → gI → Option (Int × gI)} (h_at4 : ∀ x1 x2 x3 u4 u5 u6 u7 s o, r_at4 x1 x2 x3 s = some o → iRR false L (d + 3) kj54 k54_4 [some (vR 11), some (vI x1), some (vI x2), some (vI x3), u4, u5, u6, u7] [] (s, g_rho) (some (vI o.1), (o.2, g_rho))) : ∀ (n : Nat) (x1 : Int) (x2 : Int) (x3 : Int) (x4 : Int) {u5 u6 u7 : Option iV} (s : gI) (o : Int × gI), f54_at13 N r_at4 n x1 x2 x3 x4 s = some o → iRR false L (d + 3) kj54 k54_13 [some (vR 11), some (vI x1), some (vI x2), some (vI x3), some (vI x4), u5, u6, u7] [] (s, g_rho) (some (vI o.1), (o.2, g_rho)) := by
  intro n
  induction n with
  | zero => intro _ _ _ _ _ _ _ _ _ h; cases h
  | succ n ih =>
    intro x1 x2 x3 x4 u5 u6 u7 s o h
    refine iRR.of 32 ?_
    refine iRT.ite h (fun h => ?_) (fun h => ?_)
    · refine iRT.ov h fun h => ?_
      exact iRT.go 1 (h_at4 _ _ _ _ _ _ _ _ _ h) (fun _ _ => rfl)
    · refine iRT.ov h fun h => ?_
      refine iRT.ov h fun h => ?_
      obtain ⟨i4, s3, h1, h⟩ := i_o2_inv h
      refine iRT.call (f55_11_ok L N (d + 2) _ _ _ h1) ?_
      refine iRT.ck h fun h => ?_
      refine iRT.ite h (fun h => ?_) (fun h => ?_)
      · exact iRT.go 0 (f54_11_at75_ok L N d (fun a0 a1 a2 a3 b0 b1 b2 s o h => ih a0 a1 a2 a3 s o h) _ _ _ _ _ _ _ h) (fun _ _ => rfl)
      · refine iRT.ck h fun h => ?_
        refine iRT.ite h (fun h => ?_) (fun h => ?_)
        · exact iRT.go 2 (f54_11_at76_ok L N d (fun a0 a1 a2 a3 b0 b1 b2 s o h => ih a0 a1 a2 a3 s o h) _ _ _ _ _ _ _ _ h) (fun _ _ => rfl)
        · exact iRT.go 0 (f54_11_at75_ok L N d (fun a0 a1 a2 a3 b0 b1 b2 s o h => ih a0 a1 a2 a3 s o h) _ _ _ _ _ _ _ h) (fun _ _ => rfl)
set_option maxHeartbeats 30000 in
theorem f54_11_at4_ok (L N d : Nat) : ∀ (n : Nat) (x1 : Int) (x2 : Int) (x3 : Int) {u4 u5 u6 u7 : Option iV} (s : gI) (o : Int × gI), f54_at4 N n x1 x2 x3 s = some o → iRR false L (d + 3) kj54 k54_4 [some (vR 11), some (vI x1), some (vI x2), some (vI x3), u4, u5, u6, u7] [] (s, g_rho) (some (vI o.1), (o.2, g_rho)) := by
  intro n
  induction n with
  | zero => intro _ _ _ _ _ _ _ _ _ h; cases h
  | succ n ih =>
    intro x1 x2 x3 u4 u5 u6 u7 s o h
    refine iRR.of 401 ?_
    refine iRT.ite h (fun h => ?_) (fun h => ?_)
    · cases h
      exact iRT.ret
    · exact iRT.go 2 (f54_11_at13_ok L N d (fun a0 a1 a2 b0 b1 b2 b3 s o h => ih a0 a1 a2 s o h) N _ _ _ _ _ _ h) (fun _ _ => rfl)
set_option maxHeartbeats 30000 in
theorem f54_11_ok (L N d : Nat) (x1 : Int) (s : gI) {o : Int × gI} (h : f54 N x1 s = some o) : iEE L (d + 4) 54 [vR 11, vI x1] (s, g_rho) (some (vI o.1), (o.2, g_rho)) := by
  refine iEE.of (wr := false) (d := d + 3) (md := gm_54) rfl rfl rfl (iRR.of 5 ?_)
  exact iRT.go 4 (f54_11_at4_ok L N d N _ _ _ _ _ h) (fun _ _ => rfl)
set_option maxHeartbeats 30000 in
theorem f27_ok (L N d : Nat) (x0 : Int) (s : gI) {o : Int × gI} (h : f27 N x0 s = some o) : iEE L (d + 1) 27 [vI x0] (s, g_rho) (some (vI o.1), (o.2, g_rho)) := by
  refine iEE.of (wr := false) (d := d + 0) (md := gm_27) rfl rfl rfl (iRR.of 401 ?_)
  refine iRT.ite h (fun h => ?_) (fun h => ?_)
  · cases h
    exact iRT.ret
  · cases h
    exact iRT.ret
set_option maxHeartbeats 30000 in
theorem f26_at65_ok (L N d : Nat) {u0 : Option iV} {u1 : Option iV} {u2 : Option iV} (s : gI) {o : Int × gI} (h : f26_at65 N  s = some o) : iRR true L (d + 1) kj26 k26_65 [u0, u1, u2] [] (s, g_rho) (some (vI o.1), (o.2, g_rho)) := by
  refine iRR.of 401 ?_
  obtain ⟨i2, s1, h1, h⟩ := i_o2_inv h
  refine iRT.call (f27_ok L N d _ _ h1) ?_
  cases h
  exact iRT.ret
set_option maxHeartbeats 30000 in
theorem f26_ok (L N d : Nat) (x0 : Int) (x1 : Int) (x2 : Int) (s : gI) {o : Int × gI} (h : f26 N x0 x1 x2 s = some o) : iEE L (d + 2) 26 [vI x0, vI x1, vI x2] (s, g_rho) (some (vI o.1), (o.2, g_rho)) := by
  refine iEE.of (wr := true) (d := d + 1) (md := gm_26) rfl rfl rfl (iRR.of 401 ?_)
  rcases iRT.cs h with ⟨hx0, h⟩ | ⟨hx0, h⟩
  · refine iRT.swin hx0 (off := 39) (by decide) (by decide) (by decide) ?_
    refine iRT.ite h (fun h => ?_) (fun h => ?_)
    · obtain ⟨i2, s1, h1, h⟩ := i_o2_inv h
      refine iRT.call (f27_ok L N d _ _ h1) ?_
      cases h
      exact iRT.ret
    · refine iRT.ite h (fun h => ?_) (fun h => ?_)
      · obtain ⟨i4, s3, h1, h⟩ := i_o2_inv h
        refine iRT.call (f27_ok L N d _ _ h1) ?_
        cases h
        exact iRT.ret
      · obtain ⟨i6, s5, h1, h⟩ := i_o2_inv h
        refine iRT.call (f27_ok L N d _ _ h1) ?_
        cases h
        exact iRT.ret
  · skip
    rcases iRT.cs h with ⟨hx1, h⟩ | ⟨hx1, h⟩
    · refine iRT.swin hx1 (off := 56) (by decide) (by decide) (by decide) ?_
      refine iRT.ite h (fun h => ?_) (fun h => ?_)
      · refine iRT.ite h (fun h => ?_) (fun h => ?_)
        · obtain ⟨i8, s7, h1, h⟩ := i_o2_inv h
          refine iRT.call (f27_ok L N d _ _ h1) ?_
          cases h
          exact iRT.ret
        · exact iRT.go 0 (f26_at65_ok L N d  _ h) (fun _ _ => rfl)
      · exact iRT.go 0 (f26_at65_ok L N d  _ h) (fun _ _ => rfl)
    · skip
      rcases iRT.cs h with ⟨hx2, h⟩ | ⟨hx2, h⟩
      · refine iRT.swin hx2 (off := 73) (by decide) (by decide) (by decide) ?_
        refine iRT.ite h (fun h => ?_) (fun h => ?_)
        · obtain ⟨i10, s9, h1, h⟩ := i_o2_inv h
          refine iRT.call (f27_ok L N d _ _ h1) ?_
          cases h
          exact iRT.ret
        · obtain ⟨i12, s11, h1, h⟩ := i_o2_inv h
          refine iRT.call (f27_ok L N d _ _ h1) ?_
          cases h
          exact iRT.ret
      · skip
        rcases iRT.cs h with ⟨hx3, h⟩ | ⟨hx3, h⟩
        · refine iRT.swin hx3 (off := 87) (by decide) (by decide) (by decide) ?_
          refine iRT.ite h (fun h => ?_) (fun h => ?_)
          · obtain ⟨i16, s15, h1, h⟩ := i_o2_inv h
            refine iRT.call (f27_ok L N d _ _ h1) ?_
            cases h
            exact iRT.ret
          · obtain ⟨i14, s13, h1, h⟩ := i_o2_inv h
            refine iRT.call (f27_ok L N d _ _ h1) ?_
            cases h
            exact iRT.ret
        · skip
          rcases iRT.cs h with ⟨hx4, h⟩ | ⟨hx4, h⟩
          · refine iRT.swin hx4 (off := 101) (by decide) (by decide) (by decide) ?_
            cases h
            exact iRT.ret
          · skip
            rcases iRT.cs h with ⟨hx5, h⟩ | ⟨hx5, h⟩
            · refine iRT.swin hx5 (off := 105) (by decide) (by decide) (by decide) ?_
              cases h
              exact iRT.ret
            · skip
              refine iRT.swout (by omega) (by decide) ?_
              cases h
              exact iRT.ret
set_option maxHeartbeats 30000 in
theorem f25_ok (L N d : Nat) (x0 : Int) (x1 : Int) (x2 : Int) (x3 : Int) (s : gI) {o : Int × gI} (h : f25 N x0 x1 x2 x3 s = some o) : iEE L (d + 1) 25 [vI x0, vI x1, vI x2, vI x3] (s, g_rho) (some (vI o.1), (o.2, g_rho)) := by
  refine iEE.of (wr := false) (d := d + 0) (md := gm_25) rfl rfl rfl (iRR.of 401 ?_)
  rcases iRT.cs h with ⟨hx0, h⟩ | ⟨hx0, h⟩
  · refine iRT.swin hx0 (off := 27) (by decide) (by decide) (by decide) ?_
    cases h
    exact iRT.ret
  · skip
    rcases iRT.cs h with ⟨hx1, h⟩ | ⟨hx1, h⟩
    · refine iRT.swin hx1 (off := 29) (by decide) (by decide) (by decide) ?_
      cases h
      exact iRT.ret
    · skip
      rcases iRT.cs h with ⟨hx2, h⟩ | ⟨hx2, h⟩
      · refine iRT.swin hx2 (off := 31) (by decide) (by decide) (by decide) ?_
        cases h
        exact iRT.ret
      · skip
        refine iRT.swout (by omega) (by decide) ?_
        cases h
        exact iRT.ret
set_option maxHeartbeats 30000 in
theorem f24_25_at99_ok (L N d : Nat) {r_at6 : Int → Int → Int → Int → Int → gI → Option (Int × gI)} (h_at6 : ∀ x1 x2 x3 x4 x5 u6 s o, r_at6 x1 x2 x3 x4 x5 s = some o → iRR false L (d + 2) kj24 k24_6 [some (vR 25), some (vI x1), some (vI x2), some (vI x3), some (vI x4), some (vI x5), u6] [] (s, g_rho) (some (vI o.1), (o.2, g_rho))) (x1 : Int) (x2 : Int) (x3 : Int) (x4 : Int) (x5 : Int) (z0 : Int) (z1 : Int) {u6 : Option iV} (s : gI) {o : Int × gI} (h : f24_at99 N 25 r_at6 x1 x2 x3 x4 x5 z0 z1 s = some o) : iRR false L (d + 2) kj24 k24_99 [some (vR 25), some (vI x1), some (vI x2), some (vI x3), some (vI x4), some (vI x5), u6] [vI z0, vI z1, vR 27] (s, g_rho) (some (vI o.1), (o.2, g_rho)) := by
  refine iRR.of 6 ?_
  obtain ⟨i2, s1, h1, h⟩ := i_o2_inv h
  refine iRT.call (f27_ok L N (d + 1) _ _ h1) ?_
  refine iRT.ck h fun h => ?_
  refine iRT.ov h fun h => ?_
  exact iRT.go 1 (h_at6 _ _ _ _ _ _ _ _ h) (fun _ _ => rfl)
set_option maxHeartbeats 30000 in
theorem f24_25_at6_ok (L N d : Nat) : ∀ (n : Nat) (x1 : Int) (x2 : Int) (x3 : Int) (x4 : Int) (x5 : Int) {u6 : Option iV} (s : gI) (o : Int × gI), f24_at6 N 25 n x1 x2 x3 x4 x5 s = some o → iRR false L (d + 2) kj24 k24_6 [some (vR 25), some (vI x1), some (vI x2), some (vI x3), some (vI x4), some (vI x5), u6] [] (s, g_rho) (some (vI o.1), (o.2, g_rho)) := by
  intro n
  induction n with
  | zero => intro _ _ _ _ _ _ _ _ h; cases h
  | succ n ih =>
    intro x1 x2 x3 x4 x5 u6 s o h
    refine iRR.of 401 ?_
    refine iRT.ite h (fun h => ?_) (fun h => ?_)
    · replace h := (ick_inv h).2.2
      cases h
      exact iRT.ret
    · refine iRT.ck h fun h => ?_
      refine iRT.ite h (fun h => ?_) (fun h => ?_)
      · refine iRT.ite h (fun h => ?_) (fun h => ?_)
        · refine iRT.ite h (fun h => ?_) (fun h => ?_)
          · refine iRT.ov h fun h => ?_
            exact iRT.go 1 (ih _ _ _ _ _ _ _ h) (fun _ _ => rfl)
          · refine iRT.ov h fun h => ?_
            refine iRT.ov h fun h => ?_
            refine iRT.ck h fun h => ?_
            refine iRT.ite h (fun h => ?_) (fun h => ?_)
            · exact iRT.go 2 (f24_25_at99_ok L N d (fun a0 a1 a2 a3 a4 b0 s o h => ih a0 a1 a2 a3 a4 s o h) _ _ _ _ _ _ _ _ h) (fun _ _ => rfl)
            · exact iRT.go 1 (f24_25_at99_ok L N d (fun a0 a1 a2 a3 a4 b0 s o h => ih a0 a1 a2 a3 a4 s o h) _ _ _ _ _ _ _ _ h) (fun _ _ => rfl)
        · refine iRT.ite h (fun h => ?_) (fun h => ?_)
          · refine iRT.ov h fun h => ?_
            exact iRT.go 1 (ih _ _ _ _ _ _ _ h) (fun _ _ => rfl)
          · refine iRT.ov h fun h => ?_
            refine iRT.ov h fun h => ?_
            refine iRT.ov h fun h => ?_
            refine iRT.ck h fun h => ?_
            refine iRT.ck h fun h => ?_
            obtain ⟨i5, s4, h1, h⟩ := i_o2_inv h
            refine iRT.call (f26_ok L N d _ _ _ _ h1) ?_
            refine iRT.ck h fun h => ?_
            refine iRT.ov h fun h => ?_
            exact iRT.go 1 (ih _ _ _ _ _ _ _ h) (fun _ _ => rfl)
      · refine iRT.ite h (fun h => ?_) (fun h => ?_)
        · refine iRT.ov h fun h => ?_
          exact iRT.go 1 (ih _ _ _ _ _ _ _ h) (fun _ _ => rfl)
        · obtain ⟨i11, s10, h1, h⟩ := i_o2_inv h
          refine iRT.call (f25_ok L N (d + 1) _ _ _ _ _ h1) ?_
          refine iRT.ck h fun h => ?_
          refine iRT.ov h fun h => ?_
          refine iRT.ov h fun h => ?_
          exact iRT.go 1 (ih _ _ _ _ _ _ _ h) (fun _ _ => rfl)
set_option maxHeartbeats 30000 in
theorem f24_25_ok (L N d : Nat) (x1 : Int) (x2 : Int) (x3 : Int) (s : gI) {o : Int × gI} (h : f24 N 25 x1 x2 x3 s = some o) : iEE L (d + 3) 24 [vR 25, vI x1, vI x2, vI x3] (s, g_rho) (some (vI o.1), (o.2, g_rho)) := by
  refine iEE.of (wr := false) (d := d + 2) (md := gm_24) rfl rfl rfl (iRR.of 5 ?_)
  exact iRT.go 4 (f24_25_at6_ok L N d N _ _ _ _ _ _ _ h) (fun _ _ => rfl)
set_option maxHeartbeats 30000 in
theorem f24_28_at99_ok (L N d : Nat) {r_at6 : Int → Int → Int → Int → Int → gI → Option (Int × gI)} (h_at6 : ∀ x1 x2 x3 x4 x5 u6 s o, r_at6 x1 x2 x3 x4 x5 s = some o → iRR false L (d + 2) kj24 k24_6 [some (vR 28), some (vI x1), some (vI x2), some (vI x3), some (vI x4), some (vI x5), u6] [] (s, g_rho) (some (vI o.1), (o.2, g_rho))) (x1 : Int) (x2 : Int) (x3 : Int) (x4 : Int) (x5 : Int) (z0 : Int) (z1 : Int) {u6 : Option iV} (s : gI) {o : Int × gI} (h : f24_at99 N 28 r_at6 x1 x2 x3 x4 x5 z0 z1 s = some o) : iRR false L (d + 2) kj24 k24_99 [some (vR 28), some (vI x1), some (vI x2), some (vI x3), some (vI x4), some (vI x5), u6] [vI z0, vI z1, vR 30] (s, g_rho) (some (vI o.1), (o.2, g_rho)) := by
  refine iRR.of 6 ?_
  obtain ⟨i2, s1, h1, h⟩ := i_o2_inv h
  refine iRT.call (f27_ok L N (d + 1) _ _ h1) ?_
  refine iRT.ck h fun h => ?_
  refine iRT.ov h fun h => ?_
  exact iRT.go 1 (h_at6 _ _ _ _ _ _ _ _ h) (fun _ _ => rfl)
set_option maxHeartbeats 30000 in
theorem f24_28_at6_ok (L N d : Nat) : ∀ (n : Nat) (x1 : Int) (x2 : Int) (x3 : Int) (x4 : Int) (x5 : Int) {u6 : Option iV} (s : gI) (o : Int × gI), f24_at6 N 28 n x1 x2 x3 x4 x5 s = some o → iRR false L (d + 2) kj24 k24_6 [some (vR 28), some (vI x1), some (vI x2), some (vI x3), some (vI x4), some (vI x5), u6] [] (s, g_rho) (some (vI o.1), (o.2, g_rho)) := by
  intro n
  induction n with
  | zero => intro _ _ _ _ _ _ _ _ h; cases h
  | succ n ih =>
    intro x1 x2 x3 x4 x5 u6 s o h
    refine iRR.of 401 ?_
    refine iRT.ite h (fun h => ?_) (fun h => ?_)
    · replace h := (ick_inv h).2.2
      cases h
      exact iRT.ret
    · refine iRT.ck h fun h => ?_
      refine iRT.ite h (fun h => ?_) (fun h => ?_)
      · refine iRT.ite h (fun h => ?_) (fun h => ?_)
        · refine iRT.ite h (fun h => ?_) (fun h => ?_)
          · refine iRT.ov h fun h => ?_
            exact iRT.go 1 (ih _ _ _ _ _ _ _ h) (fun _ _ => rfl)
          · refine iRT.ov h fun h => ?_
            refine iRT.ov h fun h => ?_
            refine iRT.ck h fun h => ?_
            refine iRT.ite h (fun h => ?_) (fun h => ?_)
            · exact iRT.go 2 (f24_28_at99_ok L N d (fun a0 a1 a2 a3 a4 b0 s o h => ih a0 a1 a2 a3 a4 s o h) _ _ _ _ _ _ _ _ h) (fun _ _ => rfl)
            · exact iRT.go 1 (f24_28_at99_ok L N d (fun a0 a1 a2 a3 a4 b0 s o h => ih a0 a1 a2 a3 a4 s o h) _ _ _ _ _ _ _ _ h) (fun _ _ => rfl)
        · refine iRT.ite h (fun h => ?_) (fun h => ?_)
          · refine iRT.ov h fun h => ?_
            exact iRT.go 1 (ih _ _ _ _ _ _ _ h) (fun _ _ => rfl)
          · refine iRT.ov h fun h => ?_
            refine iRT.ov h fun h => ?_
            refine iRT.ov h fun h => ?_
            refine iRT.ck h fun h => ?_
            refine iRT.ck h fun h => ?_
            obtain ⟨i5, s4, h1, h⟩ := i_o2_inv h
            refine iRT.call (f26_ok L N d _ _ _ _ h1) ?_
            refine iRT.ck h fun h => ?_
            refine iRT.ov h fun h => ?_
            exact iRT.go 1 (ih _ _ _ _ _ _ _ h) (fun _ _ => rfl)
      · refine iRT.ite h (fun h => ?_) (fun h => ?_)
        · refine iRT.ov h fun h => ?_
          exact iRT.go 1 (ih _ _ _ _ _ _ _ h) (fun _ _ => rfl)
        · obtain ⟨i11, s10, h1, h⟩ := i_o2_inv h
          refine iRT.call (f25_ok L N (d + 1) _ _ _ _ _ h1) ?_
          refine iRT.ck h fun h => ?_
          refine iRT.ov h fun h => ?_
          refine iRT.ov h fun h => ?_
          exact iRT.go 1 (ih _ _ _ _ _ _ _ h) (fun _ _ => rfl)
set_option maxHeartbeats 30000 in
theorem f24_28_ok (L N d : Nat) (x1 : Int) (x2 : Int) (x3 : Int) (s : gI) {o : Int × gI} (h : f24 N 28 x1 x2 x3 s = some o) : iEE L (d + 3) 24 [vR 28, vI x1, vI x2, vI x3] (s, g_rho) (some (vI o.1), (o.2, g_rho)) := by
  refine iEE.of (wr := false) (d := d + 2) (md := gm_24) rfl rfl rfl (iRR.of 5 ?_)
  exact iRT.go 4 (f24_28_at6_ok L N d N _ _ _ _ _ _ _ h) (fun _ _ => rfl)

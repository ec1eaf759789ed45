-- GutterNineModel.days
set_option maxHeartbeats 100000 in
theorem f256_63_at23_ok (L N d : Nat) : ∀ (n : Nat) (x1 : Int) (x2 : Int) (s : gI) (o : Int × gI), f256_at23 N n x1 x2 s = some o → iRR false L (d + 4) kj256 k256_23 [some (vR 63), some (vI x1), some (vI x2)] [] (s, g_rho) (some (vI o.1), (o.2, g_rho)) := by
  intro n
  induction n with
  | zero => intro _ _ _ _ h; cases h
  | succ n ih =>
    intro x1 x2 s o h
    refine iRR.of 401 ?_
    refine iRT.ite h (fun h => ?_) (fun h => ?_)
    · replace h := (ick_inv h).2.2
      cases h
      exact iRT.ret
    · obtain ⟨s1, h1, h⟩ := i_o1_inv h
      refine iRT.call (f255_63_ok L N (d + 0) _ _ h1) ?_
      refine iRT.ov h fun h => ?_
      exact iRT.go 1 (ih _ _ _ _ h) (fun _ _ => rfl)
set_option maxHeartbeats 100000 in
theorem f256_63_ok (L N d : Nat) (x1 : Int) (s : gI) {o : Int × gI} (h : f256 N x1 s = some o) : iEE L (d + 5) 256 [vR 63, vI x1] (s, g_rho) (some (vI o.1), (o.2, g_rho)) := by
  refine iEE.of (wr := false) (d := d + 4) (md := gm_256) rfl rfl rfl (iRR.of 401 ?_)
  delta f256 at h
  obtain ⟨i3, s2, h1, h⟩ := i_o2_inv h
  refine iRT.call (f189_ok L N (d + 3) _ _ _ _ h1) ?_
  refine iRT.ite h (fun h => ?_) (fun h => ?_)
  · cases h
    exact iRT.ret
  · obtain ⟨s4, h1, h⟩ := i_o1_inv h
    refine iRT.call (f217_63_ok L N (d + 2)  _ h1) ?_
    exact iRT.go 2 (f256_63_at23_ok L N d N _ _ _ _ h) (fun _ _ => rfl)
-- GutterNineModel.fetch
set_option maxHeartbeats 100000 in
theorem f257_63_at48_ok (L N d : Nat) {r_at23 : Int → Int → gI → Option (Int × gI)} (h_at23 : ∀ x2 x3 u1 s o, r_at23 x2 x3 s = some o → iRR false L (d + 2) kj257 k257_23 [some (vR 63), u1, some (vI x2), some (vI x3)] [] (s, g_rho) (some (vI o.1), (o.2, g_rho))) (x3 : Int) (z0 : Int) (z1 : Int) {u1 : Option iV} {u2 : Option iV} (s : gI) {o : Int × gI} (h : f257_at48 N r_at23 x3 z0 z1 s = some o) : iRR false L (d + 2) kj257 k257_48 [some (vR 63), u1, u2, some (vI x3)] [vI z0, vI z1] (s, g_rho) (some (vI o.1), (o.2, g_rho)) := by
  refine iRR.of 19 ?_
  refine iRT.ov h fun h => ?_
  refine iRT.ck h fun h => ?_
  refine iRT.ite h (fun h => ?_) (fun h => ?_)
  · refine iRT.ck h fun h => ?_
    refine iRT.ov h fun h => ?_
    exact iRT.go 1 (h_at23 _ _ _ _ _ h) (fun _ _ => rfl)
  · refine iRT.ck h fun h => ?_
    refine iRT.ck h fun h => ?_
    refine iRT.ov h fun h => ?_
    exact iRT.go 1 (h_at23 _ _ _ _ _ h) (fun _ _ => rfl)
set_option maxHeartbeats 100000 in
theorem f257_63_at23_ok (L N d : Nat) : ∀ (n : Nat) (x2 : Int) (x3 : Int) {u1 : Option iV} (s : gI) (o : Int × gI), f257_at23 N n x2 x3 s = some o → iRR false L (d + 2) kj257 k257_23 [some (vR 63), u1, some (vI x2), some (vI x3)] [] (s, g_rho) (some (vI o.1), (o.2, g_rho)) := by
  intro n
  induction n with
  | zero => intro _ _ _ _ _ h; cases h
  | succ n ih =>
    intro x2 x3 u1 s o h
    refine iRR.of 401 ?_
    obtain ⟨i2, s1, h1, h⟩ := i_o2_inv h
    refine iRT.call (f221_63_ok L N (d + 1)  _ h1) ?_
    refine iRT.ite h (fun h => ?_) (fun h => ?_)
    · cases h
      exact iRT.ret
    · refine iRT.ck h fun h => ?_
      refine iRT.ite h (fun h => ?_) (fun h => ?_)
      · exact iRT.go 2 (f257_63_at48_ok L N d (fun a0 a1 b0 s o h => ih a0 a1 s o h) _ _ _ _ h) (fun _ _ => rfl)
      · exact iRT.go 1 (f257_63_at48_ok L N d (fun a0 a1 b0 s o h => ih a0 a1 s o h) _ _ _ _ h) (fun _ _ => rfl)
set_option maxHeartbeats 100000 in
theorem f257_63_ok (L N d : Nat) (x1 : Int) (s : gI) {o : Int × gI} (h : f257 N x1 s = some o) : iEE L (d + 3) 257 [vR 63, vI x1] (s, g_rho) (some (vI o.1), (o.2, g_rho)) := by
  refine iEE.of (wr := false) (d := d + 2) (md := gm_257) rfl rfl rfl (iRR.of 401 ?_)
  delta f257 at h
  obtain ⟨i3, s2, h1, h⟩ := i_o2_inv h
  refine iRT.call (f222_63_ok L N (d + 0) _ _ h1) ?_
  refine iRT.ite h (fun h => ?_) (fun h => ?_)
  · cases h
    exact iRT.ret
  · obtain ⟨s4, h1, h⟩ := i_o1_inv h
    refine iRT.call (f217_63_ok L N (d + 0)  _ h1) ?_
    exact iRT.go 4 (f257_63_at23_ok L N d N _ _ _ _ h) (fun _ _ => rfl)
-- GutterNineModel.undo
set_option maxHeartbeats 100000 in
theorem f258_63_ok (L N d : Nat) (s : gI) {o : Int × gI} (h : f258 N  s = some o) : iEE L (d + 2) 258 [vR 63] (s, g_rho) (some (vI o.1), (o.2, g_rho)) := by
  refine iEE.of (wr := false) (d := d + 1) (md := gm_258) rfl rfl rfl (iRR.of 401 ?_)
  refine iRT.ite h (fun h => ?_) (fun h => ?_)
  · replace h := (ib1_inv h).2
    cases h
    exact iRT.ret
  · refine iRT.ov h fun h => ?_
    refine iRT.ov h fun h => ?_
    refine iRT.ov h fun h => ?_
    obtain ⟨s3, h1, h⟩ := i_o1_inv h
    refine iRT.call (f215_63_ok L N (d + 0) _ _ _ _ h1) ?_
    replace h := (ib1_inv h).2
    cases h
    exact iRT.ret
-- GutterNineModel.rolls
set_option maxHeartbeats 100000 in
theorem f259_63_ok (L N d : Nat) (x1 : Int) (x2 : Int) (s : gI) {o : Int × gI} (h : f259 N x1 x2 s = some o) : iEE L (d + 5) 259 [vR 63, vI x1, vI x2] (s, g_rho) (some (vI o.1), (o.2, g_rho)) := by
  refine iEE.of (wr := true) (d := d + 4) (md := gm_259) rfl rfl rfl (iRR.of 401 ?_)
  delta f259 at h
  obtain ⟨i4, s3, h1, h⟩ := i_o2_inv h
  refine iRT.call (f224_63_ok L N (d + 2) _ _ _ h1) ?_
  refine iRT.ite h (fun h => ?_) (fun h => ?_)
  · cases h
    exact iRT.ret
  · obtain ⟨i6, s5, h1, h⟩ := i_o2_inv h
    refine iRT.call (f225_63_ok L N (d + 3) _ _ h1) ?_
    refine iRT.ite h (fun h => ?_) (fun h => ?_)
    · cases h
      exact iRT.ret
    · obtain ⟨i8, s7, h1, h⟩ := i_o2_inv h
      refine iRT.call (f225_63_ok L N (d + 3) _ _ h1) ?_
      refine iRT.ite h (fun h => ?_) (fun h => ?_)
      · cases h
        exact iRT.ret
      · obtain ⟨i10, s9, h1, h⟩ := i_o2_inv h
        refine iRT.call (f227_63_ok L N (d + 2) _ _ _ _ h1) ?_
        refine iRT.ite h (fun h => ?_) (fun h => ?_)
        · obtain ⟨i12, s11, h1, h⟩ := i_o2_inv h
          refine iRT.call (f231_63_ok L N (d + 0) _ _ _ _ _ h1) ?_
          obtain ⟨i14, s13, h1, h⟩ := i_o2_inv h
          refine iRT.call (f237_ok L N (d + 3) _ _ h1) ?_
          cases h
          exact iRT.ret
        · cases h
          exact iRT.ret
-- GutterNineModel.tries
set_option maxHeartbeats 100000 in
theorem f262_63_ok (L N d : Nat) (x1 : Int) (x2 : Int) (x3 : Int) (x4 : Int) (x5 : Int) (x6 : Int) (x7 : Int) (s : gI) {o : gI} (h : f262 N x1 x2 x3 x4 x5 x6 x7 s = some o) : iEE L (d + 8) 262 [vR 63, vI x1, vI x2, vI x3, vI x4, vI x5, vI x6, vI x7] (s, g_rho) (none, (o, g_rho)) := by
  refine iEE.of (wr := false) (d := d + 7) (md := gm_262) rfl rfl rfl (iRR.of 401 ?_)
  obtain ⟨s1, h1, h⟩ := i_o1_inv h
  refine iRT.call (f215_63_ok L N (d + 6) _ _ _ _ h1) ?_
  obtain ⟨s2, h1, h⟩ := i_o1_inv h
  refine iRT.call (f235_63_ok L N (d + 0) _ _ _ _ _ _ _ h1) ?_
  cases h
  exact iRT.ret
-- GutterNineModel.isOdd
set_option maxHeartbeats 100000 in
theorem f263_63_at65_ok (L N d : Nat) {r_at17 : Int → Int → Int → Int → Int → gI → Option (Int × gI)} (h_at17 : ∀ x1 x2 x3 x4 x5 s o, r_at17 x1 x2 x3 x4 x5 s = some o → iRR false L (d + 1) kj263 k263_17 [some (vR 63), some (vI x1), some (vI x2), some (vI x3), some (vI x4), some (vI x5)] [] (s, g_rho) (some (vI o.1), (o.2, g_rho))) (x1 : Int) (x2 : Int) (x3 : Int) (x5 : Int) {u4 : Option iV} (s : gI) {o : Int × gI} (h : f263_at65 N r_at17 x1 x2 x3 x5 s = some o) : iRR false L (d + 1) kj263 k263_65 [some (vR 63), some (vI x1), some (vI x2), some (vI x3), u4, some (vI x5)] [] (s, g_rho) (some (vI o.1), (o.2, g_rho)) := by
  refine iRR.of 6 ?_
  refine iRT.ov h fun h => ?_
  exact iRT.go 1 (h_at17 _ _ _ _ _ _ _ h) (fun _ _ => rfl)
set_option maxHeartbeats 100000 in
theorem f263_63_at69_ok (L N d : Nat) {r_at17 : Int → Int → Int → Int → Int → gI → Option (Int × gI)} (h_at17 : ∀ x1 x2 x3 x4 x5 s o, r_at17 x1 x2 x3 x4 x5 s = some o → iRR false L (d + 1) kj263 k263_17 [some (vR 63), some (vI x1), some (vI x2), some (vI x3), some (vI x4), some (vI x5)] [] (s, g_rho) (some (vI o.1), (o.2, g_rho))) (x1 : Int) (x2 : Int) (x3 : Int) (x5 : Int) {u4 : Option iV} (s : gI) {o : Int × gI} (h : f263_at69 N r_at17 x1 x2 x3 x5 s = some o) : iRR false L (d + 1) kj263 k263_69 [some (vR 63), some (vI x1), some (vI x2), some (vI x3), u4, some (vI x5)] [] (s, g_rho) (some (vI o.1), (o.2, g_rho)) := by
  refine iRR.of 5 ?_
  refine iRT.ov h fun h => ?_
  exact iRT.go 1 (h_at17 _ _ _ _ _ _ _ h) (fun _ _ => rfl)
set_option maxHeartbeats 100000 in
theorem f263_63_at17_ok (L N d : Nat) : ∀ (n : Nat) (x1 : Int) (x2 : Int) (x3 : Int) (x4 : Int) (x5 : Int) (s : gI) (o : Int × gI), f263_at17 N n x1 x2 x3 x4 x5 s = some o → iRR false L (d + 1) kj263 k263_17 [some (vR 63), some (vI x1), some (vI x2), some (vI x3), some (vI x4), some (vI x5)] [] (s, g_rho) (some (vI o.1), (o.2, g_rho)) := by
  intro n
  induction n with
  | zero => intro _ _ _ _ _ _ _ h; cases h
  | succ n ih =>
    intro x1 x2 x3 x4 x5 s o h
    refine iRR.of 401 ?_
    obtain ⟨i2, s1, h1, h⟩ := i_o2_inv h
    refine iRT.call (f221_63_ok L N (d + 0)  _ h1) ?_
    refine iRT.ite h (fun h => ?_) (fun h => ?_)
    · rcases iRT.cs h with ⟨hx0, h⟩ | ⟨hx0, h⟩
      · refine iRT.swin hx0 (off := 29) (by decide) (by decide) (by decide) ?_
        refine iRT.b1 h fun h => ?_
        cases h
        exact iRT.ret
      · skip
        rcases iRT.cs h with ⟨hx1, h⟩ | ⟨hx1, h⟩
        · refine iRT.swin hx1 (off := 32) (by decide) (by decide) (by decide) ?_
          refine iRT.ite h (fun h => ?_) (fun h => ?_)
          · replace h := (ib1_inv h).2
            cases h
            exact iRT.ret
          · replace h := (ib1_inv h).2
            cases h
            exact iRT.ret
        · skip
          rcases iRT.cs h with ⟨hx2, h⟩ | ⟨hx2, h⟩
          · refine iRT.swin hx2 (off := 44) (by decide) (by decide) (by decide) ?_
            refine iRT.ite h (fun h => ?_) (fun h => ?_)
            · replace h := (ib1_inv h).2
              cases h
              exact iRT.ret
            · replace h := (ib1_inv h).2
              cases h
              exact iRT.ret
          · skip
            rcases iRT.cs h with ⟨hx3, h⟩ | ⟨hx3, h⟩
            · refine iRT.swin hx3 (off := 56) (by decide) (by decide) (by decide) ?_
              refine iRT.ite h (fun h => ?_) (fun h => ?_)
              · replace h := (ib1_inv h).2
                cases h
                exact iRT.ret
              · replace h := (ib1_inv h).2
                cases h
                exact iRT.ret
            · skip
              refine iRT.swout (by omega) (by decide) ?_
              refine iRT.ite h (fun h => ?_) (fun h => ?_)
              · replace h := (ib1_inv h).2
                cases h
                exact iRT.ret
              · replace h := (ib1_inv h).2
                cases h
                exact iRT.ret
    · refine iRT.ite h (fun h => ?_) (fun h => ?_)
      · refine iRT.ite h (fun h => ?_) (fun h => ?_)
        · exact iRT.go 0 (f263_63_at69_ok L N d (fun a0 a1 a2 a3 a4  s o h => ih a0 a1 a2 a3 a4 s o h) _ _ _ _ _ h) (fun _ _ => rfl)
        · refine iRT.ov h fun h => ?_
          refine iRT.ck h fun h => ?_
          refine iRT.ite h (fun h => ?_) (fun h => ?_)
          · refine iRT.ck h fun h => ?_
            refine iRT.ite h (fun h => ?_) (fun h => ?_)
            · exact iRT.go 0 (f263_63_at69_ok L N d (fun a0 a1 a2 a3 a4  s o h => ih a0 a1 a2 a3 a4 s o h) _ _ _ _ _ h) (fun _ _ => rfl)
            · exact iRT.go 0 (f263_63_at65_ok L N d (fun a0 a1 a2 a3 a4  s o h => ih a0 a1 a2 a3 a4 s o h) _ _ _ _ _ h) (fun _ _ => rfl)
          · exact iRT.go 0 (f263_63_at69_ok L N d (fun a0 a1 a2 a3 a4  s o h => ih a0 a1 a2 a3 a4 s o h) _ _ _ _ _ h) (fun _ _ => rfl)
      · exact iRT.go 0 (f263_63_at65_ok L N d (fun a0 a1 a2 a3 a4  s o h => ih a0 a1 a2 a3 a4 s o h) _ _ _ _ _ h) (fun _ _ => rfl)
set_option maxHeartbeats 100000 in
theorem f263_63_ok (L N d : Nat) (x1 : Int) (x2 : Int) (s : gI) {o : Int × gI} (h : f263 N x1 x2 s = some o) : iEE L (d + 2) 263 [vR 63, vI x1, vI x2] (s, g_rho) (some (vI o.1), (o.2, g_rho)) := by
  refine iEE.of (wr := false) (d := d + 1) (md := gm_263) rfl rfl rfl (iRR.of 12 ?_)
  refine iRT.ov h fun h => ?_
  refine iRT.ck h fun h => ?_
  exact iRT.go 5 (f263_63_at17_ok L N d N _ _ _ _ _ _ _ h) (fun _ _ => rfl)
-- GutterNineModel.weightOf
set_option maxHeartbeats 100000 in
theorem f260_63_ok (L N d : Nat) (x1 : Int) (x2 : Int) (s : gI) {o : Int × gI} (h : f260 N x1 x2 s = some o) : iEE L (d + 1) 260 [vR 63, vI x1, vI x2] (s, g_rho) (some (vI o.1), (o.2, g_rho)) := by
  refine iEE.of (wr := false) (d := d + 0) (md := gm_260) rfl rfl rfl (iRR.of 401 ?_)
  refine iRT.ite h (fun h => ?_) (fun h => ?_)
  · refine iRT.ov h fun h => ?_
    refine iRT.ck h fun h => ?_
    refine iRT.ov h fun h => ?_
    cases h
    exact iRT.ret
  · refine iRT.ov h fun h => ?_
    refine iRT.ck h fun h => ?_
    refine iRT.ov h fun h => ?_
    cases h
    exact iRT.ret
-- GutterNineModel.odds
set_option maxHeartbeats 100000 in
theorem f264_63_at80_ok (L N d : Nat) {r_at35 : Int → Int → Int → Int → Int → Int → Int → gI → Option (Int × gI)} (h_at35 : ∀ x1 x2 x3 x4 x5 x6 x7 s o, r_at35 x1 x2 x3 x4 x5 x6 x7 s = some o → iRR false L (d + 8) kj264 k264_35 [some (vR 63), some (vI x1), some (vI x2), some (vI x3), some (vI x4), some (vI x5), some (vI x6), some (vI x7)] [] (s, g_rho) (some (vI o.1), (o.2, g_rho))) (x1 : Int) (x2 : Int) (x3 : Int) (x4 : Int) (x5 : Int) (x7 : Int) (z0 : Int) (z1 : Int) {u6 : Option iV} (s : gI) {o : Int × gI} (h : f264_at80 N r_at35 x1 x2 x3 x4 x5 x7 z0 z1 s = some o) : iRR false L (d + 8) kj264 k264_80 [some (vR 63), some (vI x1), some (vI x2), some (vI x3), some (vI x4), some (vI x5), u6, some (vI x7)] [vI z0, vI z1] (s, g_rho) (some (vI o.1), (o.2, g_rho)) := by
  refine iRR.of 5 ?_
  refine iRT.ov h fun h => ?_
  refine iRT.ov h fun h => ?_
  exact iRT.go 1 (h_at35 _ _ _ _ _ _ _ _ _ h) (fun _ _ => rfl)
set_option maxHeartbeats 100000 in
theorem f264_63_at35_ok (L N d : Nat) : ∀ (n : Nat) (x1 : Int) (x2 : Int) (x3 : Int) (x4 : Int) (x5 : Int) (x6 : Int) (x7 : Int) (s : gI) (o : Int × gI), f264_at35 N n x1 x2 x3 x4 x5 x6 x7 s = some o → iRR false L (d + 8) kj264 k264_35 [some (vR 63), some (vI x1), some (vI x2), some (vI x3), some (vI x4), some (vI x5), some (vI x6), some (vI x7)] [] (s, g_rho) (some (vI o.1), (o.2, g_rho)) := by
  intro n
  induction n with
  | zero => intro _ _ _ _ _ _ _ _ _ h; cases h
  | succ n ih =>
    intro x1 x2 x3 x4 x5 x6 x7 s o h
    refine iRR.of 401 ?_
    refine iRT.ite h (fun h => ?_) (fun h => ?_)
    · cases h
      exact iRT.ret
    · obtain ⟨s1, h1, h⟩ := i_o1_inv h
      refine iRT.call (f262_63_ok L N (d + 0) _ _ _ _ _ _ _ _ h1) ?_
      obtain ⟨i3, s2, h1, h⟩ := i_o2_inv h
      refine iRT.call (f263_63_ok L N (d + 6) _ _ _ h1) ?_
      refine iRT.ite h (fun h => ?_) (fun h => ?_)
      · exact iRT.go 1 (f264_63_at80_ok L N d (fun a0 a1 a2 a3 a4 a5 a6  s o h => ih a0 a1 a2 a3 a4 a5 a6 s o h) _ _ _ _ _ _ _ _ _ h) (fun _ _ => rfl)
      · obtain ⟨i5, s4, h1, h⟩ := i_o2_inv h
        refine iRT.call (f260_63_ok L N (d + 7) _ _ _ h1) ?_
        exact iRT.go 1 (f264_63_at80_ok L N d (fun a0 a1 a2 a3 a4 a5 a6  s o h => ih a0 a1 a2 a3 a4 a5 a6 s o h) _ _ _ _ _ _ _ _ _ h) (fun _ _ => rfl)
set_option maxHeartbeats 100000 in
theorem f264_63_ok (L N d : Nat) (x1 : Int) (x2 : Int) (x3 : Int) (x4 : Int) (x5 : Int) (s : gI) {o : Int × gI} (h : f264 N x1 x2 x3 x4 x5 s = some o) : iEE L (d + 9) 264 [vR 63, vI x1, vI x2, vI x3, vI x4, vI x5] (s, g_rho) (some (vI o.1), (o.2, g_rho)) := by
  refine iEE.of (wr := false) (d := d + 8) (md := gm_264) rfl rfl rfl (iRR.of 401 ?_)
  delta f264 at h
  obtain ⟨i3, s2, h1, h⟩ := i_o2_inv h
  refine iRT.call (f241_63_ok L N (d + 5) _ _ _ _ _ h1) ?_
  refine iRT.ite h (fun h => ?_) (fun h => ?_)
  · cases h
    exact iRT.ret
  · obtain ⟨i5, s4, h1, h⟩ := i_o2_inv h
    refine iRT.call (f189_ok L N (d + 7) _ _ _ _ h1) ?_
    refine iRT.ite h (fun h => ?_) (fun h => ?_)
    · cases h
      exact iRT.ret
    · exact iRT.go 4 (f264_63_at35_ok L N d N _ _ _ _ _ _ _ _ _ h) (fun _ _ => rfl)
-- GutterNineModel.worthIn
set_option maxHeartbeats 100000 in
theorem f261_63_at36_ok (L N d : Nat) {r_at4 : Int → Int → Int → gI → Option (Int × gI)} (h_at4 : ∀ x1 x2 x3 s o, r_at4 x1 x2 x3 s = some o → iRR false L (d + 1) kj261 k261_4 [some (vR 63), some (vI x1), some (vI x2), some (vI x3)] [] (s, g_rho) (some (vI o.1), (o.2, g_rho))) (x1 : Int) (x3 : Int) (z0 : Int) (z1 : Int) {u2 : Option iV} (s : gI) {o : Int × gI} (h : f261_at36 N r_at4 x1 x3 z0 z1 s = some o) : iRR false L (d + 1) kj261 k261_36 [some (vR 63), some (vI x1), u2, some (vI x3)] [vI z0, vI z1] (s, g_rho) (some (vI o.1), (o.2, g_rho)) := by
  refine iRR.of 5 ?_
  refine iRT.ov h fun h => ?_
  refine iRT.ov h fun h => ?_
  exact iRT.go 1 (h_at4 _ _ _ _ _ h) (fun _ _ => rfl)
set_option maxHeartbeats 100000 in
theorem f261_63_at4_ok (L N d : Nat) : ∀ (n : Nat) (x1 : Int) (x2 : Int) (x3 : Int) (s : gI) (o : Int × gI), f261_at4 N n x1 x2 x3 s = some o → iRR false L (d + 1) kj261 k261_4 [some (vR 63), some (vI x1), some (vI x2), some (vI x3)] [] (s, g_rho) (some (vI o.1), (o.2, g_rho)) := by
  intro n
  induction n with
  | zero => intro _ _ _ _ _ h; cases h
  | succ n ih =>
    intro x1 x2 x3 s o h
    refine iRR.of 401 ?_
    obtain ⟨i2, s1, h1, h⟩ := i_o2_inv h
    refine iRT.call (f221_63_ok L N (d + 0)  _ h1) ?_
    refine iRT.ite h (fun h => ?_) (fun h => ?_)
    · cases h
      exact iRT.ret
    · refine iRT.ov h fun h => ?_
      refine iRT.ck h fun h => ?_
      refine iRT.ite h (fun h => ?_) (fun h => ?_)
      · obtain ⟨i4, s3, h1, h⟩ := i_o2_inv h
        refine iRT.call (f226_63_ok L N (d + 0) _ _ _ h1) ?_
        exact iRT.go 1 (f261_63_at36_ok L N d (fun a0 a1 a2  s o h => ih a0 a1 a2 s o h) _ _ _ _ _ h) (fun _ _ => rfl)
      · exact iRT.go 1 (f261_63_at36_ok L N d (fun a0 a1 a2  s o h => ih a0 a1 a2 s o h) _ _ _ _ _ h) (fun _ _ => rfl)
set_option maxHeartbeats 100000 in
theorem f261_63_ok (L N d : Nat) (x1 : Int) (s : gI) {o : Int × gI} (h : f261 N x1 s = some o) : iEE L (d + 2) 261 [vR 63, vI x1] (s, g_rho) (some (vI o.1), (o.2, g_rho)) := by
  refine iEE.of (wr := false) (d := d + 1) (md := gm_261) rfl rfl rfl (iRR.of 5 ?_)
  exact iRT.go 4 (f261_63_at4_ok L N d N _ _ _ _ _ h) (fun _ _ => rfl)
-- GutterNineModel.meanOf
set_option maxHeartbeats 100000 in
theorem f265_63_at6_ok (L N d : Nat) : ∀ (n : Nat) (x1 : Int) (x2 : Int) (x3 : Int) (x4 : Int) (x5 : Int) (x6 : Int) (x7 : Int) (s : gI) (o : Int × gI), f265_at6 N n x1 x2 x3 x4 x5 x6 x7 s = some o → iRR false L (d + 8) kj265 k265_6 [some (vR 63), some (vI x1), some (vI x2), some (vI x3), some (vI x4), some (vI x5), some (vI x6), some (vI x7)] [] (s, g_rho) (some (vI o.1), (o.2, g_rho)) := by
  intro n
  induction n with
  | zero => intro _ _ _ _ _ _ _ _ _ h; cases h
  | succ n ih =>
    intro x1 x2 x3 x4 x5 x6 x7 s o h
    refine iRR.of 401 ?_
    refine iRT.ite h (fun h => ?_) (fun h => ?_)
    · cases h
      exact iRT.ret
    · obtain ⟨i2, s1, h1, h⟩ := i_o2_inv h
      refine iRT.call (f260_63_ok L N (d + 7) _ _ _ h1) ?_
      refine iRT.ite h (fun h => ?_) (fun h => ?_)
      · refine iRT.ov h fun h => ?_
        exact iRT.go 1 (ih _ _ _ _ _ _ _ _ _ h) (fun _ _ => rfl)
      · refine iRT.dv h fun h => ?_
        refine iRT.dv h fun h => ?_
        obtain ⟨s4, h1, h⟩ := i_o1_inv h
        refine iRT.call (f262_63_ok L N (d + 0) _ _ _ _ _ _ _ _ h1) ?_
        obtain ⟨i6, s5, h1, h⟩ := i_o2_inv h
        refine iRT.call (f260_63_ok L N (d + 7) _ _ _ h1) ?_
        obtain ⟨i8, s7, h1, h⟩ := i_o2_inv h
        refine iRT.call (f261_63_ok L N (d + 6) _ _ h1) ?_
        refine iRT.ov h fun h => ?_
        refine iRT.ov h fun h => ?_
        refine iRT.ov h fun h => ?_
        exact iRT.go 1 (ih _ _ _ _ _ _ _ _ _ h) (fun _ _ => rfl)
set_option maxHeartbeats 100000 in
theorem f265_63_ok (L N d : Nat) (x1 : Int) (x2 : Int) (x3 : Int) (x4 : Int) (x5 : Int) (s : gI) {o : Int × gI} (h : f265 N x1 x2 x3 x4 x5 s = some o) : iEE L (d + 9) 265 [vR 63, vI x1, vI x2, vI x3, vI x4, vI x5] (s, g_rho) (some (vI o.1), (o.2, g_rho)) := by
  refine iEE.of (wr := false) (d := d + 8) (md := gm_265) rfl rfl rfl (iRR.of 5 ?_)
  exact iRT.go 4 (f265_63_at6_ok L N d N _ _ _ _ _ _ _ _ _ h) (fun _ _ => rfl)
-- GutterNineModel.gain
set_option maxHeartbeats 100000 in
theorem f266_63_at18_ok (L N d : Nat) (x1 : Int) (x2 : Int) (x3 : Int) (x4 : Int) (z0 : Int) (s : gI) {o : Int × gI} (h : f266_at18 N x1 x2 x3 x4 z0 s = some o) : iRR false L (d + 9) kj266 k266_18 [some (vR 63), some (vI x1), some (vI x2), some (vI x3), some (vI x4)] [vI z0, vR 63] (s, g_rho) (some (vI o.1), (o.2, g_rho)) := by
  refine iRR.of 401 ?_
  refine iRT.ite h (fun h => ?_) (fun h => ?_)
  · refine iRT.ov h fun h => ?_
    refine iRT.ov h fun h => ?_
    obtain ⟨i3, s2, h1, h⟩ := i_o2_inv h
    refine iRT.call (f265_63_ok L N (d + 0) _ _ _ _ _ _ h1) ?_
    obtain ⟨i5, s4, h1, h⟩ := i_o2_inv h
    refine iRT.call (f261_63_ok L N (d + 7) _ _ h1) ?_
    refine iRT.ov h fun h => ?_
    refine iRT.ov h fun h => ?_
    cases h
    exact iRT.ret
  · cases h
    exact iRT.ret
set_option maxHeartbeats 100000 in
theorem f266_63_ok (L N d : Nat) (x1 : Int) (x2 : Int) (x3 : Int) (x4 : Int) (s : gI) {o : Int × gI} (h : f266 N x1 x2 x3 x4 s = some o) : iEE L (d + 10) 266 [vR 63, vI x1, vI x2, vI x3, vI x4] (s, g_rho) (some (vI o.1), (o.2, g_rho)) := by
  refine iEE.of (wr := false) (d := d + 9) (md := gm_266) rfl rfl rfl (iRR.of 11 ?_)
  obtain ⟨i2, s1, h1, h⟩ := i_o2_inv h
  refine iRT.call (f241_63_ok L N (d + 6) _ _ _ _ _ h1) ?_
  refine iRT.ite h (fun h => ?_) (fun h => ?_)
  · exact iRT.go 1 (f266_63_at18_ok L N d _ _ _ _ _ _ h) (fun _ _ => rfl)
  · exact iRT.go 2 (f266_63_at18_ok L N d _ _ _ _ _ _ h) (fun _ _ => rfl)
-- GutterNineModel.inHand
set_option maxHeartbeats 100000 in
theorem f267_63_at31_ok (L N d : Nat) {r_at4 : Int → Int → Int → gI → Option (Int × gI)} (h_at4 : ∀ x1 x2 x3 s o, r_at4 x1 x2 x3 s = some o → iRR false L (d + 1) kj267 k267_4 [some (vR 63), some (vI x1), some (vI x2), some (vI x3)] [] (s, g_rho) (some (vI o.1), (o.2, g_rho))) (x1 : Int) (x3 : Int) (z0 : Int) (z1 : Int) {u2 : Option iV} (s : gI) {o : Int × gI} (h : f267_at31 N r_at4 x1 x3 z0 z1 s = some o) : iRR false L (d + 1) kj267 k267_31 [some (vR 63), some (vI x1), u2, some (vI x3)] [vI z0, vI z1] (s, g_rho) (some (vI o.1), (o.2, g_rho)) := by
  refine iRR.of 5 ?_
  refine iRT.ov h fun h => ?_
  refine iRT.ov h fun h => ?_
  exact iRT.go 1 (h_at4 _ _ _ _ _ h) (fun _ _ => rfl)
set_option maxHeartbeats 100000 in
theorem f267_63_at4_ok (L N d : Nat) : ∀ (n : Nat) (x1 : Int) (x2 : Int) (x3 : Int) (s : gI) (o : Int × gI), f267_at4 N n x1 x2 x3 s = some o → iRR false L (d + 1) kj267 k267_4 [some (vR 63), some (vI x1), some (vI x2), some (vI x3)] [] (s, g_rho) (some (vI o.1), (o.2, g_rho)) := by
  intro n
  induction n with
  | zero => intro _ _ _ _ _ h; cases h
  | succ n ih =>
    intro x1 x2 x3 s o h
    refine iRR.of 401 ?_
    obtain ⟨i2, s1, h1, h⟩ := i_o2_inv h
    refine iRT.call (f221_63_ok L N (d + 0)  _ h1) ?_
    refine iRT.ite h (fun h => ?_) (fun h => ?_)
    · cases h
      exact iRT.ret
    · refine iRT.ov h fun h => ?_
      refine iRT.ck h fun h => ?_
      refine iRT.ite h (fun h => ?_) (fun h => ?_)
      · exact iRT.go 2 (f267_63_at31_ok L N d (fun a0 a1 a2  s o h => ih a0 a1 a2 s o h) _ _ _ _ _ h) (fun _ _ => rfl)
      · exact iRT.go 1 (f267_63_at31_ok L N d (fun a0 a1 a2  s o h => ih a0 a1 a2 s o h) _ _ _ _ _ h) (fun _ _ => rfl)
set_option maxHeartbeats 100000 in
theorem f267_63_ok (L N d : Nat) (x1 : Int) (s : gI) {o : Int × gI} (h : f267 N x1 s = some o) : iEE L (d + 2) 267 [vR 63, vI x1] (s, g_rho) (some (vI o.1), (o.2, g_rho)) := by
  refine iEE.of (wr := false) (d := d + 1) (md := gm_267) rfl rfl rfl (iRR.of 5 ?_)
  exact iRT.go 4 (f267_63_at4_ok L N d N _ _ _ _ _ h) (fun _ _ => rfl)
-- GutterNineModel.next
set_option maxHeartbeats 100000 in
theorem f268_63_at166_ok (L N d : Nat) {r_at73 : Int → Int → Int → Int → Int → Int → gI → Option (Int × gI)} (h_at73 : ∀ x1 x2 x3 x4 x5 x6 u7 u8 s o, r_at73 x1 x2 x3 x4 x5 x6 s = some o → iRR false L (d + 9) kj268 k268_73 [some (vR 63), some (vI x1), some (vI x2), some (vI x3), some (vI x4), some (vI x5), some (vI x6), u7, u8] [] (s, g_rho) (some (vI o.1), (o.2, g_rho))) (x1 : Int) (x3 : Int) (x4 : Int) (x5 : Int) (x6 : Int) (x7 : Int) (x8 : Int) (z0 : Int) {u2 : Option iV} (s : gI) {o : Int × gI} (h : f268_at166 N r_at73 x1 x3 x4 x5 x6 x7 x8 z0 s = some o) : iRR false L (d + 9) kj268 k268_166 [some (vR 63), some (vI x1), u2, some (vI x3), some (vI x4), some (vI x5), some (vI x6), some (vI x7), some (vI x8)] [vI z0] (s, g_rho) (some (vI o.1), (o.2, g_rho)) := by
  refine iRR.of 9 ?_
  refine iRT.ite h (fun h => ?_) (fun h => ?_)
  · refine iRT.ov h fun h => ?_
    exact iRT.go 1 (h_at73 _ _ _ _ _ _ _ _ _ _ h) (fun _ _ => rfl)
  · refine iRT.ov h fun h => ?_
    exact iRT.go 1 (h_at73 _ _ _ _ _ _ _ _ _ _ h) (fun _ _ => rfl)
set_option maxHeartbeats 100000 in
theorem f268_63_at140_ok (L N d : Nat) {r_at73 : Int → Int → Int → Int → Int → Int → gI → Option (Int × gI)} (h_at73 : ∀ x1 x2 x3 x4 x5 x6 u7 u8 s o, r_at73 x1 x2 x3 x4 x5 x6 s = some o → iRR false L (d + 9) kj268 k268_73 [some (vR 63), some (vI x1), some (vI x2), some (vI x3), some (vI x4), some (vI x5), some (vI x6), u7, u8] [] (s, g_rho) (some (vI o.1), (o.2, g_rho))) (x1 : Int) (x2 : Int) (x3 : Int) (x4 : Int) (x5 : Int) (x6 : Int) (x7 : Int) (z0 : Int) {u8 : Option iV} (s : gI) {o : Int × gI} (h : f268_at140 N r_at73 x1 x2 x3 x4 x5 x6 x7 z0 s = some o) : iRR false L (d + 9) kj268 k268_140 [some (vR 63), some (vI x1), some (vI x2), some (vI x3), some (vI x4), some (vI x5), some (vI x6), some (vI x7), u8] [vI z0] (s, g_rho) (some (vI o.1), (o.2, g_rho)) := by
  refine iRR.of 14 ?_
  refine iRT.ite h (fun h => ?_) (fun h => ?_)
  · exact iRT.go 1 (f268_63_at166_ok L N d h_at73 _ _ _ _ _ _ _ _ _ h) (fun _ _ => rfl)
  · refine iRT.ov h fun h => ?_
    refine iRT.ov h fun h => ?_
    refine iRT.ov h fun h => ?_
    refine iRT.ov h fun h => ?_
    exact iRT.go 1 (f268_63_at166_ok L N d h_at73 _ _ _ _ _ _ _ _ _ h) (fun _ _ => rfl)
set_option maxHeartbeats 100000 in
theorem f268_63_at135_ok (L N d : Nat) {r_at73 : Int → Int → Int → Int → Int → Int → gI → Option (Int × gI)} (h_at73 : ∀ x1 x2 x3 x4 x5 x6 u7 u8 s o, r_at73 x1 x2 x3 x4 x5 x6 s = some o → iRR false L (d + 9) kj268 k268_73 [some (vR 63), some (vI x1), some (vI x2), some (vI x3), some (vI x4), some (vI x5), some (vI x6), u7, u8] [] (s, g_rho) (some (vI o.1), (o.2, g_rho))) (x1 : Int) (x2 : Int) (x3 : Int) (x4 : Int) (x5 : Int) (x6 : Int) (x7 : Int) {u8 : Option iV} (s : gI) {o : Int × gI} (h : f268_at135 N r_at73 x1 x2 x3 x4 x5 x6 x7 s = some o) : iRR false L (d + 9) kj268 k268_135 [some (vR 63), some (vI x1), some (vI x2), some (vI x3), some (vI x4), some (vI x5), some (vI x6), some (vI x7), u8] [] (s, g_rho) (some (vI o.1), (o.2, g_rho)) := by
  refine iRR.of 3 ?_
  exact iRT.go 2 (f268_63_at140_ok L N d h_at73 _ _ _ _ _ _ _ _ _ h) (fun _ _ => rfl)
set_option maxHeartbeats 100000 in
theorem f268_63_at73_ok (L N d : Nat) {r_at61 : Int → Int → Int → Int → Int → gI → Option (Int × gI)} (h_at61 : ∀ x1 x2 x3 x4 x5 u6 u7 u8 s o, r_at61 x1 x2 x3 x4 x5 s = some o → iRR false L (d + 9) kj268 k268_61 [some (vR 63), some (vI x1), some (vI x2), some (vI x3), some (vI x4), some (vI x5), u6, u7, u8] [] (s, g_rho) (some (vI o.1), (o.2, g_rho))) : ∀ (n : Nat) (x1 : Int) (x2 : Int) (x3 : Int) (x4 : Int) (x5 : Int) (x6 : Int) {u7 u8 : Option iV} (s : gI) (o : Int × gI), f268_at73 N r_at61 n x1 x2 x3 x4 x5 x6 s = some o → iRR false L (d + 9) kj268 k268_73 [some (vR 63), some (vI x1), some (vI x2), some (vI x3), some (vI x4), some (vI x5), some (vI x6), u7, u8] [] (s, g_rho) (some (vI o.1), (o.2, g_rho)) := by
  intro n
  induction n with
  | zero => intro _ _ _ _ _ _ _ _ _ _ h; cases h
  | succ n ih =>
    intro x1 x2 x3 x4 x5 x6 u7 u8 s o h
    refine iRR.of 33 ?_
    obtain ⟨i2, s1, h1, h⟩ := i_o2_inv h
    refine iRT.call (f219_63_ok L N (d + 8)  _ h1) ?_
    refine iRT.ov h fun h => ?_
    refine iRT.ite h (fun h => ?_) (fun h => ?_)
    · refine iRT.ov h fun h => ?_
      exact iRT.go 1 (h_at61 _ _ _ _ _ _ _ _ _ _ h) (fun _ _ => rfl)
    · refine iRT.ck h fun h => ?_
      refine iRT.ite h (fun h => ?_) (fun h => ?_)
      · refine iRT.dv h fun h => ?_
        obtain ⟨i6, s5, h1, h⟩ := i_o2_inv h
        refine iRT.call (f218_63_ok L N (d + 8)  _ h1) ?_
        refine iRT.ite h (fun h => ?_) (fun h => ?_)
        · refine iRT.ov h fun h => ?_
          exact iRT.go 1 (ih _ _ _ _ _ _ _ _ h) (fun _ _ => rfl)
        · obtain ⟨i9, s8, h1, h⟩ := i_o2_inv h
          refine iRT.call (f265_63_ok L N (d + 0) _ _ _ _ _ _ h1) ?_
          refine iRT.ite h (fun h => ?_) (fun h => ?_)
          · exact iRT.go 0 (f268_63_at135_ok L N d (fun a0 a1 a2 a3 a4 a5 b0 b1 s o h => ih a0 a1 a2 a3 a4 a5 s o h) _ _ _ _ _ _ _ _ h) (fun _ _ => rfl)
          · refine iRT.ite h (fun h => ?_) (fun h => ?_)
            · exact iRT.go 1 (f268_63_at140_ok L N d (fun a0 a1 a2 a3 a4 a5 b0 b1 s o h => ih a0 a1 a2 a3 a4 a5 s o h) _ _ _ _ _ _ _ _ _ h) (fun _ _ => rfl)
            · exact iRT.go 0 (f268_63_at135_ok L N d (fun a0 a1 a2 a3 a4 a5 b0 b1 s o h => ih a0 a1 a2 a3 a4 a5 s o h) _ _ _ _ _ _ _ _ h) (fun _ _ => rfl)
      · refine iRT.ov h fun h => ?_
        exact iRT.go 1 (h_at61 _ _ _ _ _ _ _ _ _ _ h) (fun _ _ => rfl)
set_option maxHeartbeats 100000 in
theorem f268_63_at61_ok (L N d : Nat) {r_at49 : Int → Int → Int → Int → gI → Option (Int × gI)} (h_at49 : ∀ x1 x2 x3 x4 u5 u6 u7 u8 s o, r_at49 x1 x2 x3 x4 s = some o → iRR false L (d + 9) kj268 k268_49 [some (vR 63), some (vI x1), some (vI x2), some (vI x3), some (vI x4), u5, u6, u7, u8] [] (s, g_rho) (some (vI o.1), (o.2, g_rho))) : ∀ (n : Nat) (x1 : Int) (x2 : Int) (x3 : Int) (x4 : Int) (x5 : Int) {u6 u7 u8 : Option iV} (s : gI) (o : Int × gI), f268_at61 N r_at49 n x1 x2 x3 x4 x5 s = some o → iRR false L (d + 9) kj268 k268_61 [some (vR 63), some (vI x1), some (vI x2), some (vI x3), some (vI x4), some (vI x5), u6, u7, u8] [] (s, g_rho) (some (vI o.1), (o.2, g_rho)) := by
  intro n
  induction n with
  | zero => intro _ _ _ _ _ _ _ _ _ _ h; cases h
  | succ n ih =>
    intro x1 x2 x3 x4 x5 u6 u7 u8 s o h
    refine iRR.of 7 ?_
    obtain ⟨i2, s1, h1, h⟩ := i_o2_inv h
    refine iRT.call (f221_63_ok L N (d + 8)  _ h1) ?_
    refine iRT.ite h (fun h => ?_) (fun h => ?_)
    · refine iRT.ov h fun h => ?_
      exact iRT.go 1 (h_at49 _ _ _ _ _ _ _ _ _ _ h) (fun _ _ => rfl)
    · exact iRT.go 2 (f268_63_at73_ok L N d (fun a0 a1 a2 a3 a4 b0 b1 b2 s o h => ih a0 a1 a2 a3 a4 s o h) N _ _ _ _ _ _ _ _ h) (fun _ _ => rfl)
set_option maxHeartbeats 100000 in
theorem f268_63_at49_ok (L N d : Nat) : ∀ (n : Nat) (x1 : Int) (x2 : Int) (x3 : Int) (x4 : Int) {u5 u6 u7 u8 : Option iV} (s : gI) (o : Int × gI), f268_at49 N n x1 x2 x3 x4 s = some o → iRR false L (d + 9) kj268 k268_49 [some (vR 63), some (vI x1), some (vI x2), some (vI x3), some (vI x4), u5, u6, u7, u8] [] (s, g_rho) (some (vI o.1), (o.2, g_rho)) := by
  intro n
  induction n with
  | zero => intro _ _ _ _ _ _ _ _ _ _ h; cases h
  | succ n ih =>
    intro x1 x2 x3 x4 u5 u6 u7 u8 s o h
    refine iRR.of 401 ?_
    obtain ⟨i2, s1, h1, h⟩ := i_o2_inv h
    refine iRT.call (f220_63_ok L N (d + 8)  _ h1) ?_
    refine iRT.ite h (fun h => ?_) (fun h => ?_)
    · refine iRT.ite h (fun h => ?_) (fun h => ?_)
      · obtain ⟨i4, s3, h1, h⟩ := i_o2_inv h
        refine iRT.call (f261_63_ok L N (d + 7) _ _ h1) ?_
        refine iRT.ov h fun h => ?_
        refine iRT.ov h fun h => ?_
        cases h
        exact iRT.ret
      · refine iRT.ite h (fun h => ?_) (fun h => ?_)
        · refine iRT.dv h fun h => ?_
          cases h
          exact iRT.ret
        · refine iRT.ite h (fun h => ?_) (fun h => ?_)
          · refine iRT.dv h fun h => ?_
            refine iRT.dv h fun h => ?_
            cases h
            exact iRT.ret
          · refine iRT.dv h fun h => ?_
            cases h
            exact iRT.ret
    · exact iRT.go 2 (f268_63_at61_ok L N d (fun a0 a1 a2 a3 b0 b1 b2 b3 s o h => ih a0 a1 a2 a3 s o h) N _ _ _ _ _ _ _ h) (fun _ _ => rfl)
set_option maxHeartbeats 100000 in
theorem f268_63_at30_ok (L N d : Nat) (x1 : Int) (z0 : Int) {u2 : Option iV} {u3 : Option iV} {u4 : Option iV} {u5 : Option iV} {u6 : Option iV} {u7 : Option iV} {u8 : Option iV} (s : gI) {o : Int × gI} (h : f268_at30 N x1 z0 s = some o) : iRR false L (d + 9) kj268 k268_30 [some (vR 63), some (vI x1), u2, u3, u4, u5, u6, u7, u8] [vI z0, vR 63] (s, g_rho) (some (vI o.1), (o.2, g_rho)) := by
  refine iRR.of 401 ?_
  refine iRT.ite h (fun h => ?_) (fun h => ?_)
  · exact iRT.go 6 (f268_63_at49_ok L N d N _ _ _ _ _ _ h) (fun _ _ => rfl)
  · cases h
    exact iRT.ret
set_option maxHeartbeats 100000 in
theorem f268_63_at29_ok (L N d : Nat) (x1 : Int) {u2 : Option iV} {u3 : Option iV} {u4 : Option iV} {u5 : Option iV} {u6 : Option iV} {u7 : Option iV} {u8 : Option iV} (s : gI) {o : Int × gI} (h : f268_at29 N x1 s = some o) : iRR false L (d + 9) kj268 k268_29 [some (vR 63), some (vI x1), u2, u3, u4, u5, u6, u7, u8] [vR 63] (s, g_rho) (some (vI o.1), (o.2, g_rho)) := by
  refine iRR.of 2 ?_
  exact iRT.go 1 (f268_63_at30_ok L N d _ _ _ h) (fun _ _ => rfl)
set_option maxHeartbeats 100000 in
theorem f268_63_ok (L N d : Nat) (x1 : Int) (s : gI) {o : Int × gI} (h : f268 N x1 s = some o) : iEE L (d + 10) 268 [vR 63, vI x1] (s, g_rho) (some (vI o.1), (o.2, g_rho)) := by
  refine iEE.of (wr := false) (d := d + 9) (md := gm_268) rfl rfl rfl (iRR.of 16 ?_)
  obtain ⟨i2, s1, h1, h⟩ := i_o2_inv h
  refine iRT.call (f189_ok L N (d + 8) _ _ _ _ h1) ?_
  refine iRT.ite h (fun h => ?_) (fun h => ?_)
  · exact iRT.go 0 (f268_63_at29_ok L N d _ _ h) (fun _ _ => rfl)
  · obtain ⟨i4, s3, h1, h⟩ := i_o2_inv h
    refine iRT.call (f220_63_ok L N (d + 8)  _ h1) ?_
    refine iRT.ite h (fun h => ?_) (fun h => ?_)
    · exact iRT.go 0 (f268_63_at29_ok L N d _ _ h) (fun _ _ => rfl)
    · obtain ⟨i6, s5, h1, h⟩ := i_o2_inv h
      refine iRT.call (f267_63_ok L N (d + 7) _ _ h1) ?_
      refine iRT.ite h (fun h => ?_) (fun h => ?_)
      · exact iRT.go 0 (f268_63_at29_ok L N d _ _ h) (fun _ _ => rfl)
      · exact iRT.go 2 (f268_63_at30_ok L N d _ _ _ h) (fun _ _ => rfl)
-- GutterNineModel.planOne
set_option maxHeartbeats 100000 in
theorem f269_63_at36_ok (L N d : Nat) {r_at24 : Int → Int → Int → Int → Int → gI → Option (Int × gI)} (h_at24 : ∀ x1 x2 x3 x4 x5 u6 u7 s o, r_at24 x1 x2 x3 x4 x5 s = some o → iRR false L (d + 9) kj269 k269_24 [some (vR 63), some (vI x1), some (vI x2), some (vI x3), some (vI x4), some (vI x5), u6, u7] [] (s, g_rho) (some (vI o.1), (o.2, g_rho))) : ∀ (n : Nat) (x1 : Int) (x2 : Int) (x3 : Int) (x4 : Int) (x5 : Int) (x6 : Int) {u7 : Option iV} (s : gI) (o : Int × gI), f269_at36 N r_at24 n x1 x2 x3 x4 x5 x6 s = some o → iRR false L (d + 9) kj269 k269_36 [some (vR 63), some (vI x1), some (vI x2), some (vI x3), some (vI x4), some (vI x5), some (vI x6), u7] [] (s, g_rho) (some (vI o.1), (o.2, g_rho)) := by
  intro n
  induction n with
  | zero => intro _ _ _ _ _ _ _ _ _ h; cases h
  | succ n ih =>
    intro x1 x2 x3 x4 x5 x6 u7 s o h
    refine iRR.of 42 ?_
    obtain ⟨i2, s1, h1, h⟩ := i_o2_inv h
    refine iRT.call (f221_63_ok L N (d + 8)  _ h1) ?_
    refine iRT.ite h (fun h => ?_) (fun h => ?_)
    · refine iRT.ov h fun h => ?_
      exact iRT.go 1 (h_at24 _ _ _ _ _ _ _ _ _ h) (fun _ _ => rfl)
    · refine iRT.ov h fun h => ?_
      refine iRT.ck h fun h => ?_
      refine iRT.ite h (fun h => ?_) (fun h => ?_)
      · refine iRT.ov h fun h => ?_
        refine iRT.ck h fun h => ?_
        refine iRT.ite h (fun h => ?_) (fun h => ?_)
        · refine iRT.ov h fun h => ?_
          exact iRT.go 1 (ih _ _ _ _ _ _ _ _ h) (fun _ _ => rfl)
        · refine iRT.ov h fun h => ?_
          refine iRT.ck h fun h => ?_
          obtain ⟨i7, s6, h1, h⟩ := i_o2_inv h
          refine iRT.call (f265_63_ok L N (d + 0) _ _ _ _ _ _ h1) ?_
          refine iRT.ite h (fun h => ?_) (fun h => ?_)
          · refine iRT.ov h fun h => ?_
            exact iRT.go 1 (ih _ _ _ _ _ _ _ _ h) (fun _ _ => rfl)
          · refine iRT.ov h fun h => ?_
            exact iRT.go 1 (ih _ _ _ _ _ _ _ _ h) (fun _ _ => rfl)
      · refine iRT.ov h fun h => ?_
        exact iRT.go 1 (h_at24 _ _ _ _ _ _ _ _ _ h) (fun _ _ => rfl)
set_option maxHeartbeats 100000 in
theorem f269_63_at24_ok (L N d : Nat) {r_at12 : Int → Int → Int → Int → gI → Option (Int × gI)} (h_at12 : ∀ x1 x2 x3 x4 u5 u6 u7 s o, r_at12 x1 x2 x3 x4 s = some o → iRR false L (d + 9) kj269 k269_12 [some (vR 63), some (vI x1), some (vI x2), some (vI x3), some (vI x4), u5, u6, u7] [] (s, g_rho) (some (vI o.1), (o.2, g_rho))) : ∀ (n : Nat) (x1 : Int) (x2 : Int) (x3 : Int) (x4 : Int) (x5 : Int) {u6 u7 : Option iV} (s : gI) (o : Int × gI), f269_at24 N r_at12 n x1 x2 x3 x4 x5 s = some o → iRR false L (d + 9) kj269 k269_24 [some (vR 63), some (vI x1), some (vI x2), some (vI x3), some (vI x4), some (vI x5), u6, u7] [] (s, g_rho) (some (vI o.1), (o.2, g_rho)) := by
  intro n
  induction n with
  | zero => intro _ _ _ _ _ _ _ _ _ h; cases h
  | succ n ih =>
    intro x1 x2 x3 x4 x5 u6 u7 s o h
    refine iRR.of 7 ?_
    obtain ⟨i2, s1, h1, h⟩ := i_o2_inv h
    refine iRT.call (f221_63_ok L N (d + 8)  _ h1) ?_
    refine iRT.ite h (fun h => ?_) (fun h => ?_)
    · refine iRT.ov h fun h => ?_
      exact iRT.go 1 (h_at12 _ _ _ _ _ _ _ _ _ h) (fun _ _ => rfl)
    · exact iRT.go 2 (f269_63_at36_ok L N d (fun a0 a1 a2 a3 a4 b0 b1 s o h => ih a0 a1 a2 a3 a4 s o h) N _ _ _ _ _ _ _ _ h) (fun _ _ => rfl)
set_option maxHeartbeats 100000 in
theorem f269_63_at12_ok (L N d : Nat) : ∀ (n : Nat) (x1 : Int) (x2 : Int) (x3 : Int) (x4 : Int) {u5 u6 u7 : Option iV} (s : gI) (o : Int × gI), f269_at12 N n x1 x2 x3 x4 s = some o → iRR false L (d + 9) kj269 k269_12 [some (vR 63), some (vI x1), some (vI x2), some (vI x3), some (vI x4), u5, u6, u7] [] (s, g_rho) (some (vI o.1), (o.2, g_rho)) := by
  intro n
  induction n with
  | zero => intro _ _ _ _ _ _ _ _ _ h; cases h
  | succ n ih =>
    intro x1 x2 x3 x4 u5 u6 u7 s o h
    refine iRR.of 401 ?_
    obtain ⟨i2, s1, h1, h⟩ := i_o2_inv h
    refine iRT.call (f220_63_ok L N (d + 8)  _ h1) ?_
    refine iRT.ite h (fun h => ?_) (fun h => ?_)
    · cases h
      exact iRT.ret
    · exact iRT.go 2 (f269_63_at24_ok L N d (fun a0 a1 a2 a3 b0 b1 b2 s o h => ih a0 a1 a2 a3 s o h) N _ _ _ _ _ _ _ h) (fun _ _ => rfl)
set_option maxHeartbeats 100000 in
theorem f269_63_ok (L N d : Nat) (x1 : Int) (x2 : Int) (s : gI) {o : Int × gI} (h : f269 N x1 x2 s = some o) : iEE L (d + 10) 269 [vR 63, vI x1, vI x2] (s, g_rho) (some (vI o.1), (o.2, g_rho)) := by
  refine iEE.of (wr := false) (d := d + 9) (md := gm_269) rfl rfl rfl (iRR.of 9 ?_)
  obtain ⟨i2, s1, h1, h⟩ := i_o2_inv h
  refine iRT.call (f261_63_ok L N (d + 7) _ _ h1) ?_
  refine iRT.ov h fun h => ?_
  exact iRT.go 3 (f269_63_at12_ok L N d N _ _ _ _ _ _ h) (fun _ _ => rfl)
-- GutterNineModel.twoFrom
set_option maxHeartbeats 100000 in
theorem f271_63_at6_ok (L N d : Nat) : ∀ (n : Nat) (x1 : Int) (x2 : Int) (x3 : Int) (x4 : Int) (x5 : Int) (s : gI) (o : Int × gI), f271_at6 N n x1 x2 x3 x4 x5 s = some o → iRR false L (d + 10) kj271 k271_6 [some (vR 63), some (vI x1), some (vI x2), some (vI x3), some (vI x4), some (vI x5)] [] (s, g_rho) (some (vI o.1), (o.2, g_rho)) := by
  intro n
  induction n with
  | zero => intro _ _ _ _ _ _ _ h; cases h
  | succ n ih =>
    intro x1 x2 x3 x4 x5 s o h
    refine iRR.of 401 ?_
    refine iRT.ite h (fun h => ?_) (fun h => ?_)
    · cases h
      exact iRT.ret
    · obtain ⟨i2, s1, h1, h⟩ := i_o2_inv h
      refine iRT.call (f260_63_ok L N (d + 9) _ _ _ h1) ?_
      refine iRT.ite h (fun h => ?_) (fun h => ?_)
      · refine iRT.ov h fun h => ?_
        exact iRT.go 1 (ih _ _ _ _ _ _ _ h) (fun _ _ => rfl)
      · refine iRT.dv h fun h => ?_
        refine iRT.dv h fun h => ?_
        obtain ⟨s4, h1, h⟩ := i_o1_inv h
        refine iRT.call (f262_63_ok L N (d + 2) _ _ _ _ _ _ _ _ h1) ?_
        obtain ⟨i6, s5, h1, h⟩ := i_o2_inv h
        refine iRT.call (f260_63_ok L N (d + 9) _ _ _ h1) ?_
        obtain ⟨i8, s7, h1, h⟩ := i_o2_inv h
        refine iRT.call (f269_63_ok L N (d + 0) _ _ _ h1) ?_
        refine iRT.ov h fun h => ?_
        refine iRT.ov h fun h => ?_
        refine iRT.ov h fun h => ?_
        exact iRT.go 1 (ih _ _ _ _ _ _ _ h) (fun _ _ => rfl)
set_option maxHeartbeats 100000 in
theorem f271_63_ok (L N d : Nat) (x1 : Int) (x2 : Int) (x3 : Int) (s : gI) {o : Int × gI} (h : f271 N x1 x2 x3 s = some o) : iEE L (d + 11) 271 [vR 63, vI x1, vI x2, vI x3] (s, g_rho) (some (vI o.1), (o.2, g_rho)) := by
  refine iEE.of (wr := false) (d := d + 10) (md := gm_271) rfl rfl rfl (iRR.of 5 ?_)
  exact iRT.go 4 (f271_63_at6_ok L N d N _ _ _ _ _ _ _ h) (fun _ _ => rfl)
-- GutterNineModel.plan
set_option maxHeartbeats 100000 in
theorem f270_63_at116_ok (L N d : Nat) {r_at64 : Int → Int → Int → Int → gI → Option (Int × gI)} (h_at64 : ∀ x3 x4 x5 x6 u1 u2 u7 s o, r_at64 x3 x4 x5 x6 s = some o → iRR false L (d + 11) kj270 k270_64 [some (vR 63), u1, u2, some (vI x3), some (vI x4), some (vI x5), some (vI x6), u7] [] (s, g_rho) (some (vI o.1), (o.2, g_rho))) (x3 : Int) (x4 : Int) (x5 : Int) (x6 : Int) (z0 : Int) {u1 : Option iV} {u2 : Option iV} {u7 : Option iV} (s : gI) {o : Int × gI} (h : f270_at116 N r_at64 x3 x4 x5 x6 z0 s = some o) : iRR false L (d + 11) kj270 k270_116 [some (vR 63), u1, u2, some (vI x3), some (vI x4), some (vI x5), some (vI x6), u7] [vI z0] (s, g_rho) (some (vI o.1), (o.2, g_rho)) := by
  refine iRR.of 10 ?_
  refine iRT.ite h (fun h => ?_) (fun h => ?_)
  · refine iRT.ov h fun h => ?_
    exact iRT.go 1 (h_at64 _ _ _ _ _ _ _ _ _ h) (fun _ _ => rfl)
  · refine iRT.ov h fun h => ?_
    exact iRT.go 1 (h_at64 _ _ _ _ _ _ _ _ _ h) (fun _ _ => rfl)
set_option maxHeartbeats 100000 in
theorem f270_63_at64_ok (L N d : Nat) {r_at52 : Int → Int → Int → gI → Option (Int × gI)} (h_at52 : ∀ x3 x4 x5 u1 u2 u6 u7 s o, r_at52 x3 x4 x5 s = some o → iRR false L (d + 11) kj270 k270_52 [some (vR 63), u1, u2, some (vI x3), some (vI x4), some (vI x5), u6, u7] [] (s, g_rho) (some (vI o.1), (o.2, g_rho))) : ∀ (n : Nat) (x3 : Int) (x4 : Int) (x5 : Int) (x6 : Int) {u1 u2 u7 : Option iV} (s : gI) (o : Int × gI), f270_at64 N r_at52 n x3 x4 x5 x6 s = some o → iRR false L (d + 11) kj270 k270_64 [some (vR 63), u1, u2, some (vI x3), some (vI x4), some (vI x5), some (vI x6), u7] [] (s, g_rho) (some (vI o.1), (o.2, g_rho)) := by
  intro n
  induction n with
  | zero => intro _ _ _ _ _ _ _ _ _ h; cases h
  | succ n ih =>
    intro x3 x4 x5 x6 u1 u2 u7 s o h
    refine iRR.of 26 ?_
    obtain ⟨i2, s1, h1, h⟩ := i_o2_inv h
    refine iRT.call (f221_63_ok L N (d + 10)  _ h1) ?_
    refine iRT.ite h (fun h => ?_) (fun h => ?_)
    · refine iRT.ov h fun h => ?_
      exact iRT.go 1 (h_at52 _ _ _ _ _ _ _ _ _ h) (fun _ _ => rfl)
    · refine iRT.ck h fun h => ?_
      refine iRT.ite h (fun h => ?_) (fun h => ?_)
      · refine iRT.ck h fun h => ?_
        refine iRT.ite h (fun h => ?_) (fun h => ?_)
        · exact iRT.go 1 (f270_63_at116_ok L N d (fun a0 a1 a2 a3 b0 b1 b2 s o h => ih a0 a1 a2 a3 s o h) _ _ _ _ _ _ h) (fun _ _ => rfl)
        · refine iRT.ck h fun h => ?_
          obtain ⟨i6, s5, h1, h⟩ := i_o2_inv h
          refine iRT.call (f271_63_ok L N (d + 0) _ _ _ _ h1) ?_
          exact iRT.go 1 (f270_63_at116_ok L N d (fun a0 a1 a2 a3 b0 b1 b2 s o h => ih a0 a1 a2 a3 s o h) _ _ _ _ _ _ h) (fun _ _ => rfl)
      · refine iRT.ov h fun h => ?_
        exact iRT.go 1 (h_at52 _ _ _ _ _ _ _ _ _ h) (fun _ _ => rfl)
set_option maxHeartbeats 100000 in
theorem f270_63_at52_ok (L N d : Nat) {r_at40 : Int → Int → gI → Option (Int × gI)} (h_at40 : ∀ x3 x4 u1 u2 u5 u6 u7 s o, r_at40 x3 x4 s = some o → iRR false L (d + 11) kj270 k270_40 [some (vR 63), u1, u2, some (vI x3), some (vI x4), u5, u6, u7] [] (s, g_rho) (some (vI o.1), (o.2, g_rho))) : ∀ (n : Nat) (x3 : Int) (x4 : Int) (x5 : Int) {u1 u2 u6 u7 : Option iV} (s : gI) (o : Int × gI), f270_at52 N r_at40 n x3 x4 x5 s = some o → iRR false L (d + 11) kj270 k270_52 [some (vR 63), u1, u2, some (vI x3), some (vI x4), some (vI x5), u6, u7] [] (s, g_rho) (some (vI o.1), (o.2, g_rho)) := by
  intro n
  induction n with
  | zero => intro _ _ _ _ _ _ _ _ _ h; cases h
  | succ n ih =>
    intro x3 x4 x5 u1 u2 u6 u7 s o h
    refine iRR.of 7 ?_
    obtain ⟨i2, s1, h1, h⟩ := i_o2_inv h
    refine iRT.call (f221_63_ok L N (d + 10)  _ h1) ?_
    refine iRT.ite h (fun h => ?_) (fun h => ?_)
    · refine iRT.ov h fun h => ?_
      exact iRT.go 1 (h_at40 _ _ _ _ _ _ _ _ _ h) (fun _ _ => rfl)
    · exact iRT.go 2 (f270_63_at64_ok L N d (fun a0 a1 a2 b0 b1 b2 b3 s o h => ih a0 a1 a2 s o h) N _ _ _ _ _ _ h) (fun _ _ => rfl)
set_option maxHeartbeats 100000 in
theorem f270_63_at40_ok (L N d : Nat) : ∀ (n : Nat) (x3 : Int) (x4 : Int) {u1 u2 u5 u6 u7 : Option iV} (s : gI) (o : Int × gI), f270_at40 N n x3 x4 s = some o → iRR false L (d + 11) kj270 k270_40 [some (vR 63), u1, u2, some (vI x3), some (vI x4), u5, u6, u7] [] (s, g_rho) (some (vI o.1), (o.2, g_rho)) := by
  intro n
  induction n with
  | zero => intro _ _ _ _ _ _ _ _ _ h; cases h
  | succ n ih =>
    intro x3 x4 u1 u2 u5 u6 u7 s o h
    refine iRR.of 401 ?_
    obtain ⟨i2, s1, h1, h⟩ := i_o2_inv h
    refine iRT.call (f220_63_ok L N (d + 10)  _ h1) ?_
    refine iRT.ite h (fun h => ?_) (fun h => ?_)
    · cases h
      exact iRT.ret
    · exact iRT.go 2 (f270_63_at52_ok L N d (fun a0 a1 b0 b1 b2 b3 b4 s o h => ih a0 a1 s o h) N _ _ _ _ _ h) (fun _ _ => rfl)
set_option maxHeartbeats 100000 in
theorem f270_63_ok (L N d : Nat) (x1 : Int) (s : gI) {o : Int × gI} (h : f270 N x1 s = some o) : iEE L (d + 12) 270 [vR 63, vI x1] (s, g_rho) (some (vI o.1), (o.2, g_rho)) := by
  refine iEE.of (wr := false) (d := d + 11) (md := gm_270) rfl rfl rfl (iRR.of 401 ?_)
  delta f270 at h
  obtain ⟨i3, s2, h1, h⟩ := i_o2_inv h
  refine iRT.call (f189_ok L N (d + 10) _ _ _ _ h1) ?_
  refine iRT.ite h (fun h => ?_) (fun h => ?_)
  · cases h
    exact iRT.ret
  · obtain ⟨i5, s4, h1, h⟩ := i_o2_inv h
    refine iRT.call (f269_63_ok L N (d + 1) _ _ _ h1) ?_
    refine iRT.ite h (fun h => ?_) (fun h => ?_)
    · cases h
      exact iRT.ret
    · refine iRT.ov h fun h => ?_
      exact iRT.go 3 (f270_63_at40_ok L N d N _ _ _ _ h) (fun _ _ => rfl)
-- GutterNineModel.alone
set_option maxHeartbeats 100000 in
theorem f272_63_at186_ok (L N d : Nat) {r_at73 : Int → Int → Int → Int → Int → Int → Int → gI → Option (Int × gI)} (h_at73 : ∀ x1 x2 x3 x4 x5 x6 x7 u8 u9 s o, r_at73 x1 x2 x3 x4 x5 x6 x7 s = some o → iRR false L (d + 8) kj272 k272_73 [some (vR 63), some (vI x1), some (vI x2), some (vI x3), some (vI x4), some (vI x5), some (vI x6), some (vI x7), u8, u9] [] (s, g_rho) (some (vI o.1), (o.2, g_rho))) (x1 : Int) (x2 : Int) (x3 : Int) (x4 : Int) (x5 : Int) (x6 : Int) (x7 : Int) (x8 : Int) {u9 : Option iV} (s : gI) {o : Int × gI} (h : f272_at186 N r_at73 x1 x2 x3 x4 x5 x6 x7 x8 s = some o) : iRR false L (d + 8) kj272 k272_186 [some (vR 63), some (vI x1), some (vI x2), some (vI x3), some (vI x4), some (vI x5), some (vI x6), some (vI x7), some (vI x8), u9] [] (s, g_rho) (some (vI o.1), (o.2, g_rho)) := by
  refine iRR.of 12 ?_
  refine iRT.ite h (fun h => ?_) (fun h => ?_)
  · refine iRT.ov h fun h => ?_
    exact iRT.go 1 (h_at73 _ _ _ _ _ _ _ _ _ _ _ h) (fun _ _ => rfl)
  · refine iRT.ov h fun h => ?_
    exact iRT.go 1 (h_at73 _ _ _ _ _ _ _ _ _ _ _ h) (fun _ _ => rfl)
set_option maxHeartbeats 100000 in
theorem f272_63_at177_ok (L N d : Nat) {r_at104 : Int → Int → Int → Int → Int → Int → Int → Int → Int → gI → Option (Int × gI)} (h_at104 : ∀ x1 x2 x3 x4 x5 x6 x7 x8 x9 s o, r_at104 x1 x2 x3 x4 x5 x6 x7 x8 x9 s = some o → iRR false L (d + 8) kj272 k272_104 [some (vR 63), some (vI x1), some (vI x2), some (vI x3), some (vI x4), some (vI x5), some (vI x6), some (vI x7), some (vI x8), some (vI x9)] [] (s, g_rho) (some (vI o.1), (o.2, g_rho))) (x1 : Int) (x2 : Int) (x3 : Int) (x4 : Int) (x5 : Int) (x6 : Int) (x7 : Int) (x9 : Int) (z0 : Int) (z1 : Int) {u8 : Option iV} (s : gI) {o : Int × gI} (h : f272_at177 N r_at104 x1 x2 x3 x4 x5 x6 x7 x9 z0 z1 s = some o) : iRR false L (d + 8) kj272 k272_177 [some (vR 63), some (vI x1), some (vI x2), some (vI x3), some (vI x4), some (vI x5), some (vI x6), some (vI x7), u8, some (vI x9)] [vI z0, vI z1] (s, g_rho) (some (vI o.1), (o.2, g_rho)) := by
  refine iRR.of 5 ?_
  refine iRT.ov h fun h => ?_
  refine iRT.ov h fun h => ?_
  exact iRT.go 1 (h_at104 _ _ _ _ _ _ _ _ _ _ _ h) (fun _ _ => rfl)
set_option maxHeartbeats 100000 in
theorem f272_63_at104_ok (L N d : Nat) {r_at73 : Int → Int → Int → Int → Int → Int → Int → gI → Option (Int × gI)} (h_at73 : ∀ x1 x2 x3 x4 x5 x6 x7 u8 u9 s o, r_at73 x1 x2 x3 x4 x5 x6 x7 s = some o → iRR false L (d + 8) kj272 k272_73 [some (vR 63), some (vI x1), some (vI x2), some (vI x3), some (vI x4), some (vI x5), some (vI x6), some (vI x7), u8, u9] [] (s, g_rho) (some (vI o.1), (o.2, g_rho))) : ∀ (n : Nat) (x1 : Int) (x2 : Int) (x3 : Int) (x4 : Int) (x5 : Int) (x6 : Int) (x7 : Int) (x8 : Int) (x9 : Int) (s : gI) (o : Int × gI), f272_at104 N r_at73 n x1 x2 x3 x4 x5 x6 x7 x8 x9 s = some o → iRR false L (d + 8) kj272 k272_104 [some (vR 63), some (vI x1), some (vI x2), some (vI x3), some (vI x4), some (vI x5), some (vI x6), some (vI x7), some (vI x8), some (vI x9)] [] (s, g_rho) (some (vI o.1), (o.2, g_rho)) := by
  intro n
  induction n with
  | zero => intro _ _ _ _ _ _ _ _ _ _ _ h; cases h
  | succ n ih =>
    intro x1 x2 x3 x4 x5 x6 x7 x8 x9 s o h
    refine iRR.of 39 ?_
    refine iRT.ite h (fun h => ?_) (fun h => ?_)
    · exact iRT.go 0 (f272_63_at186_ok L N d h_at73 _ _ _ _ _ _ _ _ _ h) (fun _ _ => rfl)
    · refine iRT.ite h (fun h => ?_) (fun h => ?_)
      · exact iRT.go 0 (f272_63_at186_ok L N d h_at73 _ _ _ _ _ _ _ _ _ h) (fun _ _ => rfl)
      · refine iRT.ck h fun h => ?_
        refine iRT.dv h fun h => ?_
        refine iRT.ck h fun h => ?_
        refine iRT.dv h fun h => ?_
        obtain ⟨s1, h1, h⟩ := i_o1_inv h
        refine iRT.call (f262_63_ok L N (d + 0) _ _ _ _ _ _ _ _ h1) ?_
        refine iRT.ov h fun h => ?_
        refine iRT.ck h fun h => ?_
        refine iRT.ite h (fun h => ?_) (fun h => ?_)
        · obtain ⟨i3, s2, h1, h⟩ := i_o2_inv h
          refine iRT.call (f260_63_ok L N (d + 7) _ _ _ h1) ?_
          exact iRT.go 1 (f272_63_at177_ok L N d (fun a0 a1 a2 a3 a4 a5 a6 a7 a8  s o h => ih a0 a1 a2 a3 a4 a5 a6 a7 a8 s o h) _ _ _ _ _ _ _ _ _ _ _ h) (fun _ _ => rfl)
        · exact iRT.go 1 (f272_63_at177_ok L N d (fun a0 a1 a2 a3 a4 a5 a6 a7 a8  s o h => ih a0 a1 a2 a3 a4 a5 a6 a7 a8 s o h) _ _ _ _ _ _ _ _ _ _ _ h) (fun _ _ => rfl)
set_option maxHeartbeats 100000 in
theorem f272_63_at73_ok (L N d : Nat) {r_at61 : Int → Int → Int → Int → Int → Int → gI → Option (Int × gI)} (h_at61 : ∀ x1 x2 x3 x4 x5 x6 u7 u8 u9 s o, r_at61 x1 x2 x3 x4 x5 x6 s = some o → iRR false L (d + 8) kj272 k272_61 [some (vR 63), some (vI x1), some (vI x2), some (vI x3), some (vI x4), some (vI x5), some (vI x6), u7, u8, u9] [] (s, g_rho) (some (vI o.1), (o.2, g_rho))) : ∀ (n : Nat) (x1 : Int) (x2 : Int) (x3 : Int) (x4 : Int) (x5 : Int) (x6 : Int) (x7 : Int) {u8 u9 : Option iV} (s : gI) (o : Int × gI), f272_at73 N r_at61 n x1 x2 x3 x4 x5 x6 x7 s = some o → iRR false L (d + 8) kj272 k272_73 [some (vR 63), some (vI x1), some (vI x2), some (vI x3), some (vI x4), some (vI x5), some (vI x6), some (vI x7), u8, u9] [] (s, g_rho) (some (vI o.1), (o.2, g_rho)) := by
  intro n
  induction n with
  | zero => intro _ _ _ _ _ _ _ _ _ _ _ h; cases h
  | succ n ih =>
    intro x1 x2 x3 x4 x5 x6 x7 u8 u9 s o h
    refine iRR.of 16 ?_
    obtain ⟨i2, s1, h1, h⟩ := i_o2_inv h
    refine iRT.call (f221_63_ok L N (d + 7)  _ h1) ?_
    refine iRT.ite h (fun h => ?_) (fun h => ?_)
    · refine iRT.ov h fun h => ?_
      exact iRT.go 1 (h_at61 _ _ _ _ _ _ _ _ _ _ _ h) (fun _ _ => rfl)
    · refine iRT.ck h fun h => ?_
      refine iRT.ite h (fun h => ?_) (fun h => ?_)
      · exact iRT.go 5 (f272_63_at104_ok L N d (fun a0 a1 a2 a3 a4 a5 a6 b0 b1 s o h => ih a0 a1 a2 a3 a4 a5 a6 s o h) N _ _ _ _ _ _ _ _ _ _ _ h) (fun _ _ => rfl)
      · exact iRT.go 4 (f272_63_at104_ok L N d (fun a0 a1 a2 a3 a4 a5 a6 b0 b1 s o h => ih a0 a1 a2 a3 a4 a5 a6 s o h) N _ _ _ _ _ _ _ _ _ _ _ h) (fun _ _ => rfl)
set_option maxHeartbeats 100000 in
theorem f272_63_at61_ok (L N d : Nat) : ∀ (n : Nat) (x1 : Int) (x2 : Int) (x3 : Int) (x4 : Int) (x5 : Int) (x6 : Int) {u7 u8 u9 : Option iV} (s : gI) (o : Int × gI), f272_at61 N n x1 x2 x3 x4 x5 x6 s = some o → iRR false L (d + 8) kj272 k272_61 [some (vR 63), some (vI x1), some (vI x2), some (vI x3), some (vI x4), some (vI x5), some (vI x6), u7, u8, u9] [] (s, g_rho) (some (vI o.1), (o.2, g_rho)) := by
  intro n
  induction n with
  | zero => intro _ _ _ _ _ _ _ _ _ _ _ h; cases h
  | succ n ih =>
    intro x1 x2 x3 x4 x5 x6 u7 u8 u9 s o h
    refine iRR.of 401 ?_
    obtain ⟨i2, s1, h1, h⟩ := i_o2_inv h
    refine iRT.call (f220_63_ok L N (d + 7)  _ h1) ?_
    refine iRT.ite h (fun h => ?_) (fun h => ?_)
    · refine iRT.ite h (fun h => ?_) (fun h => ?_)
      · cases h
        exact iRT.ret
      · refine iRT.ite h (fun h => ?_) (fun h => ?_)
        · cases h
          exact iRT.ret
        · cases h
          exact iRT.ret
    · exact iRT.go 2 (f272_63_at73_ok L N d (fun a0 a1 a2 a3 a4 a5 b0 b1 b2 s o h => ih a0 a1 a2 a3 a4 a5 s o h) N _ _ _ _ _ _ _ _ _ h) (fun _ _ => rfl)
set_option maxHeartbeats 100000 in
theorem f272_63_ok (L N d : Nat) (x1 : Int) (x2 : Int) (s : gI) {o : Int × gI} (h : f272 N x1 x2 s = some o) : iEE L (d + 9) 272 [vR 63, vI x1, vI x2] (s, g_rho) (some (vI o.1), (o.2, g_rho)) := by
  refine iEE.of (wr := false) (d := d + 8) (md := gm_272) rfl rfl rfl (iRR.of 401 ?_)
  delta f272 at h
  obtain ⟨i3, s2, h1, h⟩ := i_o2_inv h
  refine iRT.call (f223_63_ok L N (d + 6) _ _ h1) ?_
  refine iRT.ite h (fun h => ?_) (fun h => ?_)
  · cases h
    exact iRT.ret
  · refine iRT.ck h fun h => ?_
    refine iRT.ite h (fun h => ?_) (fun h => ?_)
    · cases h
      exact iRT.ret
    · obtain ⟨i5, s4, h1, h⟩ := i_o2_inv h
      refine iRT.call (f189_ok L N (d + 7) _ _ _ _ h1) ?_
      refine iRT.ite h (fun h => ?_) (fun h => ?_)
      · cases h
        exact iRT.ret
      · obtain ⟨i7, s6, h1, h⟩ := i_o2_inv h
        refine iRT.call (f220_63_ok L N (d + 7)  _ h1) ?_
        refine iRT.ite h (fun h => ?_) (fun h => ?_)
        · cases h
          exact iRT.ret
        · obtain ⟨i9, s8, h1, h⟩ := i_o2_inv h
          refine iRT.call (f267_63_ok L N (d + 6) _ _ h1) ?_
          refine iRT.ite h (fun h => ?_) (fun h => ?_)
          · cases h
            exact iRT.ret
          · exact iRT.go 8 (f272_63_at61_ok L N d N _ _ _ _ _ _ _ _ h) (fun _ _ => rfl)
-- GutterNineModel.washed
set_option maxHeartbeats 100000 in
theorem f273_63_at148_ok (L N d : Nat) {r_at48 : Int → Int → Int → gI → Option (Int × gI)} (h_at48 : ∀ x2 x3 x4 u1 u5 s o, r_at48 x2 x3 x4 s = some o → iRR false L (d + 6) kj273 k273_48 [some (vR 63), u1, some (vI x2), some (vI x3), some (vI x4), u5] [] (s, g_rho) (some (vI o.1), (o.2, g_rho))) (x2 : Int) (x4 : Int) (z0 : Int) (z1 : Int) {u1 : Option iV} {u3 : Option iV} {u5 : Option iV} (s : gI) {o : Int × gI} (h : f273_at148 N r_at48 x2 x4 z0 z1 s = some o) : iRR false L (d + 6) kj273 k273_148 [some (vR 63), u1, some (vI x2), u3, some (vI x4), u5] [vI z0, vI z1] (s, g_rho) (some (vI o.1), (o.2, g_rho)) := by
  refine iRR.of 5 ?_
  refine iRT.ov h fun h => ?_
  exact iRT.go 1 (h_at48 _ _ _ _ _ _ _ h) (fun _ _ => rfl)
set_option maxHeartbeats 100000 in
theorem f273_63_at132_ok (L N d : Nat) {r_at48 : Int → Int → Int → gI → Option (Int × gI)} (h_at48 : ∀ x2 x3 x4 u1 u5 s o, r_at48 x2 x3 x4 s = some o → iRR false L (d + 6) kj273 k273_48 [some (vR 63), u1, some (vI x2), some (vI x3), some (vI x4), u5] [] (s, g_rho) (some (vI o.1), (o.2, g_rho))) (x2 : Int) (x3 : Int) (x4 : Int) (z0 : Int) {u1 : Option iV} {u5 : Option iV} (s : gI) {o : Int × gI} (h : f273_at132 N r_at48 x2 x3 x4 z0 s = some o) : iRR false L (d + 6) kj273 k273_132 [some (vR 63), u1, some (vI x2), some (vI x3), some (vI x4), u5] [vI z0] (s, g_rho) (some (vI o.1), (o.2, g_rho)) := by
  refine iRR.of 9 ?_
  refine iRT.ite h (fun h => ?_) (fun h => ?_)
  · exact iRT.go 1 (f273_63_at148_ok L N d h_at48 _ _ _ _ _ h) (fun _ _ => rfl)
  · exact iRT.go 4 (f273_63_at148_ok L N d h_at48 _ _ _ _ _ h) (fun _ _ => rfl)
set_option maxHeartbeats 100000 in
theorem f273_63_at131_ok (L N d : Nat) {r_at48 : Int → Int → Int → gI → Option (Int × gI)} (h_at48 : ∀ x2 x3 x4 u1 u5 s o, r_at48 x2 x3 x4 s = some o → iRR false L (d + 6) kj273 k273_48 [some (vR 63), u1, some (vI x2), some (vI x3), some (vI x4), u5] [] (s, g_rho) (some (vI o.1), (o.2, g_rho))) (x2 : Int) (x3 : Int) (x4 : Int) {u1 : Option iV} {u5 : Option iV} (s : gI) {o : Int × gI} (h : f273_at131 N r_at48 x2 x3 x4 s = some o) : iRR false L (d + 6) kj273 k273_131 [some (vR 63), u1, some (vI x2), some (vI x3), some (vI x4), u5] [] (s, g_rho) (some (vI o.1), (o.2, g_rho)) := by
  refine iRR.of 2 ?_
  exact iRT.go 1 (f273_63_at132_ok L N d h_at48 _ _ _ _ _ h) (fun _ _ => rfl)
set_option maxHeartbeats 100000 in
theorem f273_63_at93_ok (L N d : Nat) {r_at48 : Int → Int → Int → gI → Option (Int × gI)} (h_at48 : ∀ x2 x3 x4 u1 u5 s o, r_at48 x2 x3 x4 s = some o → iRR false L (d + 6) kj273 k273_48 [some (vR 63), u1, some (vI x2), some (vI x3), some (vI x4), u5] [] (s, g_rho) (some (vI o.1), (o.2, g_rho))) (x2 : Int) (x3 : Int) (x4 : Int) {u1 : Option iV} {u5 : Option iV} (s : gI) {o : Int × gI} (h : f273_at93 N r_at48 x2 x3 x4 s = some o) : iRR false L (d + 6) kj273 k273_93 [some (vR 63), u1, some (vI x2), some (vI x3), some (vI x4), u5] [] (s, g_rho) (some (vI o.1), (o.2, g_rho)) := by
  refine iRR.of 3 ?_
  exact iRT.go 2 (f273_63_at132_ok L N d h_at48 _ _ _ _ _ h) (fun _ _ => rfl)
set_option maxHeartbeats 100000 in
theorem f273_63_at48_ok (L N d : Nat) : ∀ (n : Nat) (x2 : Int) (x3 : Int) (x4 : Int) {u1 u5 : Option iV} (s : gI) (o : Int × gI), f273_at48 N n x2 x3 x4 s = some o → iRR false L (d + 6) kj273 k273_48 [some (vR 63), u1, some (vI x2), some (vI x3), some (vI x4), u5] [] (s, g_rho) (some (vI o.1), (o.2, g_rho)) := by
  intro n
  induction n with
  | zero => intro _ _ _ _ _ _ _ h; cases h
  | succ n ih =>
    intro x2 x3 x4 u1 u5 s o h
    refine iRR.of 401 ?_
    obtain ⟨i2, s1, h1, h⟩ := i_o2_inv h
    refine iRT.call (f221_63_ok L N (d + 5)  _ h1) ?_
    refine iRT.ite h (fun h => ?_) (fun h => ?_)
    · cases h
      exact iRT.ret
    · refine iRT.ite h (fun h => ?_) (fun h => ?_)
      · refine iRT.ov h fun h => ?_
        refine iRT.ck h fun h => ?_
        refine iRT.ite h (fun h => ?_) (fun h => ?_)
        · refine iRT.ck h fun h => ?_
          refine iRT.ite h (fun h => ?_) (fun h => ?_)
          · exact iRT.go 0 (f273_63_at93_ok L N d (fun a0 a1 a2 b0 b1 s o h => ih a0 a1 a2 s o h) _ _ _ _ h) (fun _ _ => rfl)
          · exact iRT.go 2 (f273_63_at132_ok L N d (fun a0 a1 a2 b0 b1 s o h => ih a0 a1 a2 s o h) _ _ _ _ _ h) (fun _ _ => rfl)
        · exact iRT.go 0 (f273_63_at93_ok L N d (fun a0 a1 a2 b0 b1 s o h => ih a0 a1 a2 s o h) _ _ _ _ h) (fun _ _ => rfl)
      · refine iRT.ov h fun h => ?_
        refine iRT.ck h fun h => ?_
        refine iRT.ite h (fun h => ?_) (fun h => ?_)
        · exact iRT.go 0 (f273_63_at131_ok L N d (fun a0 a1 a2 b0 b1 s o h => ih a0 a1 a2 s o h) _ _ _ _ h) (fun _ _ => rfl)
        · refine iRT.ck h fun h => ?_
          refine iRT.ite h (fun h => ?_) (fun h => ?_)
          · exact iRT.go 0 (f273_63_at131_ok L N d (fun a0 a1 a2 b0 b1 s o h => ih a0 a1 a2 s o h) _ _ _ _ h) (fun _ _ => rfl)
          · exact iRT.go 2 (f273_63_at132_ok L N d (fun a0 a1 a2 b0 b1 s o h => ih a0 a1 a2 s o h) _ _ _ _ _ h) (fun _ _ => rfl)
set_option maxHeartbeats 100000 in
theorem f273_63_ok (L N d : Nat) (x1 : Int) (x2 : Int) (s : gI) {o : Int × gI} (h : f273 N x1 x2 s = some o) : iEE L (d + 7) 273 [vR 63, vI x1, vI x2] (s, g_rho) (some (vI o.1), (o.2, g_rho)) := by
  refine iEE.of (wr := false) (d := d + 6) (md := gm_273) rfl rfl rfl (iRR.of 401 ?_)
  delta f273 at h
  obtain ⟨i3, s2, h1, h⟩ := i_o2_inv h
  refine iRT.call (f248_63_ok L N (d + 4) _ _ h1) ?_
  refine iRT.ite h (fun h => ?_) (fun h => ?_)
  · cases h
    exact iRT.ret
  · obtain ⟨i5, s4, h1, h⟩ := i_o2_inv h
    refine iRT.call (f189_ok L N (d + 5) _ _ _ _ h1) ?_
    refine iRT.ite h (fun h => ?_) (fun h => ?_)
    · cases h
      exact iRT.ret
    · obtain ⟨s6, h1, h⟩ := i_o1_inv h
      refine iRT.call (f215_63_ok L N (d + 5) _ _ _ _ h1) ?_
      obtain ⟨i8, s7, h1, h⟩ := i_o2_inv h
      refine iRT.call (f247_63_ok L N (d + 0) _ _ _ h1) ?_
      exact iRT.go 5 (f273_63_at48_ok L N d N _ _ _ _ _ h) (fun _ _ => rfl)
-- GutterNineModel.blown
set_option maxHeartbeats 100000 in
theorem f274_63_at74_ok (L N d : Nat) {r_at15 : Int → Int → Int → Int → Int → gI → Option (Int × gI)} (h_at15 : ∀ x1 x2 x3 x4 x5 u6 s o, r_at15 x1 x2 x3 x4 x5 s = some o → iRR false L (d + 6) kj274 k274_15 [some (vR 63), some (vI x1), some (vI x2), some (vI x3), some (vI x4), some (vI x5), u6] [] (s, g_rho) (some (vI o.1), (o.2, g_rho))) (x1 : Int) (x2 : Int) (x4 : Int) (x5 : Int) (x6 : Int) (z0 : Int) {u3 : Option iV} (s : gI) {o : Int × gI} (h : f274_at74 N r_at15 x1 x2 x4 x5 x6 z0 s = some o) : iRR false L (d + 6) kj274 k274_74 [some (vR 63), some (vI x1), some (vI x2), u3, some (vI x4), some (vI x5), some (vI x6)] [vI z0] (s, g_rho) (some (vI o.1), (o.2, g_rho)) := by
  refine iRR.of 10 ?_
  refine iRT.ite h (fun h => ?_) (fun h => ?_)
  · refine iRT.ov h fun h => ?_
    exact iRT.go 1 (h_at15 _ _ _ _ _ _ _ _ h) (fun _ _ => rfl)
  · refine iRT.ov h fun h => ?_
    exact iRT.go 1 (h_at15 _ _ _ _ _ _ _ _ h) (fun _ _ => rfl)
set_option maxHeartbeats 100000 in
theorem f274_63_at15_ok (L N d : Nat) : ∀ (n : Nat) (x1 : Int) (x2 : Int) (x3 : Int) (x4 : Int) (x5 : Int) {u6 : Option iV} (s : gI) (o : Int × gI), f274_at15 N n x1 x2 x3 x4 x5 s = some o → iRR false L (d + 6) kj274 k274_15 [some (vR 63), some (vI x1), some (vI x2), some (vI x3), some (vI x4), some (vI x5), u6] [] (s, g_rho) (some (vI o.1), (o.2, g_rho)) := by
  intro n
  induction n with
  | zero => intro _ _ _ _ _ _ _ _ h; cases h
  | succ n ih =>
    intro x1 x2 x3 x4 x5 u6 s o h
    refine iRR.of 401 ?_
    refine iRT.ite h (fun h => ?_) (fun h => ?_)
    · refine iRT.ite h (fun h => ?_) (fun h => ?_)
      · cases h
        exact iRT.ret
      · refine iRT.ite h (fun h => ?_) (fun h => ?_)
        · cases h
          exact iRT.ret
        · cases h
          exact iRT.ret
    · obtain ⟨s1, h1, h⟩ := i_o1_inv h
      refine iRT.call (f215_63_ok L N (d + 5) _ _ _ _ h1) ?_
      obtain ⟨i3, s2, h1, h⟩ := i_o2_inv h
      refine iRT.call (f251_63_ok L N (d + 0) _ _ _ h1) ?_
      obtain ⟨i5, s4, h1, h⟩ := i_o2_inv h
      refine iRT.call (f267_63_ok L N (d + 4) _ _ h1) ?_
      obtain ⟨i7, s6, h1, h⟩ := i_o2_inv h
      refine iRT.call (f267_63_ok L N (d + 4) _ _ h1) ?_
      refine iRT.ov h fun h => ?_
      refine iRT.ov h fun h => ?_
      refine iRT.ite h (fun h => ?_) (fun h => ?_)
      · exact iRT.go 1 (f274_63_at74_ok L N d (fun a0 a1 a2 a3 a4 b0 s o h => ih a0 a1 a2 a3 a4 s o h) _ _ _ _ _ _ _ h) (fun _ _ => rfl)
      · exact iRT.go 2 (f274_63_at74_ok L N d (fun a0 a1 a2 a3 a4 b0 s o h => ih a0 a1 a2 a3 a4 s o h) _ _ _ _ _ _ _ h) (fun _ _ => rfl)
set_option maxHeartbeats 100000 in
theorem f274_63_ok (L N d : Nat) (x1 : Int) (s : gI) {o : Int × gI} (h : f274 N x1 s = some o) : iEE L (d + 7) 274 [vR 63, vI x1] (s, g_rho) (some (vI o.1), (o.2, g_rho)) := by
  refine iEE.of (wr := false) (d := d + 6) (md := gm_274) rfl rfl rfl (iRR.of 12 ?_)
  exact iRT.go 11 (f274_63_at15_ok L N d N _ _ _ _ _ _ _ h) (fun _ _ => rfl)
-- GutterNineModel.await
set_option maxHeartbeats 100000 in
theorem f275_63_at73_ok (L N d : Nat) {r_at41 : Int → Int → Int → gI → Option (Int × gI)} (h_at41 : ∀ x1 x2 x3 s o, r_at41 x1 x2 x3 s = some o → iRR false L (d + 4) kj275 k275_41 [some (vR 63), some (vI x1), some (vI x2), some (vI x3)] [] (s, g_rho) (some (vI o.1), (o.2, g_rho))) (x1 : Int) (x2 : Int) (z0 : Int) {u3 : Option iV} (s : gI) {o : Int × gI} (h : f275_at73 N r_at41 x1 x2 z0 s = some o) : iRR false L (d + 4) kj275 k275_73 [some (vR 63), some (vI x1), some (vI x2), u3] [vI z0] (s, g_rho) (some (vI o.1), (o.2, g_rho)) := by
  refine iRR.of 7 ?_
  obtain ⟨s1, h1, h⟩ := i_o1_inv h
  refine iRT.call (f255_63_ok L N (d + 0) _ _ h1) ?_
  refine iRT.ov h fun h => ?_
  exact iRT.go 1 (h_at41 _ _ _ _ _ h) (fun _ _ => rfl)
set_option maxHeartbeats 100000 in
theorem f275_63_at41_ok (L N d : Nat) : ∀ (n : Nat) (x1 : Int) (x2 : Int) (x3 : Int) (s : gI) (o : Int × gI), f275_at41 N n x1 x2 x3 s = some o → iRR false L (d + 4) kj275 k275_41 [some (vR 63), some (vI x1), some (vI x2), some (vI x3)] [] (s, g_rho) (some (vI o.1), (o.2, g_rho)) := by
  intro n
  induction n with
  | zero => intro _ _ _ _ _ h; cases h
  | succ n ih =>
    intro x1 x2 x3 s o h
    refine iRR.of 401 ?_
    refine iRT.ite h (fun h => ?_) (fun h => ?_)
    · replace h := (ick_inv h).2.2
      replace h := (ick_inv h).2.2
      refine iRT.ov h fun h => ?_
      refine iRT.dv h fun h => ?_
      refine iRT.ite h (fun h => ?_) (fun h => ?_)
      · exact iRT.go 2 (f275_63_at73_ok L N d (fun a0 a1 a2  s o h => ih a0 a1 a2 s o h) _ _ _ _ h) (fun _ _ => rfl)
      · exact iRT.go 1 (f275_63_at73_ok L N d (fun a0 a1 a2  s o h => ih a0 a1 a2 s o h) _ _ _ _ h) (fun _ _ => rfl)
    · refine iRT.ite h (fun h => ?_) (fun h => ?_)
      · cases h
        exact iRT.ret
      · obtain ⟨i2, s1, h1, h⟩ := i_o2_inv h
        refine iRT.call (f261_63_ok L N (d + 2) _ _ h1) ?_
        obtain ⟨i4, s3, h1, h⟩ := i_o2_inv h
        refine iRT.call (f261_63_ok L N (d + 2) _ _ h1) ?_
        refine iRT.ov h fun h => ?_
        replace h := (ick_inv h).2.2
        replace h := (ick_inv h).2.2
        refine iRT.ov h fun h => ?_
        refine iRT.ov h fun h => ?_
        cases h
        exact iRT.ret
set_option maxHeartbeats 100000 in
theorem f275_63_at15_ok (L N d : Nat) (x1 : Int) (z0 : Int) {u2 : Option iV} {u3 : Option iV} (s : gI) {o : Int × gI} (h : f275_at15 N x1 z0 s = some o) : iRR false L (d + 4) kj275 k275_15 [some (vR 63), some (vI x1), u2, u3] [vI z0, vR 63] (s, g_rho) (some (vI o.1), (o.2, g_rho)) := by
  refine iRR.of 401 ?_
  refine iRT.ite h (fun h => ?_) (fun h => ?_)
  · obtain ⟨s2, h1, h⟩ := i_o1_inv h
    refine iRT.call (f215_63_ok L N (d + 3) _ _ _ _ h1) ?_
    exact iRT.go 4 (f275_63_at41_ok L N d N _ _ _ _ _ h) (fun _ _ => rfl)
  · cases h
    exact iRT.ret
set_option maxHeartbeats 100000 in
theorem f275_63_ok (L N d : Nat) (x1 : Int) (s : gI) {o : Int × gI} (h : f275 N x1 s = some o) : iEE L (d + 5) 275 [vR 63, vI x1] (s, g_rho) (some (vI o.1), (o.2, g_rho)) := by
  refine iEE.of (wr := false) (d := d + 4) (md := gm_275) rfl rfl rfl (iRR.of 9 ?_)
  obtain ⟨i2, s1, h1, h⟩ := i_o2_inv h
  refine iRT.call (f189_ok L N (d + 3) _ _ _ _ h1) ?_
  refine iRT.ite h (fun h => ?_) (fun h => ?_)
  · exact iRT.go 1 (f275_63_at15_ok L N d _ _ _ h) (fun _ _ => rfl)
  · exact iRT.go 2 (f275_63_at15_ok L N d _ _ _ h) (fun _ _ => rfl)
-- GutterNineModel.see
set_option maxHeartbeats 100000 in
theorem f276_63_ok (L N d : Nat) (x1 : Int) (x2 : Int) (s : gI) {o : Int × gI} (h : f276 N x1 x2 s = some o) : iEE L (d + 2) 276 [vR 63, vI x1, vI x2] (s, g_rho) (some (vI o.1), (o.2, g_rho)) := by
  refine iEE.of (wr := false) (d := d + 1) (md := gm_276) rfl rfl rfl (iRR.of 401 ?_)
  refine iRT.ite h (fun h => ?_) (fun h => ?_)
  · replace h := (ib1_inv h).2
    cases h
    exact iRT.ret
  · obtain ⟨i3, s2, h1, h⟩ := i_o2_inv h
    refine iRT.call (f218_63_ok L N (d + 0)  _ h1) ?_
    refine iRT.ite h (fun h => ?_) (fun h => ?_)
    · replace h := (ib1_inv h).2
      cases h
      exact iRT.ret
    · obtain ⟨i5, s4, h1, h⟩ := i_o2_inv h
      refine iRT.call (f189_ok L N (d + 0) _ _ _ _ h1) ?_
      refine iRT.ite h (fun h => ?_) (fun h => ?_)
      · replace h := (ib1_inv h).2
        cases h
        exact iRT.ret
      · refine iRT.ov h fun h => ?_
        refine iRT.ck h fun h => ?_
        replace h := (ib1_inv h).2
        cases h
        exact iRT.ret
-- GutterNineModel.kindIn
set_option maxHeartbeats 100000 in
theorem f277_63_at5_ok (L N d : Nat) : ∀ (n : Nat) (x1 : Int) (x2 : Int) (x3 : Int) (x4 : Int) {u5 : Option iV} (s : gI) (o : Int × gI), f277_at5 N n x1 x2 x3 x4 s = some o → iRR false L (d + 2) kj277 k277_5 [some (vR 63), some (vI x1), some (vI x2), some (vI x3), some (vI x4), u5] [] (s, g_rho) (some (vI o.1), (o.2, g_rho)) := by
  intro n
  induction n with
  | zero => intro _ _ _ _ _ _ _ h; cases h
  | succ n ih =>
    intro x1 x2 x3 x4 u5 s o h
    refine iRR.of 401 ?_
    obtain ⟨i2, s1, h1, h⟩ := i_o2_inv h
    refine iRT.call (f219_63_ok L N (d + 1)  _ h1) ?_
    refine iRT.ite h (fun h => ?_) (fun h => ?_)
    · cases h
      exact iRT.ret
    · refine iRT.ov h fun h => ?_
      refine iRT.ov h fun h => ?_
      obtain ⟨i4, s3, h1, h⟩ := i_o2_inv h
      refine iRT.call (f227_63_ok L N (d + 0) _ _ _ _ h1) ?_
      refine iRT.ite h (fun h => ?_) (fun h => ?_)
      · obtain ⟨i6, s5, h1, h⟩ := i_o2_inv h
        refine iRT.call (f226_63_ok L N (d + 1) _ _ _ h1) ?_
        refine iRT.ov h fun h => ?_
        exact iRT.go 1 (ih _ _ _ _ _ _ h) (fun _ _ => rfl)
      · refine iRT.ov h fun h => ?_
        exact iRT.go 1 (ih _ _ _ _ _ _ h) (fun _ _ => rfl)
set_option maxHeartbeats 100000 in
theorem f277_63_ok (L N d : Nat) (x1 : Int) (x2 : Int) (s : gI) {o : Int × gI} (h : f277 N x1 x2 s = some o) : iEE L (d + 3) 277 [vR 63, vI x1, vI x2] (s, g_rho) (some (vI o.1), (o.2, g_rho)) := by
  refine iEE.of (wr := false) (d := d + 2) (md := gm_277) rfl rfl rfl (iRR.of 5 ?_)
  exact iRT.go 4 (f277_63_at5_ok L N d N _ _ _ _ _ _ h) (fun _ _ => rfl)
-- GutterNineModel.isSeen
set_option maxHeartbeats 100000 in
theorem f278_63_at52_ok (L N d : Nat) {r_at4 : Int → Int → Int → gI → Option (Int × gI)} (h_at4 : ∀ x1 x2 x3 s o, r_at4 x1 x2 x3 s = some o → iRR false L (d + 3) kj278 k278_4 [some (vR 63), some (vI x1), some (vI x2), some (vI x3)] [] (s, g_rho) (some (vI o.1), (o.2, g_rho))) (x1 : Int) (x3 : Int) {u2 : Option iV} (s : gI) {o : Int × gI} (h : f278_at52 N r_at4 x1 x3 s = some o) : iRR false L (d + 3) kj278 k278_52 [some (vR 63), some (vI x1), u2, some (vI x3)] [] (s, g_rho) (some (vI o.1), (o.2, g_rho)) := by
  refine iRR.of 5 ?_
  refine iRT.ov h fun h => ?_
  exact iRT.go 1 (h_at4 _ _ _ _ _ h) (fun _ _ => rfl)
set_option maxHeartbeats 100000 in
theorem f278_63_at48_ok (L N d : Nat) {r_at4 : Int → Int → Int → gI → Option (Int × gI)} (h_at4 : ∀ x1 x2 x3 s o, r_at4 x1 x2 x3 s = some o → iRR false L (d + 3) kj278 k278_4 [some (vR 63), some (vI x1), some (vI x2), some (vI x3)] [] (s, g_rho) (some (vI o.1), (o.2, g_rho))) (x1 : Int) (x3 : Int) {u2 : Option iV} (s : gI) {o : Int × gI} (h : f278_at48 N r_at4 x1 x3 s = some o) : iRR false L (d + 3) kj278 k278_48 [some (vR 63), some (vI x1), u2, some (vI x3)] [] (s, g_rho) (some (vI o.1), (o.2, g_rho)) := by
  refine iRR.of 6 ?_
  refine iRT.ov h fun h => ?_
  exact iRT.go 1 (h_at4 _ _ _ _ _ h) (fun _ _ => rfl)
set_option maxHeartbeats 100000 in
theorem f278_63_at4_ok (L N d : Nat) : ∀ (n : Nat) (x1 : Int) (x2 : Int) (x3 : Int) (s : gI) (o : Int × gI), f278_at4 N n x1 x2 x3 s = some o → iRR false L (d + 3) kj278 k278_4 [some (vR 63), some (vI x1), some (vI x2), some (vI x3)] [] (s, g_rho) (some (vI o.1), (o.2, g_rho)) := by
  intro n
  induction n with
  | zero => intro _ _ _ _ _ h; cases h
  | succ n ih =>
    intro x1 x2 x3 s o h
    refine iRR.of 401 ?_
    obtain ⟨i2, s1, h1, h⟩ := i_o2_inv h
    refine iRT.call (f218_63_ok L N (d + 2)  _ h1) ?_
    refine iRT.ite h (fun h => ?_) (fun h => ?_)
    · refine iRT.b1 h fun h => ?_
      cases h
      exact iRT.ret
    · refine iRT.ite h (fun h => ?_) (fun h => ?_)
      · exact iRT.go 0 (f278_63_at52_ok L N d (fun a0 a1 a2  s o h => ih a0 a1 a2 s o h) _ _ _ h) (fun _ _ => rfl)
      · refine iRT.ov h fun h => ?_
        refine iRT.ck h fun h => ?_
        refine iRT.ite h (fun h => ?_) (fun h => ?_)
        · exact iRT.go 0 (f278_63_at48_ok L N d (fun a0 a1 a2  s o h => ih a0 a1 a2 s o h) _ _ _ h) (fun _ _ => rfl)
        · refine iRT.ov h fun h => ?_
          refine iRT.ck h fun h => ?_
          obtain ⟨i4, s3, h1, h⟩ := i_o2_inv h
          refine iRT.call (f277_63_ok L N (d + 0) _ _ _ h1) ?_
          refine iRT.ite h (fun h => ?_) (fun h => ?_)
          · exact iRT.go 0 (f278_63_at48_ok L N d (fun a0 a1 a2  s o h => ih a0 a1 a2 s o h) _ _ _ h) (fun _ _ => rfl)
          · exact iRT.go 0 (f278_63_at52_ok L N d (fun a0 a1 a2  s o h => ih a0 a1 a2 s o h) _ _ _ h) (fun _ _ => rfl)
set_option maxHeartbeats 100000 in
theorem f278_63_ok (L N d : Nat) (x1 : Int) (s : gI) {o : Int × gI} (h : f278 N x1 s = some o) : iEE L (d + 4) 278 [vR 63, vI x1] (s, g_rho) (some (vI o.1), (o.2, g_rho)) := by
  refine iEE.of (wr := false) (d := d + 3) (md := gm_278) rfl rfl rfl (iRR.of 5 ?_)
  exact iRT.go 4 (f278_63_at4_ok L N d N _ _ _ _ _ h) (fun _ _ => rfl)
-- GutterNineModel.lies
set_option maxHeartbeats 100000 in
theorem f279_63_at244_ok (L N d : Nat) {r_at168 : Int → Int → Int → Int → Int → Int → Int → gI → Option (Int × gI)} (h_at168 : ∀ x5 x6 y7 y9 x11 x12 x13 u0 u1 u2 u3 u4 u14 s o, r_at168 x5 x6 y7 y9 x11 x12 x13 s = some o → iRR false L (d + 8) kj279 k279_168 [u0, u1, u2, u3, u4, some (vI x5), some (vI x6), some (vJ y7), none, some (vJ y9), none, some (vI x11), some (vI x12), some (vI x13), u14] [] (s, g_rho) (some (vI o.1), (o.2, g_rho))) (x5 : Int) (x6 : Int) (y7 : Int) (y9 : Int) (x11 : Int) (x12 : Int) (x13 : Int) {u0 : Option iV} {u1 : Option iV} {u2 : Option iV} {u3 : Option iV} {u4 : Option iV} {u14 : Option iV} (s : gI) {o : Int × gI} (h : f279_at244 N r_at168 x5 x6 y7 y9 x11 x12 x13 s = some o) : iRR false L (d + 8) kj279 k279_244 [u0, u1, u2, u3, u4, some (vI x5), some (vI x6), some (vJ y7), none, some (vJ y9), none, some (vI x11), some (vI x12), some (vI x13), u14] [] (s, g_rho) (some (vI o.1), (o.2, g_rho)) := by
  refine iRR.of 5 ?_
  refine iRT.ov h fun h => ?_
  exact iRT.go 1 (h_at168 _ _ _ _ _ _ _ _ _ _ _ _ _ _ _ h) (fun _ _ => rfl)
set_option maxHeartbeats 100000 in
theorem f279_63_at226_ok (L N d : Nat) {r_at168 : Int → Int → Int → Int → Int → Int → Int → gI → Option (Int × gI)} (h_at168 : ∀ x5 x6 y7 y9 x11 x12 x13 u0 u1 u2 u3 u4 u14 s o, r_at168 x5 x6 y7 y9 x11 x12 x13 s = some o → iRR false L (d + 8) kj279 k279_168 [u0, u1, u2, u3, u4, some (vI x5), some (vI x6), some (vJ y7), none, some (vJ y9), none, some (vI x11), some (vI x12), some (vI x13), u14] [] (s, g_rho) (some (vI o.1), (o.2, g_rho))) (x5 : Int) (x6 : Int) (y7 : Int) (y9 : Int) (x12 : Int) (x13 : Int) (x14 : Int) (z0 : Int) (z1 : Int) {u0 : Option iV} {u1 : Option iV} {u2 : Option iV} {u3 : Option iV} {u4 : Option iV} {u11 : Option iV} (s : gI) {o : Int × gI} (h : f279_at226 N r_at168 x5 x6 y7 y9 x12 x13 x14 z0 z1 s = some o) : iRR false L (d + 8) kj279 k279_226 [u0, u1, u2, u3, u4, some (vI x5), some (vI x6), some (vJ y7), none, some (vJ y9), none, u11, some (vI x12), some (vI x13), some (vI x14)] [vI z0, vI z1] (s, g_rho) (some (vI o.1), (o.2, g_rho)) := by
  refine iRR.of 12 ?_
  refine iRT.ov h fun h => ?_
  refine iRT.ite h (fun h => ?_) (fun h => ?_)
  · exact iRT.go 0 (f279_63_at244_ok L N d h_at168 _ _ _ _ _ _ _ _ h) (fun _ _ => rfl)
  · refine iRT.ite h (fun h => ?_) (fun h => ?_)
    · exact iRT.go 0 (f279_63_at244_ok L N d h_at168 _ _ _ _ _ _ _ _ h) (fun _ _ => rfl)
    · refine iRT.ov h fun h => ?_
      exact iRT.go 1 (h_at168 _ _ _ _ _ _ _ _ _ _ _ _ _ _ _ h) (fun _ _ => rfl)
set_option maxHeartbeats 100000 in
theorem f279_63_at212_ok (L N d : Nat) {r_at168 : Int → Int → Int → Int → Int → Int → Int → gI → Option (Int × gI)} (h_at168 : ∀ x5 x6 y7 y9 x11 x12 x13 u0 u1 u2 u3 u4 u14 s o, r_at168 x5 x6 y7 y9 x11 x12 x13 s = some o → iRR false L (d + 8) kj279 k279_168 [u0, u1, u2, u3, u4, some (vI x5), some (vI x6), some (vJ y7), none, some (vJ y9), none, some (vI x11), some (vI x12), some (vI x13), u14] [] (s, g_rho) (some (vI o.1), (o.2, g_rho))) (x5 : Int) (x6 : Int) (y7 : Int) (y9 : Int) (x11 : Int) (x12 : Int) (x13 : Int) (z0 : Int) {u0 : Option iV} {u1 : Option iV} {u2 : Option iV} {u3 : Option iV} {u4 : Option iV} {u14 : Option iV} (s : gI) {o : Int × gI} (h : f279_at212 N r_at168 x5 x6 y7 y9 x11 x12 x13 z0 s = some o) : iRR false L (d + 8) kj279 k279_212 [u0, u1, u2, u3, u4, some (vI x5), some (vI x6), some (vJ y7), none, some (vJ y9), none, some (vI x11), some (vI x12), some (vI x13), u14] [vI z0] (s, g_rho) (some (vI o.1), (o.2, g_rho)) := by
  refine iRR.of 7 ?_
  refine iRT.ite h (fun h => ?_) (fun h => ?_)
  · exact iRT.go 1 (f279_63_at226_ok L N d h_at168 _ _ _ _ _ _ _ _ _ _ h) (fun _ _ => rfl)
  · exact iRT.go 2 (f279_63_at226_ok L N d h_at168 _ _ _ _ _ _ _ _ _ _ h) (fun _ _ => rfl)
set_option maxHeartbeats 100000 in
theorem f279_63_at202_ok (L N d : Nat) {r_at168 : Int → Int → Int → Int → Int → Int → Int → gI → Option (Int × gI)} (h_at168 : ∀ x5 x6 y7 y9 x11 x12 x13 u0 u1 u2 u3 u4 u14 s o, r_at168 x5 x6 y7 y9 x11 x12 x13 s = some o → iRR false L (d + 8) kj279 k279_168 [u0, u1, u2, u3, u4, some (vI x5), some (vI x6), some (vJ y7), none, some (vJ y9), none, some (vI x11), some (vI x12), some (vI x13), u14] [] (s, g_rho) (some (vI o.1), (o.2, g_rho))) (x5 : Int) (x6 : Int) (y7 : Int) (y9 : Int) (x11 : Int) (x12 : Int) (x13 : Int) (w0 : Int) {u0 : Option iV} {u1 : Option iV} {u2 : Option iV} {u3 : Option iV} {u4 : Option iV} {u14 : Option iV} (s : gI) {o : Int × gI} (h : f279_at202 N r_at168 x5 x6 y7 y9 x11 x12 x13 w0 s = some o) : iRR false L (d + 8) kj279 k279_202 [u0, u1, u2, u3, u4, some (vI x5), some (vI x6), some (vJ y7), none, some (vJ y9), none, some (vI x11), some (vI x12), some (vI x13), u14] [vJ w0] (s, g_rho) (some (vI o.1), (o.2, g_rho)) := by
  refine iRR.of 6 ?_
  refine iRT.ite h (fun h => ?_) (fun h => ?_)
  · exact iRT.go 2 (f279_63_at212_ok L N d h_at168 _ _ _ _ _ _ _ _ _ h) (fun _ _ => rfl)
  · exact iRT.go 1 (f279_63_at212_ok L N d h_at168 _ _ _ _ _ _ _ _ _ h) (fun _ _ => rfl)
set_option maxHeartbeats 100000 in
theorem f279_63_at168_ok (L N d : Nat) : ∀ (n : Nat) (x5 : Int) (x6 : Int) (y7 : Int) (y9 : Int) (x11 : Int) (x12 : Int) (x13 : Int) {u0 u1 u2 u3 u4 u14 : Option iV} (s : gI) (o : Int × gI), f279_at168 N n x5 x6 y7 y9 x11 x12 x13 s = some o → iRR false L (d + 8) kj279 k279_168 [u0, u1, u2, u3, u4, some (vI x5), some (vI x6), some (vJ y7), none, some (vJ y9), none, some (vI x11), some (vI x12), some (vI x13), u14] [] (s, g_rho) (some (vI o.1), (o.2, g_rho)) := by
  intro n
  induction n with
  | zero => intro _ _ _ _ _ _ _ _ _ _ _ _ _ _ _ h; cases h
  | succ n ih =>
    intro x5 x6 y7 y9 x11 x12 x13 u0 u1 u2 u3 u4 u14 s o h
    refine iRR.of 401 ?_
    refine iRT.ite h (fun h => ?_) (fun h => ?_)
    · refine iRT.ite h (fun h => ?_) (fun h => ?_)
      · cases h
        exact iRT.ret
      · refine iRT.ite h (fun h => ?_) (fun h => ?_)
        · cases h
          exact iRT.ret
        · refine iRT.ite h (fun h => ?_) (fun h => ?_)
          · cases h
            exact iRT.ret
          · cases h
            exact iRT.ret
    · refine iRT.ite h (fun h => ?_) (fun h => ?_)
      · refine iRT.ov h fun h => ?_
        exact iRT.go 3 (f279_63_at202_ok L N d (fun a0 a1 a2 a3 a4 a5 a6 b0 b1 b2 b3 b4 b5 s o h => ih a0 a1 a2 a3 a4 a5 a6 s o h) _ _ _ _ _ _ _ _ _ h) (fun _ _ => rfl)
      · exact iRT.go 6 (f279_63_at202_ok L N d (fun a0 a1 a2 a3 a4 a5 a6 b0 b1 b2 b3 b4 b5 s o h => ih a0 a1 a2 a3 a4 a5 a6 s o h) _ _ _ _ _ _ _ _ _ h) (fun _ _ => rfl)
set_option maxHeartbeats 100000 in
theorem f279_63_at150_ok (L N d : Nat) {r_at41 : Int → Int → Int → Int → Int → Int → Int → Int → Int → gI → Option (Int × gI)} (h_at41 : ∀ x1 x2 x3 x4 x5 x6 y7 y9 x11 u12 u13 u14 s o, r_at41 x1 x2 x3 x4 x5 x6 y7 y9 x11 s = some o → iRR false L (d + 8) kj279 k279_41 [some (vR 63), some (vI x1), some (vI x2), some (vI x3), some (vI x4), some (vI x5), some (vI x6), some (vJ y7), none, some (vJ y9), none, some (vI x11), u12, u13, u14] [] (s, g_rho) (some (vI o.1), (o.2, g_rho))) (x1 : Int) (x2 : Int) (x3 : Int) (x4 : Int) (x5 : Int) (x6 : Int) (y7 : Int) (x11 : Int) (w0 : Int) (w1 : Int) {u9 : Option iV} {u10 : Option iV} {u12 : Option iV} {u13 : Option iV} {u14 : Option iV} (s : gI) {o : Int × gI} (h : f279_at150 N r_at41 x1 x2 x3 x4 x5 x6 y7 x11 w0 w1 s = some o) : iRR false L (d + 8) kj279 k279_150 [some (vR 63), some (vI x1), some (vI x2), some (vI x3), some (vI x4), some (vI x5), some (vI x6), some (vJ y7), none, u9, u10, some (vI x11), u12, u13, u14] [vJ w0, vJ w1] (s, g_rho) (some (vI o.1), (o.2, g_rho)) := by
  refine iRR.of 5 ?_
  refine iRT.ov h fun h => ?_
  exact iRT.go 1 (h_at41 _ _ _ _ _ _ _ _ _ _ _ _ _ _ h) (fun _ _ => rfl)
set_option maxHeartbeats 100000 in
theorem f279_63_at127_ok (L N d : Nat) {r_at41 : Int → Int → Int → Int → Int → Int → Int → Int → Int → gI → Option (Int × gI)} (h_at41 : ∀ x1 x2 x3 x4 x5 x6 y7 y9 x11 u12 u13 u14 s o, r_at41 x1 x2 x3 x4 x5 x6 y7 y9 x11 s = some o → iRR false L (d + 8) kj279 k279_41 [some (vR 63), some (vI x1), some (vI x2), some (vI x3), some (vI x4), some (vI x5), some (vI x6), some (vJ y7), none, some (vJ y9), none, some (vI x11), u12, u13, u14] [] (s, g_rho) (some (vI o.1), (o.2, g_rho))) (x1 : Int) (x2 : Int) (x3 : Int) (x4 : Int) (x5 : Int) (x6 : Int) (y9 : Int) (x11 : Int) (x12 : Int) (w0 : Int) (w1 : Int) {u7 : Option iV} {u8 : Option iV} {u13 : Option iV} {u14 : Option iV} (s : gI) {o : Int × gI} (h : f279_at127 N r_at41 x1 x2 x3 x4 x5 x6 y9 x11 x12 w0 w1 s = some o) : iRR false L (d + 8) kj279 k279_127 [some (vR 63), some (vI x1), some (vI x2), some (vI x3), some (vI x4), some (vI x5), some (vI x6), u7, u8, some (vJ y9), none, some (vI x11), some (vI x12), u13, u14] [vJ w0, vJ w1] (s, g_rho) (some (vI o.1), (o.2, g_rho)) := by
  refine iRR.of 12 ?_
  refine iRT.ite h (fun h => ?_) (fun h => ?_)
  · refine iRT.ov h fun h => ?_
    exact iRT.go 1 (f279_63_at150_ok L N d h_at41 _ _ _ _ _ _ _ _ _ _ _ h) (fun _ _ => rfl)
  · exact iRT.go 2 (f279_63_at150_ok L N d h_at41 _ _ _ _ _ _ _ _ _ _ _ h) (fun _ _ => rfl)
set_option maxHeartbeats 100000 in
theorem f279_63_at41_ok (L N d : Nat) : ∀ (n : Nat) (x1 : Int) (x2 : Int) (x3 : Int) (x4 : Int) (x5 : Int) (x6 : Int) (y7 : Int) (y9 : Int) (x11 : Int) {u12 u13 u14 : Option iV} (s : gI) (o : Int × gI), f279_at41 N n x1 x2 x3 x4 x5 x6 y7 y9 x11 s = some o → iRR false L (d + 8) kj279 k279_41 [some (vR 63), some (vI x1), some (vI x2), some (vI x3), some (vI x4), some (vI x5), some (vI x6), some (vJ y7), none, some (vJ y9), none, some (vI x11), u12, u13, u14] [] (s, g_rho) (some (vI o.1), (o.2, g_rho)) := by
  intro n
  induction n with
  | zero => intro _ _ _ _ _ _ _ _ _ _ _ _ _ _ h; cases h
  | succ n ih =>
    intro x1 x2 x3 x4 x5 x6 y7 y9 x11 u12 u13 u14 s o h
    refine iRR.of 45 ?_
    refine iRT.ite h (fun h => ?_) (fun h => ?_)
    · exact iRT.go 6 (f279_63_at168_ok L N d N _ _ _ _ _ _ _ _ _ h) (fun _ _ => rfl)
    · obtain ⟨s1, h1, h⟩ := i_o1_inv h
      refine iRT.call (f262_63_ok L N (d + 0) _ _ _ _ _ _ _ _ h1) ?_
      obtain ⟨i3, s2, h1, h⟩ := i_o2_inv h
      refine iRT.call (f260_63_ok L N (d + 7) _ _ _ h1) ?_
      refine iRT.ite h (fun h => ?_) (fun h => ?_)
      · refine iRT.ov h fun h => ?_
        exact iRT.go 1 (ih _ _ _ _ _ _ _ _ _ _ _ h) (fun _ _ => rfl)
      · obtain ⟨i6, s5, h1, h⟩ := i_o2_inv h
        refine iRT.call (f278_63_ok L N (d + 4) _ _ h1) ?_
        refine iRT.ite h (fun h => ?_) (fun h => ?_)
        · refine iRT.ov h fun h => ?_
          exact iRT.go 1 (ih _ _ _ _ _ _ _ _ _ _ _ h) (fun _ _ => rfl)
        · refine iRT.ov h fun h => ?_
          refine iRT.ck h fun h => ?_
          obtain ⟨i9, s8, h1, h⟩ := i_o2_inv h
          refine iRT.call (f237_ok L N (d + 7) _ _ h1) ?_
          obtain ⟨i11, s10, h1, h⟩ := i_o2_inv h
          refine iRT.call (f260_63_ok L N (d + 7) _ _ _ h1) ?_
          refine iRT.ov h fun h => ?_
          refine iRT.ite h (fun h => ?_) (fun h => ?_)
          · exact iRT.go 1 (f279_63_at127_ok L N d (fun a0 a1 a2 a3 a4 a5 a6 a7 a8 b0 b1 b2 s o h => ih a0 a1 a2 a3 a4 a5 a6 a7 a8 s o h) _ _ _ _ _ _ _ _ _ _ _ _ h) (fun _ _ => rfl)
          · exact iRT.go 4 (f279_63_at127_ok L N d (fun a0 a1 a2 a3 a4 a5 a6 a7 a8 b0 b1 b2 s o h => ih a0 a1 a2 a3 a4 a5 a6 a7 a8 s o h) _ _ _ _ _ _ _ _ _ _ _ _ h) (fun _ _ => rfl)
set_option maxHeartbeats 100000 in
theorem f279_63_ok (L N d : Nat) (x1 : Int) (x2 : Int) (x3 : Int) (x4 : Int) (x5 : Int) (s : gI) {o : Int × gI} (h : f279 N x1 x2 x3 x4 x5 s = some o) : iEE L (d + 9) 279 [vR 63, vI x1, vI x2, vI x3, vI x4, vI x5] (s, g_rho) (some (vI o.1), (o.2, g_rho)) := by
  refine iEE.of (wr := false) (d := d + 8) (md := gm_279) rfl rfl rfl (iRR.of 401 ?_)
  delta f279 at h
  obtain ⟨i3, s2, h1, h⟩ := i_o2_inv h
  refine iRT.call (f241_63_ok L N (d + 5) _ _ _ _ _ h1) ?_
  refine iRT.ite h (fun h => ?_) (fun h => ?_)
  · cases h
    exact iRT.ret
  · obtain ⟨i5, s4, h1, h⟩ := i_o2_inv h
    refine iRT.call (f189_ok L N (d + 7) _ _ _ _ h1) ?_
    refine iRT.ite h (fun h => ?_) (fun h => ?_)
    · cases h
      exact iRT.ret
    · exact iRT.go 8 (f279_63_at41_ok L N d N _ _ _ _ _ _ _ _ _ _ _ h) (fun _ _ => rfl)
-- GutterNineModel.isGone
set_option maxHeartbeats 100000 in
theorem f280_63_at118_ok (L N d : Nat) (x6 : Int) {u0 : Option iV} {u1 : Option iV} {u2 : Option iV} {u3 : Option iV} {u4 : Option iV} {u5 : Option iV} (s : gI) {o : Int × gI} (h : f280_at118 N x6 s = some o) : iRR false L (d + 4) kj280 k280_118 [u0, u1, u2, u3, u4, u5, some (vI x6)] [] (s, g_rho) (some (vI o.1), (o.2, g_rho)) := by
  refine iRR.of 401 ?_
  refine iRT.ite h (fun h => ?_) (fun h => ?_)
  · replace h := (ib1_inv h).2
    cases h
    exact iRT.ret
  · refine iRT.ite h (fun h => ?_) (fun h => ?_)
    · replace h := (ib1_inv h).2
      cases h
      exact iRT.ret
    · replace h := (ib1_inv h).2
      cases h
      exact iRT.ret
set_option maxHeartbeats 100000 in
theorem f280_63_at83_ok (L N d : Nat) (x4 : Int) (x5 : Int) {u1 : Option iV} {u2 : Option iV} {u3 : Option iV} {u6 : Option iV} (s : gI) {o : Int × gI} (h : f280_at83 N x4 x5 s = some o) : iRR false L (d + 4) kj280 k280_83 [some (vR 63), u1, u2, u3, some (vI x4), some (vI x5), u6] [] (s, g_rho) (some (vI o.1), (o.2, g_rho)) := by
  refine iRR.of 20 ?_
  obtain ⟨i2, s1, h1, h⟩ := i_o2_inv h
  refine iRT.call (f228_63_ok L N (d + 1) _ _ _ _ _ h1) ?_
  refine iRT.ite h (fun h => ?_) (fun h => ?_)
  · exact iRT.go 0 (f280_63_at118_ok L N d _ _ h) (fun _ _ => rfl)
  · refine iRT.ite h (fun h => ?_) (fun h => ?_)
    · exact iRT.go 0 (f280_63_at118_ok L N d _ _ h) (fun _ _ => rfl)
    · obtain ⟨i4, s3, h1, h⟩ := i_o2_inv h
      refine iRT.call (f231_63_ok L N (d + 0) _ _ _ _ _ h1) ?_
      exact iRT.go 1 (f280_63_at118_ok L N d _ _ h) (fun _ _ => rfl)
set_option maxHeartbeats 100000 in
theorem f280_63_at37_ok (L N d : Nat) (x3 : Int) (z0 : Int) (z1 : Int) {u1 : Option iV} {u2 : Option iV} {u4 : Option iV} {u5 : Option iV} {u6 : Option iV} (s : gI) {o : Int × gI} (h : f280_at37 N x3 z0 z1 s = some o) : iRR false L (d + 4) kj280 k280_37 [some (vR 63), u1, u2, some (vI x3), u4, u5, u6] [vI z0, vI z1] (s, g_rho) (some (vI o.1), (o.2, g_rho)) := by
  refine iRR.of 401 ?_
  refine iRT.ov h fun h => ?_
  obtain ⟨i3, s2, h1, h⟩ := i_o2_inv h
  refine iRT.call (f219_63_ok L N (d + 3)  _ h1) ?_
  refine iRT.ov h fun h => ?_
  refine iRT.ck h fun h => ?_
  refine iRT.ov h fun h => ?_
  replace h := (ick_inv h).2.2
  refine iRT.ite h (fun h => ?_) (fun h => ?_)
  · exact iRT.go 0 (f280_63_at83_ok L N d _ _ _ h) (fun _ _ => rfl)
  · refine iRT.ov h fun h => ?_
    refine iRT.ck h fun h => ?_
    replace h := (ick_inv h).2.2
    refine iRT.ite h (fun h => ?_) (fun h => ?_)
    · exact iRT.go 0 (f280_63_at83_ok L N d _ _ _ h) (fun _ _ => rfl)
    · replace h := (ib1_inv h).2
      cases h
      exact iRT.ret
set_option maxHeartbeats 100000 in
theorem f280_63_ok (L N d : Nat) (x1 : Int) (x2 : Int) (s : gI) {o : Int × gI} (h : f280 N x1 x2 s = some o) : iEE L (d + 5) 280 [vR 63, vI x1, vI x2] (s, g_rho) (some (vI o.1), (o.2, g_rho)) := by
  refine iEE.of (wr := false) (d := d + 4) (md := gm_280) rfl rfl rfl (iRR.of 21 ?_)
  refine iRT.ov h fun h => ?_
  refine iRT.ov h fun h => ?_
  refine iRT.ck h fun h => ?_
  refine iRT.ite h (fun h => ?_) (fun h => ?_)
  · refine iRT.ov h fun h => ?_
    refine iRT.ck h fun h => ?_
    refine iRT.ov h fun h => ?_
    exact iRT.go 1 (f280_63_at37_ok L N d _ _ _ _ h) (fun _ _ => rfl)
  · refine iRT.ov h fun h => ?_
    refine iRT.ck h fun h => ?_
    exact iRT.go 0 (f280_63_at37_ok L N d _ _ _ _ h) (fun _ _ => rfl)
-- GutterNineModel.lostAt
set_option maxHeartbeats 100000 in
theorem f281_63_at41_ok (L N d : Nat) {r_at4 : Int → Int → Int → gI → Option (Int × gI)} (h_at4 : ∀ x1 x2 x3 s o, r_at4 x1 x2 x3 s = some o → iRR false L (d + 5) kj281 k281_4 [some (vR 63), some (vI x1), some (vI x2), some (vI x3)] [] (s, g_rho) (some (vI o.1), (o.2, g_rho))) (x1 : Int) (x3 : Int) (z0 : Int) (z1 : Int) {u2 : Option iV} (s : gI) {o : Int × gI} (h : f281_at41 N r_at4 x1 x3 z0 z1 s = some o) : iRR false L (d + 5) kj281 k281_41 [some (vR 63), some (vI x1), u2, some (vI x3)] [vI z0, vI z1] (s, g_rho) (some (vI o.1), (o.2, g_rho)) := by
  refine iRR.of 5 ?_
  refine iRT.ov h fun h => ?_
  refine iRT.ov h fun h => ?_
  exact iRT.go 1 (h_at4 _ _ _ _ _ h) (fun _ _ => rfl)
set_option maxHeartbeats 100000 in
theorem f281_63_at4_ok (L N d : Nat) : ∀ (n : Nat) (x1 : Int) (x2 : Int) (x3 : Int) (s : gI) (o : Int × gI), f281_at4 N n x1 x2 x3 s = some o → iRR false L (d + 5) kj281 k281_4 [some (vR 63), some (vI x1), some (vI x2), some (vI x3)] [] (s, g_rho) (some (vI o.1), (o.2, g_rho)) := by
  intro n
  induction n with
  | zero => intro _ _ _ _ _ h; cases h
  | succ n ih =>
    intro x1 x2 x3 s o h
    refine iRR.of 401 ?_
    replace h := (ick_inv h).2.2
    refine iRT.ite h (fun h => ?_) (fun h => ?_)
    · cases h
      exact iRT.ret
    · obtain ⟨i2, s1, h1, h⟩ := i_o2_inv h
      refine iRT.call (f280_63_ok L N (d + 0) _ _ _ h1) ?_
      refine iRT.ite h (fun h => ?_) (fun h => ?_)
      · exact iRT.go 1 (f281_63_at41_ok L N d (fun a0 a1 a2  s o h => ih a0 a1 a2 s o h) _ _ _ _ _ h) (fun _ _ => rfl)
      · refine iRT.ov h fun h => ?_
        refine iRT.ov h fun h => ?_
        refine iRT.ov h fun h => ?_
        refine iRT.ck h fun h => ?_
        exact iRT.go 1 (f281_63_at41_ok L N d (fun a0 a1 a2  s o h => ih a0 a1 a2 s o h) _ _ _ _ _ h) (fun _ _ => rfl)
set_option maxHeartbeats 100000 in
theorem f281_63_ok (L N d : Nat) (x1 : Int) (s : gI) {o : Int × gI} (h : f281 N x1 s = some o) : iEE L (d + 6) 281 [vR 63, vI x1] (s, g_rho) (some (vI o.1), (o.2, g_rho)) := by
  refine iEE.of (wr := false) (d := d + 5) (md := gm_281) rfl rfl rfl (iRR.of 5 ?_)
  exact iRT.go 4 (f281_63_at4_ok L N d N _ _ _ _ _ h) (fun _ _ => rfl)
-- GutterNineModel.pitch
set_option maxHeartbeats 100000 in
theorem f282_63_at25_ok (L N d : Nat) : ∀ (n : Nat) (x1 : Int) (x2 : Int) (x3 : Int) (s : gI) (o : Int × gI), f282_at25 N n x1 x2 x3 s = some o → iRR false L (d + 6) kj282 k282_25 [some (vR 63), some (vI x1), some (vI x2), some (vI x3)] [] (s, g_rho) (some (vI o.1), (o.2, g_rho)) := by
  intro n
  induction n with
  | zero => intro _ _ _ _ _ h; cases h
  | succ n ih =>
    intro x1 x2 x3 s o h
    refine iRR.of 401 ?_
    obtain ⟨i2, s1, h1, h⟩ := i_o2_inv h
    refine iRT.call (f218_63_ok L N (d + 5)  _ h1) ?_
    refine iRT.ite h (fun h => ?_) (fun h => ?_)
    · refine iRT.ite h (fun h => ?_) (fun h => ?_)
      · obtain ⟨i6, s5, h1, h⟩ := i_o2_inv h
        refine iRT.call (f281_63_ok L N (d + 0) _ _ h1) ?_
        cases h
        exact iRT.ret
      · refine iRT.ite h (fun h => ?_) (fun h => ?_)
        · cases h
          exact iRT.ret
        · refine iRT.ov h fun h => ?_
          obtain ⟨i4, s3, h1, h⟩ := i_o2_inv h
          refine iRT.call (f281_63_ok L N (d + 0) _ _ h1) ?_
          cases h
          exact iRT.ret
    · obtain ⟨i8, s7, h1, h⟩ := i_o2_inv h
      refine iRT.call (f281_63_ok L N (d + 0) _ _ h1) ?_
      obtain ⟨i10, s9, h1, h⟩ := i_o2_inv h
      refine iRT.call (f281_63_ok L N (d + 0) _ _ h1) ?_
      refine iRT.ite h (fun h => ?_) (fun h => ?_)
      · refine iRT.ov h fun h => ?_
        exact iRT.go 1 (ih _ _ _ _ _ h) (fun _ _ => rfl)
      · refine iRT.ov h fun h => ?_
        exact iRT.go 1 (ih _ _ _ _ _ h) (fun _ _ => rfl)
set_option maxHeartbeats 100000 in
theorem f282_63_ok (L N d : Nat) (x1 : Int) (s : gI) {o : Int × gI} (h : f282 N x1 s = some o) : iEE L (d + 7) 282 [vR 63, vI x1] (s, g_rho) (some (vI o.1), (o.2, g_rho)) := by
  refine iEE.of (wr := false) (d := d + 6) (md := gm_282) rfl rfl rfl (iRR.of 401 ?_)
  delta f282 at h
  obtain ⟨i3, s2, h1, h⟩ := i_o2_inv h
  refine iRT.call (f218_63_ok L N (d + 5)  _ h1) ?_
  refine iRT.ov h fun h => ?_
  obtain ⟨i5, s4, h1, h⟩ := i_o2_inv h
  refine iRT.call (f189_ok L N (d + 5) _ _ _ _ h1) ?_
  refine iRT.ite h (fun h => ?_) (fun h => ?_)
  · cases h
    exact iRT.ret
  · exact iRT.go 4 (f282_63_at25_ok L N d N _ _ _ _ _ h) (fun _ _ => rfl)
-- GutterNineModel.pays
set_option maxHeartbeats 100000 in
theorem f283_63_at107_ok (L N d : Nat) {r_at29 : Int → Int → Int → Int → gI → Option (Int × gI)} (h_at29 : ∀ x1 x2 x3 x4 u5 s o, r_at29 x1 x2 x3 x4 s = some o → iRR false L (d + 2) kj283 k283_29 [some (vR 63), some (vI x1), some (vI x2), some (vI x3), some (vI x4), u5] [] (s, g_rho) (some (vI o.1), (o.2, g_rho))) (x1 : Int) (x2 : Int) (x4 : Int) (z0 : Int) (z1 : Int) {u3 : Option iV} {u5 : Option iV} (s : gI) {o : Int × gI} (h : f283_at107 N r_at29 x1 x2 x4 z0 z1 s = some o) : iRR false L (d + 2) kj283 k283_107 [some (vR 63), some (vI x1), some (vI x2), u3, some (vI x4), u5] [vI z0, vI z1] (s, g_rho) (some (vI o.1), (o.2, g_rho)) := by
  refine iRR.of 5 ?_
  refine iRT.ov h fun h => ?_
  refine iRT.ov h fun h => ?_
  exact iRT.go 1 (h_at29 _ _ _ _ _ _ _ h) (fun _ _ => rfl)
set_option maxHeartbeats 100000 in
theorem f283_63_at106_ok (L N d : Nat) {r_at29 : Int → Int → Int → Int → gI → Option (Int × gI)} (h_at29 : ∀ x1 x2 x3 x4 u5 s o, r_at29 x1 x2 x3 x4 s = some o → iRR false L (d + 2) kj283 k283_29 [some (vR 63), some (vI x1), some (vI x2), some (vI x3), some (vI x4), u5] [] (s, g_rho) (some (vI o.1), (o.2, g_rho))) (x1 : Int) (x2 : Int) (x4 : Int) (z0 : Int) {u3 : Option iV} {u5 : Option iV} (s : gI) {o : Int × gI} (h : f283_at106 N r_at29 x1 x2 x4 z0 s = some o) : iRR false L (d + 2) kj283 k283_106 [some (vR 63), some (vI x1), some (vI x2), u3, some (vI x4), u5] [vI z0] (s, g_rho) (some (vI o.1), (o.2, g_rho)) := by
  refine iRR.of 2 ?_
  exact iRT.go 1 (f283_63_at107_ok L N d h_at29 _ _ _ _ _ _ h) (fun _ _ => rfl)
set_option maxHeartbeats 100000 in
theorem f283_63_at76_ok (L N d : Nat) {r_at29 : Int → Int → Int → Int → gI → Option (Int × gI)} (h_at29 : ∀ x1 x2 x3 x4 u5 s o, r_at29 x1 x2 x3 x4 s = some o → iRR false L (d + 2) kj283 k283_29 [some (vR 63), some (vI x1), some (vI x2), some (vI x3), some (vI x4), u5] [] (s, g_rho) (some (vI o.1), (o.2, g_rho))) (x1 : Int) (x2 : Int) (x3 : Int) (x4 : Int) (z0 : Int) {u5 : Option iV} (s : gI) {o : Int × gI} (h : f283_at76 N r_at29 x1 x2 x3 x4 z0 s = some o) : iRR false L (d + 2) kj283 k283_76 [some (vR 63), some (vI x1), some (vI x2), some (vI x3), some (vI x4), u5] [vI z0] (s, g_rho) (some (vI o.1), (o.2, g_rho)) := by
  refine iRR.of 16 ?_
  refine iRT.ite h (fun h => ?_) (fun h => ?_)
  · exact iRT.go 0 (f283_63_at106_ok L N d h_at29 _ _ _ _ _ h) (fun _ _ => rfl)
  · refine iRT.ck h fun h => ?_
    refine iRT.ite h (fun h => ?_) (fun h => ?_)
    · exact iRT.go 0 (f283_63_at106_ok L N d h_at29 _ _ _ _ _ h) (fun _ _ => rfl)
    · obtain ⟨i2, s1, h1, h⟩ := i_o2_inv h
      refine iRT.call (f226_63_ok L N (d + 1) _ _ _ h1) ?_
      exact iRT.go 1 (f283_63_at107_ok L N d h_at29 _ _ _ _ _ _ h) (fun _ _ => rfl)
set_option maxHeartbeats 100000 in
theorem f283_63_at71_ok (L N d : Nat) {r_at29 : Int → Int → Int → Int → gI → Option (Int × gI)} (h_at29 : ∀ x1 x2 x3 x4 u5 s o, r_at29 x1 x2 x3 x4 s = some o → iRR false L (d + 2) kj283 k283_29 [some (vR 63), some (vI x1), some (vI x2), some (vI x3), some (vI x4), u5] [] (s, g_rho) (some (vI o.1), (o.2, g_rho))) (x1 : Int) (x2 : Int) (x3 : Int) (x4 : Int) {u5 : Option iV} (s : gI) {o : Int × gI} (h : f283_at71 N r_at29 x1 x2 x3 x4 s = some o) : iRR false L (d + 2) kj283 k283_71 [some (vR 63), some (vI x1), some (vI x2), some (vI x3), some (vI x4), u5] [] (s, g_rho) (some (vI o.1), (o.2, g_rho)) := by
  refine iRR.of 3 ?_
  exact iRT.go 2 (f283_63_at76_ok L N d h_at29 _ _ _ _ _ _ h) (fun _ _ => rfl)
set_option maxHeartbeats 100000 in
theorem f283_63_at67_ok (L N d : Nat) {r_at29 : Int → Int → Int → Int → gI → Option (Int × gI)} (h_at29 : ∀ x1 x2 x3 x4 u5 s o, r_at29 x1 x2 x3 x4 s = some o → iRR false L (d + 2) kj283 k283_29 [some (vR 63), some (vI x1), some (vI x2), some (vI x3), some (vI x4), u5] [] (s, g_rho) (some (vI o.1), (o.2, g_rho))) (x1 : Int) (x2 : Int) (x3 : Int) (x4 : Int) (z0 : Int) {u5 : Option iV} (s : gI) {o : Int × gI} (h : f283_at67 N r_at29 x1 x2 x3 x4 z0 s = some o) : iRR false L (d + 2) kj283 k283_67 [some (vR 63), some (vI x1), some (vI x2), some (vI x3), some (vI x4), u5] [vI z0] (s, g_rho) (some (vI o.1), (o.2, g_rho)) := by
  refine iRR.of 4 ?_
  refine iRT.ite h (fun h => ?_) (fun h => ?_)
  · exact iRT.go 0 (f283_63_at71_ok L N d h_at29 _ _ _ _ _ h) (fun _ _ => rfl)
  · exact iRT.go 1 (f283_63_at76_ok L N d h_at29 _ _ _ _ _ _ h) (fun _ _ => rfl)
set_option maxHeartbeats 100000 in
theorem f283_63_at29_ok (L N d : Nat) : ∀ (n : Nat) (x1 : Int) (x2 : Int) (x3 : Int) (x4 : Int) {u5 : Option iV} (s : gI) (o : Int × gI), f283_at29 N n x1 x2 x3 x4 s = some o → iRR false L (d + 2) kj283 k283_29 [some (vR 63), some (vI x1), some (vI x2), some (vI x3), some (vI x4), u5] [] (s, g_rho) (some (vI o.1), (o.2, g_rho)) := by
  intro n
  induction n with
  | zero => intro _ _ _ _ _ _ _ h; cases h
  | succ n ih =>
    intro x1 x2 x3 x4 u5 s o h
    refine iRR.of 401 ?_
    obtain ⟨i2, s1, h1, h⟩ := i_o2_inv h
    refine iRT.call (f221_63_ok L N (d + 1)  _ h1) ?_
    refine iRT.ite h (fun h => ?_) (fun h => ?_)
    · refine iRT.ite h (fun h => ?_) (fun h => ?_)
      · obtain ⟨i4, s3, h1, h⟩ := i_o2_inv h
        refine iRT.call (f220_63_ok L N (d + 1)  _ h1) ?_
        refine iRT.dv h fun h => ?_
        cases h
        exact iRT.ret
      · cases h
        exact iRT.ret
    · refine iRT.ite h (fun h => ?_) (fun h => ?_)
      · exact iRT.go 0 (f283_63_at71_ok L N d (fun a0 a1 a2 a3 b0 s o h => ih a0 a1 a2 a3 s o h) _ _ _ _ _ h) (fun _ _ => rfl)
      · refine iRT.ite h (fun h => ?_) (fun h => ?_)
        · refine iRT.ov h fun h => ?_
          refine iRT.ck h fun h => ?_
          exact iRT.go 1 (f283_63_at67_ok L N d (fun a0 a1 a2 a3 b0 s o h => ih a0 a1 a2 a3 s o h) _ _ _ _ _ _ h) (fun _ _ => rfl)
        · obtain ⟨i6, s5, h1, h⟩ := i_o2_inv h
          refine iRT.call (f226_63_ok L N (d + 1) _ _ _ h1) ?_
          exact iRT.go 0 (f283_63_at67_ok L N d (fun a0 a1 a2 a3 b0 s o h => ih a0 a1 a2 a3 s o h) _ _ _ _ _ _ h) (fun _ _ => rfl)
set_option maxHeartbeats 100000 in
theorem f283_63_ok (L N d : Nat) (x1 : Int) (x2 : Int) (s : gI) {o : Int × gI} (h : f283 N x1 x2 s = some o) : iEE L (d + 3) 283 [vR 63, vI x1, vI x2] (s, g_rho) (some (vI o.1), (o.2, g_rho)) := by
  refine iEE.of (wr := false) (d := d + 2) (md := gm_283) rfl rfl rfl (iRR.of 401 ?_)
  delta f283 at h
  obtain ⟨i3, s2, h1, h⟩ := i_o2_inv h
  refine iRT.call (f222_63_ok L N (d + 0) _ _ h1) ?_
  refine iRT.ite h (fun h => ?_) (fun h => ?_)
  · cases h
    exact iRT.ret
  · obtain ⟨i5, s4, h1, h⟩ := i_o2_inv h
    refine iRT.call (f189_ok L N (d + 1) _ _ _ _ h1) ?_
    refine iRT.ite h (fun h => ?_) (fun h => ?_)
    · cases h
      exact iRT.ret
    · exact iRT.go 4 (f283_63_at29_ok L N d N _ _ _ _ _ _ h) (fun _ _ => rfl)
-- GutterNineModel.waits
set_option maxHeartbeats 100000 in
theorem f284_63_at94_ok (L N d : Nat) {r_at49 : Int → Int → Int → Int → Int → gI → Option (Int × gI)} (h_at49 : ∀ x1 x2 x3 x4 x5 s o, r_at49 x1 x2 x3 x4 x5 s = some o → iRR false L (d + 1) kj284 k284_49 [some (vR 63), some (vI x1), some (vI x2), some (vI x3), some (vI x4), some (vI x5)] [] (s, g_rho) (some (vI o.1), (o.2, g_rho))) (x1 : Int) (x2 : Int) (x3 : Int) (x5 : Int) (z0 : Int) (z1 : Int) {u4 : Option iV} (s : gI) {o : Int × gI} (h : f284_at94 N r_at49 x1 x2 x3 x5 z0 z1 s = some o) : iRR false L (d + 1) kj284 k284_94 [some (vR 63), some (vI x1), some (vI x2), some (vI x3), u4, some (vI x5)] [vI z0, vI z1] (s, g_rho) (some (vI o.1), (o.2, g_rho)) := by
  refine iRR.of 5 ?_
  refine iRT.ov h fun h => ?_
  refine iRT.ov h fun h => ?_
  exact iRT.go 1 (h_at49 _ _ _ _ _ _ _ h) (fun _ _ => rfl)
set_option maxHeartbeats 100000 in
theorem f284_63_at93_ok (L N d : Nat) {r_at49 : Int → Int → Int → Int → Int → gI → Option (Int × gI)} (h_at49 : ∀ x1 x2 x3 x4 x5 s o, r_at49 x1 x2 x3 x4 x5 s = some o → iRR false L (d + 1) kj284 k284_49 [some (vR 63), some (vI x1), some (vI x2), some (vI x3), some (vI x4), some (vI x5)] [] (s, g_rho) (some (vI o.1), (o.2, g_rho))) (x1 : Int) (x2 : Int) (x3 : Int) (x5 : Int) (z0 : Int) {u4 : Option iV} (s : gI) {o : Int × gI} (h : f284_at93 N r_at49 x1 x2 x3 x5 z0 s = some o) : iRR false L (d + 1) kj284 k284_93 [some (vR 63), some (vI x1), some (vI x2), some (vI x3), u4, some (vI x5)] [vI z0] (s, g_rho) (some (vI o.1), (o.2, g_rho)) := by
  refine iRR.of 2 ?_
  exact iRT.go 1 (f284_63_at94_ok L N d h_at49 _ _ _ _ _ _ _ h) (fun _ _ => rfl)
set_option maxHeartbeats 100000 in
theorem f284_63_at49_ok (L N d : Nat) : ∀ (n : Nat) (x1 : Int) (x2 : Int) (x3 : Int) (x4 : Int) (x5 : Int) (s : gI) (o : Int × gI), f284_at49 N n x1 x2 x3 x4 x5 s = some o → iRR false L (d + 1) kj284 k284_49 [some (vR 63), some (vI x1), some (vI x2), some (vI x3), some (vI x4), some (vI x5)] [] (s, g_rho) (some (vI o.1), (o.2, g_rho)) := by
  intro n
  induction n with
  | zero => intro _ _ _ _ _ _ _ h; cases h
  | succ n ih =>
    intro x1 x2 x3 x4 x5 s o h
    refine iRR.of 401 ?_
    obtain ⟨i2, s1, h1, h⟩ := i_o2_inv h
    refine iRT.call (f221_63_ok L N (d + 0)  _ h1) ?_
    refine iRT.ite h (fun h => ?_) (fun h => ?_)
    · refine iRT.ck h fun h => ?_
      refine iRT.ov h fun h => ?_
      refine iRT.ite h (fun h => ?_) (fun h => ?_)
      · refine iRT.ck h fun h => ?_
        refine iRT.ite h (fun h => ?_) (fun h => ?_)
        · refine iRT.ov h fun h => ?_
          cases h
          exact iRT.ret
        · refine iRT.ov h fun h => ?_
          cases h
          exact iRT.ret
      · refine iRT.ov h fun h => ?_
        cases h
        exact iRT.ret
    · refine iRT.ck h fun h => ?_
      refine iRT.ite h (fun h => ?_) (fun h => ?_)
      · obtain ⟨i4, s3, h1, h⟩ := i_o2_inv h
        refine iRT.call (f226_63_ok L N (d + 0) _ _ _ h1) ?_
        refine iRT.ite h (fun h => ?_) (fun h => ?_)
        · obtain ⟨i6, s5, h1, h⟩ := i_o2_inv h
          refine iRT.call (f226_63_ok L N (d + 0) _ _ _ h1) ?_
          exact iRT.go 1 (f284_63_at94_ok L N d (fun a0 a1 a2 a3 a4  s o h => ih a0 a1 a2 a3 a4 s o h) _ _ _ _ _ _ _ h) (fun _ _ => rfl)
        · exact iRT.go 0 (f284_63_at93_ok L N d (fun a0 a1 a2 a3 a4  s o h => ih a0 a1 a2 a3 a4 s o h) _ _ _ _ _ _ h) (fun _ _ => rfl)
      · exact iRT.go 0 (f284_63_at93_ok L N d (fun a0 a1 a2 a3 a4  s o h => ih a0 a1 a2 a3 a4 s o h) _ _ _ _ _ _ h) (fun _ _ => rfl)
set_option maxHeartbeats 100000 in
theorem f284_63_at5_ok (L N d : Nat) : ∀ (n : Nat) (x1 : Int) (x2 : Int) (x3 : Int) (x4 : Int) {u5 : Option iV} (s : gI) (o : Int × gI), f284_at5 N n x1 x2 x3 x4 s = some o → iRR false L (d + 1) kj284 k284_5 [some (vR 63), some (vI x1), some (vI x2), some (vI x3), some (vI x4), u5] [] (s, g_rho) (some (vI o.1), (o.2, g_rho)) := by
  intro n
  induction n with
  | zero => intro _ _ _ _ _ _ _ h; cases h
  | succ n ih =>
    intro x1 x2 x3 x4 u5 s o h
    refine iRR.of 19 ?_
    obtain ⟨i2, s1, h1, h⟩ := i_o2_inv h
    refine iRT.call (f220_63_ok L N (d + 0)  _ h1) ?_
    refine iRT.ite h (fun h => ?_) (fun h => ?_)
    · exact iRT.go 4 (f284_63_at49_ok L N d N _ _ _ _ _ _ _ h) (fun _ _ => rfl)
    · refine iRT.ck h fun h => ?_
      refine iRT.ck h fun h => ?_
      refine iRT.ite h (fun h => ?_) (fun h => ?_)
      · refine iRT.ov h fun h => ?_
        exact iRT.go 1 (ih _ _ _ _ _ _ h) (fun _ _ => rfl)
      · refine iRT.ov h fun h => ?_
        exact iRT.go 1 (ih _ _ _ _ _ _ h) (fun _ _ => rfl)
set_option maxHeartbeats 100000 in
theorem f284_63_ok (L N d : Nat) (x1 : Int) (x2 : Int) (s : gI) {o : Int × gI} (h : f284 N x1 x2 s = some o) : iEE L (d + 2) 284 [vR 63, vI x1, vI x2] (s, g_rho) (some (vI o.1), (o.2, g_rho)) := by
  refine iEE.of (wr := false) (d := d + 1) (md := gm_284) rfl rfl rfl (iRR.of 5 ?_)
  exact iRT.go 4 (f284_63_at5_ok L N d N _ _ _ _ _ _ h) (fun _ _ => rfl)
-- GutterNineModel.isRest
set_option maxHeartbeats 100000 in
theorem f285_63_at115_ok (L N d : Nat) {r_at78 : Int → Int → Int → Int → Int → Int → gI → Option (Int × gI)} (h_at78 : ∀ x2 x4 x5 x6 x7 x8 u1 u3 s o, r_at78 x2 x4 x5 x6 x7 x8 s = some o → iRR false L (d + 2) kj285 k285_78 [some (vR 63), u1, some (vI x2), u3, some (vI x4), some (vI x5), some (vI x6), some (vI x7), some (vI x8)] [] (s, g_rho) (some (vI o.1), (o.2, g_rho))) (x2 : Int) (x5 : Int) (x6 : Int) (x7 : Int) (x8 : Int) {u1 : Option iV} {u3 : Option iV} {u4 : Option iV} (s : gI) {o : Int × gI} (h : f285_at115 N r_at78 x2 x5 x6 x7 x8 s = some o) : iRR false L (d + 2) kj285 k285_115 [some (vR 63), u1, some (vI x2), u3, u4, some (vI x5), some (vI x6), some (vI x7), some (vI x8)] [] (s, g_rho) (some (vI o.1), (o.2, g_rho)) := by
  refine iRR.of 5 ?_
  refine iRT.ov h fun h => ?_
  exact iRT.go 1 (h_at78 _ _ _ _ _ _ _ _ _ _ h) (fun _ _ => rfl)
set_option maxHeartbeats 100000 in
theorem f285_63_at78_ok (L N d : Nat) {r_at43 : Int → Int → Int → gI → Option (Int × gI)} (h_at43 : ∀ x2 x4 x5 u1 u3 u6 u7 u8 s o, r_at43 x2 x4 x5 s = some o → iRR false L (d + 2) kj285 k285_43 [some (vR 63), u1, some (vI x2), u3, some (vI x4), some (vI x5), u6, u7, u8] [] (s, g_rho) (some (vI o.1), (o.2, g_rho))) : ∀ (n : Nat) (x2 : Int) (x4 : Int) (x5 : Int) (x6 : Int) (x7 : Int) (x8 : Int) {u1 u3 : Option iV} (s : gI) (o : Int × gI), f285_at78 N r_at43 n x2 x4 x5 x6 x7 x8 s = some o → iRR false L (d + 2) kj285 k285_78 [some (vR 63), u1, some (vI x2), u3, some (vI x4), some (vI x5), some (vI x6), some (vI x7), some (vI x8)] [] (s, g_rho) (some (vI o.1), (o.2, g_rho)) := by
  intro n
  induction n with
  | zero => intro _ _ _ _ _ _ _ _ _ _ h; cases h
  | succ n ih =>
    intro x2 x4 x5 x6 x7 x8 u1 u3 s o h
    refine iRR.of 22 ?_
    refine iRT.ite h (fun h => ?_) (fun h => ?_)
    · refine iRT.ck h fun h => ?_
      refine iRT.ov h fun h => ?_
      exact iRT.go 1 (h_at43 _ _ _ _ _ _ _ _ _ _ h) (fun _ _ => rfl)
    · refine iRT.ck h fun h => ?_
      refine iRT.ite h (fun h => ?_) (fun h => ?_)
      · exact iRT.go 0 (f285_63_at115_ok L N d (fun a0 a1 a2 a3 a4 a5 b0 b1 s o h => ih a0 a1 a2 a3 a4 a5 s o h) _ _ _ _ _ _ h) (fun _ _ => rfl)
      · obtain ⟨i5, s4, h1, h⟩ := i_o2_inv h
        refine iRT.call (f284_63_ok L N (d + 0) _ _ _ h1) ?_
        refine iRT.ite h (fun h => ?_) (fun h => ?_)
        · exact iRT.go 0 (f285_63_at115_ok L N d (fun a0 a1 a2 a3 a4 a5 b0 b1 s o h => ih a0 a1 a2 a3 a4 a5 s o h) _ _ _ _ _ _ h) (fun _ _ => rfl)
        · refine iRT.ov h fun h => ?_
          exact iRT.go 1 (ih _ _ _ _ _ _ _ _ h) (fun _ _ => rfl)
set_option maxHeartbeats 100000 in
theorem f285_63_at43_ok (L N d : Nat) : ∀ (n : Nat) (x2 : Int) (x4 : Int) (x5 : Int) {u1 u3 u6 u7 u8 : Option iV} (s : gI) (o : Int × gI), f285_at43 N n x2 x4 x5 s = some o → iRR false L (d + 2) kj285 k285_43 [some (vR 63), u1, some (vI x2), u3, some (vI x4), some (vI x5), u6, u7, u8] [] (s, g_rho) (some (vI o.1), (o.2, g_rho)) := by
  intro n
  induction n with
  | zero => intro _ _ _ _ _ _ _ _ _ _ h; cases h
  | succ n ih =>
    intro x2 x4 x5 u1 u3 u6 u7 u8 s o h
    refine iRR.of 401 ?_
    obtain ⟨i2, s1, h1, h⟩ := i_o2_inv h
    refine iRT.call (f220_63_ok L N (d + 1)  _ h1) ?_
    refine iRT.ite h (fun h => ?_) (fun h => ?_)
    · refine iRT.b1 h fun h => ?_
      cases h
      exact iRT.ret
    · refine iRT.ite h (fun h => ?_) (fun h => ?_)
      · refine iRT.b1 h fun h => ?_
        cases h
        exact iRT.ret
      · refine iRT.ck h fun h => ?_
        obtain ⟨i5, s4, h1, h⟩ := i_o2_inv h
        refine iRT.call (f284_63_ok L N (d + 0) _ _ _ h1) ?_
        exact iRT.go 3 (f285_63_at78_ok L N d (fun a0 a1 a2 b0 b1 b2 b3 b4 s o h => ih a0 a1 a2 s o h) N _ _ _ _ _ _ _ _ h) (fun _ _ => rfl)
set_option maxHeartbeats 100000 in
theorem f285_63_at10_ok (L N d : Nat) : ∀ (n : Nat) (x2 : Int) (x3 : Int) (x4 : Int) {u1 u5 u6 u7 u8 : Option iV} (s : gI) (o : Int × gI), f285_at10 N n x2 x3 x4 s = some o → iRR false L (d + 2) kj285 k285_10 [some (vR 63), u1, some (vI x2), some (vI x3), some (vI x4), u5, u6, u7, u8] [] (s, g_rho) (some (vI o.1), (o.2, g_rho)) := by
  intro n
  induction n with
  | zero => intro _ _ _ _ _ _ _ _ _ _ h; cases h
  | succ n ih =>
    intro x2 x3 x4 u1 u5 u6 u7 u8 s o h
    refine iRR.of 16 ?_
    refine iRT.ite h (fun h => ?_) (fun h => ?_)
    · exact iRT.go 4 (f285_63_at43_ok L N d N _ _ _ _ _ h) (fun _ _ => rfl)
    · refine iRT.dv h fun h => ?_
      refine iRT.ck h fun h => ?_
      refine iRT.dv h fun h => ?_
      refine iRT.ov h fun h => ?_
      exact iRT.go 1 (ih _ _ _ _ _ h) (fun _ _ => rfl)
set_option maxHeartbeats 100000 in
theorem f285_63_ok (L N d : Nat) (x1 : Int) (x2 : Int) (s : gI) {o : Int × gI} (h : f285 N x1 x2 s = some o) : iEE L (d + 3) 285 [vR 63, vI x1, vI x2] (s, g_rho) (some (vI o.1), (o.2, g_rho)) := by
  refine iEE.of (wr := false) (d := d + 2) (md := gm_285) rfl rfl rfl (iRR.of 8 ?_)
  obtain ⟨i2, s1, h1, h⟩ := i_o2_inv h
  refine iRT.call (f220_63_ok L N (d + 1)  _ h1) ?_
  refine iRT.ov h fun h => ?_
  exact iRT.go 1 (f285_63_at10_ok L N d N _ _ _ _ _ h) (fun _ _ => rfl)
-- GutterNineModel.rests
set_option maxHeartbeats 100000 in
theorem f286_63_at61_ok (L N d : Nat) : ∀ (n : Nat) (x1 : Int) (x2 : Int) (x3 : Int) (x4 : Int) (x5 : Int) (s : gI) (o : Int × gI), f286_at61 N n x1 x2 x3 x4 x5 s = some o → iRR false L (d + 3) kj286 k286_61 [some (vR 63), some (vI x1), some (vI x2), some (vI x3), some (vI x4), some (vI x5)] [] (s, g_rho) (some (vI o.1), (o.2, g_rho)) := by
  intro n
  induction n with
  | zero => intro _ _ _ _ _ _ _ h; cases h
  | succ n ih =>
    intro x1 x2 x3 x4 x5 s o h
    refine iRR.of 401 ?_
    refine iRT.ite h (fun h => ?_) (fun h => ?_)
    · refine iRT.ite h (fun h => ?_) (fun h => ?_)
      · cases h
        exact iRT.ret
      · cases h
        exact iRT.ret
    · obtain ⟨i2, s1, h1, h⟩ := i_o2_inv h
      refine iRT.call (f285_63_ok L N (d + 0) _ _ _ h1) ?_
      refine iRT.ite h (fun h => ?_) (fun h => ?_)
      · refine iRT.ov h fun h => ?_
        exact iRT.go 1 (ih _ _ _ _ _ _ _ h) (fun _ _ => rfl)
      · refine iRT.ite h (fun h => ?_) (fun h => ?_)
        · cases h
          exact iRT.ret
        · refine iRT.ov h fun h => ?_
          refine iRT.ov h fun h => ?_
          exact iRT.go 1 (ih _ _ _ _ _ _ _ h) (fun _ _ => rfl)
set_option maxHeartbeats 100000 in
theorem f286_63_at35_ok (L N d : Nat) : ∀ (n : Nat) (x1 : Int) (x2 : Int) (x3 : Int) (x4 : Int) {u5 : Option iV} (s : gI) (o : Int × gI), f286_at35 N n x1 x2 x3 x4 s = some o → iRR false L (d + 3) kj286 k286_35 [some (vR 63), some (vI x1), some (vI x2), some (vI x3), some (vI x4), u5] [] (s, g_rho) (some (vI o.1), (o.2, g_rho)) := by
  intro n
  induction n with
  | zero => intro _ _ _ _ _ _ _ h; cases h
  | succ n ih =>
    intro x1 x2 x3 x4 u5 s o h
    refine iRR.of 11 ?_
    obtain ⟨i2, s1, h1, h⟩ := i_o2_inv h
    refine iRT.call (f220_63_ok L N (d + 2)  _ h1) ?_
    refine iRT.ite h (fun h => ?_) (fun h => ?_)
    · exact iRT.go 4 (f286_63_at61_ok L N d N _ _ _ _ _ _ _ h) (fun _ _ => rfl)
    · refine iRT.ov h fun h => ?_
      refine iRT.ov h fun h => ?_
      exact iRT.go 1 (ih _ _ _ _ _ _ h) (fun _ _ => rfl)
set_option maxHeartbeats 100000 in
theorem f286_63_ok (L N d : Nat) (x1 : Int) (x2 : Int) (s : gI) {o : Int × gI} (h : f286 N x1 x2 s = some o) : iEE L (d + 4) 286 [vR 63, vI x1, vI x2] (s, g_rho) (some (vI o.1), (o.2, g_rho)) := by
  refine iEE.of (wr := false) (d := d + 3) (md := gm_286) rfl rfl rfl (iRR.of 401 ?_)
  delta f286 at h
  obtain ⟨i3, s2, h1, h⟩ := i_o2_inv h
  refine iRT.call (f189_ok L N (d + 2) _ _ _ _ h1) ?_
  refine iRT.ite h (fun h => ?_) (fun h => ?_)
  · cases h
    exact iRT.ret
  · refine iRT.ite h (fun h => ?_) (fun h => ?_)
    · cases h
      exact iRT.ret
    · obtain ⟨i5, s4, h1, h⟩ := i_o2_inv h
      refine iRT.call (f220_63_ok L N (d + 2)  _ h1) ?_
      refine iRT.ite h (fun h => ?_) (fun h => ?_)
      · cases h
        exact iRT.ret
      · exact iRT.go 4 (f286_63_at35_ok L N d N _ _ _ _ _ _ h) (fun _ _ => rfl)
-- GutterNineModel.otherwise
set_option maxHeartbeats 100000 in
theorem f287_63_at274_ok (L N d : Nat) {r_at140 : Int → Int → Int → Int → Int → Int → gI → Option (Int × gI)} (h_at140 : ∀ x3 x4 x5 x7 x8 x9 u1 u2 u6 u10 u11 u12 s o, r_at140 x3 x4 x5 x7 x8 x9 s = some o → iRR true L (d + 4) kj287 k287_140 [some (vR 63), u1, u2, some (vI x3), some (vI x4), some (vI x5), u6, some (vI x7), some (vI x8), some (vI x9), u10, u11, u12] [] (s, g_rho) (some (vI o.1), (o.2, g_rho))) (x3 : Int) (x4 : Int) (x5 : Int) (x7 : Int) (x8 : Int) (x9 : Int) (x10 : Int) {u1 : Option iV} {u2 : Option iV} {u6 : Option iV} {u11 : Option iV} {u12 : Option iV} (s : gI) {o : Int × gI} (h : f287_at274 N r_at140 x3 x4 x5 x7 x8 x9 x10 s = some o) : iRR true L (d + 4) kj287 k287_274 [some (vR 63), u1, u2, some (vI x3), some (vI x4), some (vI x5), u6, some (vI x7), some (vI x8), some (vI x9), some (vI x10), u11, u12] [] (s, g_rho) (some (vI o.1), (o.2, g_rho)) := by
  refine iRR.of 10 ?_
  refine iRT.ck h fun h => ?_
  refine iRT.ov h fun h => ?_
  exact iRT.go 1 (h_at140 _ _ _ _ _ _ _ _ _ _ _ _ _ _ h) (fun _ _ => rfl)
set_option maxHeartbeats 100000 in
theorem f287_63_at265_ok (L N d : Nat) {r_at163 : Int → Int → Int → Int → Int → Int → Int → Int → gI → Option (Int × gI)} (h_at163 : ∀ x3 x4 x5 x7 x8 x9 x10 x11 u1 u2 u6 u12 s o, r_at163 x3 x4 x5 x7 x8 x9 x10 x11 s = some o → iRR true L (d + 4) kj287 k287_163 [some (vR 63), u1, u2, some (vI x3), some (vI x4), some (vI x5), u6, some (vI x7), some (vI x8), some (vI x9), some (vI x10), some (vI x11), u12] [] (s, g_rho) (some (vI o.1), (o.2, g_rho))) (x3 : Int) (x4 : Int) (x5 : Int) (x8 : Int) (x9 : Int) (x10 : Int) (x11 : Int) (z0 : Int) (z1 : Int) {u1 : Option iV} {u2 : Option iV} {u6 : Option iV} {u7 : Option iV} {u12 : Option iV} (s : gI) {o : Int × gI} (h : f287_at265 N r_at163 x3 x4 x5 x8 x9 x10 x11 z0 z1 s = some o) : iRR true L (d + 4) kj287 k287_265 [some (vR 63), u1, u2, some (vI x3), some (vI x4), some (vI x5), u6, u7, some (vI x8), some (vI x9), some (vI x10), some (vI x11), u12] [vI z0, vI z1] (s, g_rho) (some (vI o.1), (o.2, g_rho)) := by
  refine iRR.of 5 ?_
  refine iRT.ov h fun h => ?_
  exact iRT.go 1 (h_at163 _ _ _ _ _ _ _ _ _ _ _ _ _ _ h) (fun _ _ => rfl)
set_option maxHeartbeats 100000 in
theorem f287_63_at251_ok (L N d : Nat) {r_at163 : Int → Int → Int → Int → Int → Int → Int → Int → gI → Option (Int × gI)} (h_at163 : ∀ x3 x4 x5 x7 x8 x9 x10 x11 u1 u2 u6 u12 s o, r_at163 x3 x4 x5 x7 x8 x9 x10 x11 s = some o → iRR true L (d + 4) kj287 k287_163 [some (vR 63), u1, u2, some (vI x3), some (vI x4), some (vI x5), u6, some (vI x7), some (vI x8), some (vI x9), some (vI x10), some (vI x11), u12] [] (s, g_rho) (some (vI o.1), (o.2, g_rho))) (x3 : Int) (x4 : Int) (x5 : Int) (x7 : Int) (x9 : Int) (x10 : Int) (x11 : Int) (x12 : Int) (z0 : Int) {u1 : Option iV} {u2 : Option iV} {u6 : Option iV} {u8 : Option iV} (s : gI) {o : Int × gI} (h : f287_at251 N r_at163 x3 x4 x5 x7 x9 x10 x11 x12 z0 s = some o) : iRR true L (d + 4) kj287 k287_251 [some (vR 63), u1, u2, some (vI x3), some (vI x4), some (vI x5), u6, some (vI x7), u8, some (vI x9), some (vI x10), some (vI x11), some (vI x12)] [vI z0] (s, g_rho) (some (vI o.1), (o.2, g_rho)) := by
  refine iRR.of 7 ?_
  refine iRT.ite h (fun h => ?_) (fun h => ?_)
  · exact iRT.go 1 (f287_63_at265_ok L N d h_at163 _ _ _ _ _ _ _ _ _ _ h) (fun _ _ => rfl)
  · exact iRT.go 2 (f287_63_at265_ok L N d h_at163 _ _ _ _ _ _ _ _ _ _ h) (fun _ _ => rfl)
set_option maxHeartbeats 100000 in
theorem f287_63_at249_ok (L N d : Nat) {r_at163 : Int → Int → Int → Int → Int → Int → Int → Int → gI → Option (Int × gI)} (h_at163 : ∀ x3 x4 x5 x7 x8 x9 x10 x11 u1 u2 u6 u12 s o, r_at163 x3 x4 x5 x7 x8 x9 x10 x11 s = some o → iRR true L (d + 4) kj287 k287_163 [some (vR 63), u1, u2, some (vI x3), some (vI x4), some (vI x5), u6, some (vI x7), some (vI x8), some (vI x9), some (vI x10), some (vI x11), u12] [] (s, g_rho) (some (vI o.1), (o.2, g_rho))) (x3 : Int) (x4 : Int) (x5 : Int) (x7 : Int) (x8 : Int) (x9 : Int) (x10 : Int) (x11 : Int) (x12 : Int) {u1 : Option iV} {u2 : Option iV} {u6 : Option iV} (s : gI) {o : Int × gI} (h : f287_at249 N r_at163 x3 x4 x5 x7 x8 x9 x10 x11 x12 s = some o) : iRR true L (d + 4) kj287 k287_249 [some (vR 63), u1, u2, some (vI x3), some (vI x4), some (vI x5), u6, some (vI x7), some (vI x8), some (vI x9), some (vI x10), some (vI x11), some (vI x12)] [] (s, g_rho) (some (vI o.1), (o.2, g_rho)) := by
  refine iRR.of 2 ?_
  exact iRT.go 1 (f287_63_at251_ok L N d h_at163 _ _ _ _ _ _ _ _ _ _ h) (fun _ _ => rfl)
set_option maxHeartbeats 100000 in
theorem f287_63_at226_ok (L N d : Nat) {r_at163 : Int → Int → Int → Int → Int → Int → Int → Int → gI → Option (Int × gI)} (h_at163 : ∀ x3 x4 x5 x7 x8 x9 x10 x11 u1 u2 u6 u12 s o, r_at163 x3 x4 x5 x7 x8 x9 x10 x11 s = some o → iRR true L (d + 4) kj287 k287_163 [some (vR 63), u1, u2, some (vI x3), some (vI x4), some (vI x5), u6, some (vI x7), some (vI x8), some (vI x9), some (vI x10), some (vI x11), u12] [] (s, g_rho) (some (vI o.1), (o.2, g_rho))) (x3 : Int) (x4 : Int) (x5 : Int) (x7 : Int) (x8 : Int) (x9 : Int) (x10 : Int) (x11 : Int) (z0 : Int) {u1 : Option iV} {u2 : Option iV} {u6 : Option iV} {u12 : Option iV} (s : gI) {o : Int × gI} (h : f287_at226 N r_at163 x3 x4 x5 x7 x8 x9 x10 x11 z0 s = some o) : iRR true L (d + 4) kj287 k287_226 [some (vR 63), u1, u2, some (vI x3), some (vI x4), some (vI x5), u6, some (vI x7), some (vI x8), some (vI x9), some (vI x10), some (vI x11), u12] [vI z0] (s, g_rho) (some (vI o.1), (o.2, g_rho)) := by
  refine iRR.of 12 ?_
  refine iRT.ite h (fun h => ?_) (fun h => ?_)
  · exact iRT.go 0 (f287_63_at249_ok L N d h_at163 _ _ _ _ _ _ _ _ _ _ h) (fun _ _ => rfl)
  · refine iRT.ite h (fun h => ?_) (fun h => ?_)
    · exact iRT.go 6 (f287_63_at251_ok L N d h_at163 _ _ _ _ _ _ _ _ _ _ h) (fun _ _ => rfl)
    · exact iRT.go 0 (f287_63_at249_ok L N d h_at163 _ _ _ _ _ _ _ _ _ _ h) (fun _ _ => rfl)
set_option maxHeartbeats 100000 in
theorem f287_63_at225_ok (L N d : Nat) {r_at163 : Int → Int → Int → Int → Int → Int → Int → Int → gI → Option (Int × gI)} (h_at163 : ∀ x3 x4 x5 x7 x8 x9 x10 x11 u1 u2 u6 u12 s o, r_at163 x3 x4 x5 x7 x8 x9 x10 x11 s = some o → iRR true L (d + 4) kj287 k287_163 [some (vR 63), u1, u2, some (vI x3), some (vI x4), some (vI x5), u6, some (vI x7), some (vI x8), some (vI x9), some (vI x10), some (vI x11), u12] [] (s, g_rho) (some (vI o.1), (o.2, g_rho))) (x3 : Int) (x4 : Int) (x5 : Int) (x7 : Int) (x8 : Int) (x9 : Int) (x10 : Int) (x11 : Int) {u1 : Option iV} {u2 : Option iV} {u6 : Option iV} {u12 : Option iV} (s : gI) {o : Int × gI} (h : f287_at225 N r_at163 x3 x4 x5 x7 x8 x9 x10 x11 s = some o) : iRR true L (d + 4) kj287 k287_225 [some (vR 63), u1, u2, some (vI x3), some (vI x4), some (vI x5), u6, some (vI x7), some (vI x8), some (vI x9), some (vI x10), some (vI x11), u12] [] (s, g_rho) (some (vI o.1), (o.2, g_rho)) := by
  refine iRR.of 2 ?_
  exact iRT.go 1 (f287_63_at226_ok L N d h_at163 _ _ _ _ _ _ _ _ _ _ h) (fun _ _ => rfl)
set_option maxHeartbeats 100000 in
theorem f287_63_at163_ok (L N d : Nat) {r_at140 : Int → Int → Int → Int → Int → Int → gI → Option (Int × gI)} (h_at140 : ∀ x3 x4 x5 x7 x8 x9 u1 u2 u6 u10 u11 u12 s o, r_at140 x3 x4 x5 x7 x8 x9 s = some o → iRR true L (d + 4) kj287 k287_140 [some (vR 63), u1, u2, some (vI x3), some (vI x4), some (vI x5), u6, some (vI x7), some (vI x8), some (vI x9), u10, u11, u12] [] (s, g_rho) (some (vI o.1), (o.2, g_rho))) : ∀ (n : Nat) (x3 : Int) (x4 : Int) (x5 : Int) (x7 : Int) (x8 : Int) (x9 : Int) (x10 : Int) (x11 : Int) {u1 u2 u6 u12 : Option iV} (s : gI) (o : Int × gI), f287_at163 N r_at140 n x3 x4 x5 x7 x8 x9 x10 x11 s = some o → iRR true L (d + 4) kj287 k287_163 [some (vR 63), u1, u2, some (vI x3), some (vI x4), some (vI x5), u6, some (vI x7), some (vI x8), some (vI x9), some (vI x10), some (vI x11), u12] [] (s, g_rho) (some (vI o.1), (o.2, g_rho)) := by
  intro n
  induction n with
  | zero => intro _ _ _ _ _ _ _ _ _ _ _ _ _ _ h; cases h
  | succ n ih =>
    intro x3 x4 x5 x7 x8 x9 x10 x11 u1 u2 u6 u12 s o h
    refine iRR.of 34 ?_
    refine iRT.ite h (fun h => ?_) (fun h => ?_)
    · exact iRT.go 0 (f287_63_at274_ok L N d h_at140 _ _ _ _ _ _ _ _ h) (fun _ _ => rfl)
    · refine iRT.dv h fun h => ?_
      obtain ⟨i2, s1, h1, h⟩ := i_o2_inv h
      refine iRT.call (f218_63_ok L N (d + 3)  _ h1) ?_
      refine iRT.ite h (fun h => ?_) (fun h => ?_)
      · exact iRT.go 0 (f287_63_at274_ok L N d h_at140 _ _ _ _ _ _ _ _ h) (fun _ _ => rfl)
      · refine iRT.ite h (fun h => ?_) (fun h => ?_)
        · exact iRT.go 0 (f287_63_at274_ok L N d h_at140 _ _ _ _ _ _ _ _ h) (fun _ _ => rfl)
        · refine iRT.ck h fun h => ?_
          refine iRT.ite h (fun h => ?_) (fun h => ?_)
          · exact iRT.go 0 (f287_63_at225_ok L N d (fun a0 a1 a2 a3 a4 a5 a6 a7 b0 b1 b2 b3 s o h => ih a0 a1 a2 a3 a4 a5 a6 a7 s o h) _ _ _ _ _ _ _ _ _ h) (fun _ _ => rfl)
          · obtain ⟨i5, s4, h1, h⟩ := i_o2_inv h
            refine iRT.call (f231_63_ok L N (d + 0) _ _ _ _ _ h1) ?_
            obtain ⟨i7, s6, h1, h⟩ := i_o2_inv h
            refine iRT.call (f237_ok L N (d + 3) _ _ h1) ?_
            refine iRT.ite h (fun h => ?_) (fun h => ?_)
            · exact iRT.go 2 (f287_63_at226_ok L N d (fun a0 a1 a2 a3 a4 a5 a6 a7 b0 b1 b2 b3 s o h => ih a0 a1 a2 a3 a4 a5 a6 a7 s o h) _ _ _ _ _ _ _ _ _ _ h) (fun _ _ => rfl)
            · exact iRT.go 0 (f287_63_at225_ok L N d (fun a0 a1 a2 a3 a4 a5 a6 a7 b0 b1 b2 b3 s o h => ih a0 a1 a2 a3 a4 a5 a6 a7 s o h) _ _ _ _ _ _ _ _ _ h) (fun _ _ => rfl)
set_option maxHeartbeats 100000 in
theorem f287_63_at140_ok (L N d : Nat) : ∀ (n : Nat) (x3 : Int) (x4 : Int) (x5 : Int) (x7 : Int) (x8 : Int) (x9 : Int) {u1 u2 u6 u10 u11 u12 : Option iV} (s : gI) (o : Int × gI), f287_at140 N n x3 x4 x5 x7 x8 x9 s = some o → iRR true L (d + 4) kj287 k287_140 [some (vR 63), u1, u2, some (vI x3), some (vI x4), some (vI x5), u6, some (vI x7), some (vI x8), some (vI x9), u10, u11, u12] [] (s, g_rho) (some (vI o.1), (o.2, g_rho)) := by
  intro n
  induction n with
  | zero => intro _ _ _ _ _ _ _ _ _ _ _ _ _ _ h; cases h
  | succ n ih =>
    intro x3 x4 x5 x7 x8 x9 u1 u2 u6 u10 u11 u12 s o h
    refine iRR.of 401 ?_
    obtain ⟨i2, s1, h1, h⟩ := i_o2_inv h
    refine iRT.call (f219_63_ok L N (d + 3)  _ h1) ?_
    refine iRT.ite h (fun h => ?_) (fun h => ?_)
    · refine iRT.ite h (fun h => ?_) (fun h => ?_)
      · cases h
        exact iRT.ret
      · refine iRT.ite h (fun h => ?_) (fun h => ?_)
        · cases h
          exact iRT.ret
        · cases h
          exact iRT.ret
    · obtain ⟨i4, s3, h1, h⟩ := i_o2_inv h
      refine iRT.call (f225_63_ok L N (d + 3) _ _ h1) ?_
      exact iRT.go 3 (f287_63_at163_ok L N d (fun a0 a1 a2 a3 a4 a5 b0 b1 b2 b3 b4 b5 s o h => ih a0 a1 a2 a3 a4 a5 s o h) N _ _ _ _ _ _ _ _ _ _ h) (fun _ _ => rfl)
set_option maxHeartbeats 100000 in
theorem f287_63_at73_ok (L N d : Nat) (x3 : Int) (x4 : Int) (x5 : Int) (z0 : Int) {u1 : Option iV} {u2 : Option iV} {u6 : Option iV} {u7 : Option iV} {u8 : Option iV} {u9 : Option iV} {u10 : Option iV} {u11 : Option iV} {u12 : Option iV} (s : gI) {o : Int × gI} (h : f287_at73 N x3 x4 x5 z0 s = some o) : iRR true L (d + 4) kj287 k287_73 [some (vR 63), u1, u2, some (vI x3), some (vI x4), some (vI x5), u6, u7, u8, u9, u10, u11, u12] [vI z0] (s, g_rho) (some (vI o.1), (o.2, g_rho)) := by
  refine iRR.of 401 ?_
  refine iRT.ite h (fun h => ?_) (fun h => ?_)
  · cases h
    exact iRT.ret
  · obtain ⟨i2, s1, h1, h⟩ := i_o2_inv h
    refine iRT.call (f225_63_ok L N (d + 3) _ _ h1) ?_
    refine iRT.ite h (fun h => ?_) (fun h => ?_)
    · cases h
      exact iRT.ret
    · obtain ⟨i4, s3, h1, h⟩ := i_o2_inv h
      refine iRT.call (f225_63_ok L N (d + 3) _ _ h1) ?_
      refine iRT.ite h (fun h => ?_) (fun h => ?_)
      · cases h
        exact iRT.ret
      · obtain ⟨i6, s5, h1, h⟩ := i_o2_inv h
        refine iRT.call (f231_63_ok L N (d + 0) _ _ _ _ _ h1) ?_
        obtain ⟨i8, s7, h1, h⟩ := i_o2_inv h
        refine iRT.call (f237_ok L N (d + 3) _ _ h1) ?_
        refine iRT.ite h (fun h => ?_) (fun h => ?_)
        · refine iRT.ite h (fun h => ?_) (fun h => ?_)
          · cases h
            exact iRT.ret
          · cases h
            exact iRT.ret
        · exact iRT.go 6 (f287_63_at140_ok L N d N _ _ _ _ _ _ _ _ h) (fun _ _ => rfl)
set_option maxHeartbeats 100000 in
theorem f287_63_at72_ok (L N d : Nat) (x3 : Int) (x4 : Int) (x5 : Int) {u1 : Option iV} {u2 : Option iV} {u6 : Option iV} {u7 : Option iV} {u8 : Option iV} {u9 : Option iV} {u10 : Option iV} {u11 : Option iV} {u12 : Option iV} (s : gI) {o : Int × gI} (h : f287_at72 N x3 x4 x5 s = some o) : iRR true L (d + 4) kj287 k287_72 [some (vR 63), u1, u2, some (vI x3), some (vI x4), some (vI x5), u6, u7, u8, u9, u10, u11, u12] [] (s, g_rho) (some (vI o.1), (o.2, g_rho)) := by
  refine iRR.of 2 ?_
  exact iRT.go 1 (f287_63_at73_ok L N d _ _ _ _ _ h) (fun _ _ => rfl)
set_option maxHeartbeats 100000 in
theorem f287_63_at68_ok (L N d : Nat) (x3 : Int) (x4 : Int) (x5 : Int) {u1 : Option iV} {u2 : Option iV} {u6 : Option iV} {u7 : Option iV} {u8 : Option iV} {u9 : Option iV} {u10 : Option iV} {u11 : Option iV} {u12 : Option iV} (s : gI) {o : Int × gI} (h : f287_at68 N x3 x4 x5 s = some o) : iRR true L (d + 4) kj287 k287_68 [some (vR 63), u1, u2, some (vI x3), some (vI x4), some (vI x5), u6, u7, u8, u9, u10, u11, u12] [] (s, g_rho) (some (vI o.1), (o.2, g_rho)) := by
  refine iRR.of 3 ?_
  exact iRT.go 2 (f287_63_at73_ok L N d _ _ _ _ _ h) (fun _ _ => rfl)
set_option maxHeartbeats 100000 in
theorem f287_63_ok (L N d : Nat) (x1 : Int) (x2 : Int) (x3 : Int) (x4 : Int) (s : gI) {o : Int × gI} (h : f287 N x1 x2 x3 x4 s = some o) : iEE L (d + 5) 287 [vR 63, vI x1, vI x2, vI x3, vI x4] (s, g_rho) (some (vI o.1), (o.2, g_rho)) := by
  refine iEE.of (wr := true) (d := d + 4) (md := gm_287) rfl rfl rfl (iRR.of 39 ?_)
  delta f287 at h
  obtain ⟨i4, s3, h1, h⟩ := i_o2_inv h
  refine iRT.call (f224_63_ok L N (d + 2) _ _ _ h1) ?_
  refine iRT.ite h (fun h => ?_) (fun h => ?_)
  · exact iRT.go 0 (f287_63_at72_ok L N d _ _ _ _ h) (fun _ _ => rfl)
  · obtain ⟨i6, s5, h1, h⟩ := i_o2_inv h
    refine iRT.call (f189_ok L N (d + 3) _ _ _ _ h1) ?_
    refine iRT.ite h (fun h => ?_) (fun h => ?_)
    · exact iRT.go 0 (f287_63_at72_ok L N d _ _ _ _ h) (fun _ _ => rfl)
    · obtain ⟨i8, s7, h1, h⟩ := i_o2_inv h
      refine iRT.call (f189_ok L N (d + 3) _ _ _ _ h1) ?_
      refine iRT.ite h (fun h => ?_) (fun h => ?_)
      · refine iRT.ite h (fun h => ?_) (fun h => ?_)
        · exact iRT.go 0 (f287_63_at72_ok L N d _ _ _ _ h) (fun _ _ => rfl)
        · refine iRT.ite h (fun h => ?_) (fun h => ?_)
          · exact iRT.go 0 (f287_63_at72_ok L N d _ _ _ _ h) (fun _ _ => rfl)
          · refine iRT.dv h fun h => ?_
            refine iRT.dv h fun h => ?_
            obtain ⟨i10, s9, h1, h⟩ := i_o2_inv h
            refine iRT.call (f224_63_ok L N (d + 2) _ _ _ h1) ?_
            refine iRT.ite h (fun h => ?_) (fun h => ?_)
            · exact iRT.go 0 (f287_63_at72_ok L N d _ _ _ _ h) (fun _ _ => rfl)
            · exact iRT.go 0 (f287_63_at68_ok L N d _ _ _ _ h) (fun _ _ => rfl)
      · exact iRT.go 0 (f287_63_at68_ok L N d _ _ _ _ h) (fun _ _ => rfl)
-- GutterNineModel.draw
set_option maxHeartbeats 100000 in
theorem f288_63_ok (L N d : Nat) (x1 : Int) (s : gI) {o : Int × gI} (h : f288 N x1 s = some o) : iEE L (d + 1) 288 [vR 63, vI x1] (s, g_rho) (some (vI o.1), (o.2, g_rho)) := by
  refine iEE.of (wr := false) (d := d + 0) (md := gm_288) rfl rfl rfl (iRR.of 401 ?_)
  refine iRT.ol h fun h => ?_
  refine iRT.ol h fun h => ?_
  refine iRT.dv h fun h => ?_
  refine iRT.dv h fun h => ?_
  refine iRT.dv h fun h => ?_
  cases h
  exact iRT.ret
-- GutterNineModel.throwsOwn
set_option maxHeartbeats 100000 in
theorem f289_63_at32_ok (L N d : Nat) : ∀ (n : Nat) (x1 : Int) (x2 : Int) (x3 : Int) (x4 : Int) (x5 : Int) (s : gI) (o : gI), f289_at32 N n x1 x2 x3 x4 x5 s = some o → iRR false L (d + 7) kj289 k289_32 [some (vR 63), some (vI x1), some (vI x2), some (vI x3), some (vI x4), some (vI x5)] [] (s, g_rho) (none, (o, g_rho)) := by
  intro n
  induction n with
  | zero => intro _ _ _ _ _ _ _ h; cases h
  | succ n ih =>
    intro x1 x2 x3 x4 x5 s o h
    refine iRR.of 401 ?_
    obtain ⟨i2, s1, h1, h⟩ := i_o2_inv h
    refine iRT.call (f260_63_ok L N (d + 6) _ _ _ h1) ?_
    refine iRT.ite h (fun h => ?_) (fun h => ?_)
    · obtain ⟨i4, s3, h1, h⟩ := i_o2_inv h
      refine iRT.call (f218_63_ok L N (d + 6)  _ h1) ?_
      refine iRT.dv h fun h => ?_
      obtain ⟨i6, s5, h1, h⟩ := i_o2_inv h
      refine iRT.call (f218_63_ok L N (d + 6)  _ h1) ?_
      refine iRT.dv h fun h => ?_
      obtain ⟨s7, h1, h⟩ := i_o1_inv h
      refine iRT.call (f235_63_ok L N (d + 0) _ _ _ _ _ _ _ h1) ?_
      cases h
      exact iRT.ret
    · obtain ⟨i9, s8, h1, h⟩ := i_o2_inv h
      refine iRT.call (f260_63_ok L N (d + 6) _ _ _ h1) ?_
      refine iRT.ov h fun h => ?_
      refine iRT.ov h fun h => ?_
      exact iRT.go 1 (ih _ _ _ _ _ _ _ h) (fun _ _ => rfl)
set_option maxHeartbeats 100000 in
theorem f289_63_ok (L N d : Nat) (x1 : Int) (s : gI) {o : gI} (h : f289 N x1 s = some o) : iEE L (d + 8) 289 [vR 63, vI x1] (s, g_rho) (none, (o, g_rho)) := by
  refine iEE.of (wr := false) (d := d + 7) (md := gm_289) rfl rfl rfl (iRR.of 20 ?_)
  obtain ⟨i2, s1, h1, h⟩ := i_o2_inv h
  refine iRT.call (f218_63_ok L N (d + 6)  _ h1) ?_
  obtain ⟨i4, s3, h1, h⟩ := i_o2_inv h
  refine iRT.call (f219_63_ok L N (d + 6)  _ h1) ?_
  refine iRT.ov h fun h => ?_
  obtain ⟨i6, s5, h1, h⟩ := i_o2_inv h
  refine iRT.call (f288_63_ok L N (d + 6) _ _ h1) ?_
  obtain ⟨i8, s7, h1, h⟩ := i_o2_inv h
  refine iRT.call (f288_63_ok L N (d + 6) _ _ h1) ?_
  obtain ⟨i10, s9, h1, h⟩ := i_o2_inv h
  refine iRT.call (f226_63_ok L N (d + 6) _ _ _ h1) ?_
  exact iRT.go 3 (f289_63_at32_ok L N d N _ _ _ _ _ _ _ h) (fun _ _ => rfl)
-- GutterNineModel.summer
set_option maxHeartbeats 100000 in
theorem f290_63_at173_ok (L N d : Nat) {r_at141 : Int → Int → Int → gI → Option (Int × gI)} (h_at141 : ∀ x3 x4 x5 u1 u2 s o, r_at141 x3 x4 x5 s = some o → iRR false L (d + 8) kj290 k290_141 [some (vR 63), u1, u2, some (vI x3), some (vI x4), some (vI x5)] [] (s, g_rho) (some (vI o.1), (o.2, g_rho))) (x3 : Int) (x5 : Int) (z0 : Int) (z1 : Int) {u1 : Option iV} {u2 : Option iV} {u4 : Option iV} (s : gI) {o : Int × gI} (h : f290_at173 N r_at141 x3 x5 z0 z1 s = some o) : iRR false L (d + 8) kj290 k290_173 [some (vR 63), u1, u2, some (vI x3), u4, some (vI x5)] [vI z0, vI z1] (s, g_rho) (some (vI o.1), (o.2, g_rho)) := by
  refine iRR.of 5 ?_
  refine iRT.ov h fun h => ?_
  refine iRT.ov h fun h => ?_
  exact iRT.go 1 (h_at141 _ _ _ _ _ _ _ h) (fun _ _ => rfl)
set_option maxHeartbeats 100000 in
theorem f290_63_at141_ok (L N d : Nat) : ∀ (n : Nat) (x3 : Int) (x4 : Int) (x5 : Int) {u1 u2 : Option iV} (s : gI) (o : Int × gI), f290_at141 N n x3 x4 x5 s = some o → iRR false L (d + 8) kj290 k290_141 [some (vR 63), u1, u2, some (vI x3), some (vI x4), some (vI x5)] [] (s, g_rho) (some (vI o.1), (o.2, g_rho)) := by
  intro n
  induction n with
  | zero => intro _ _ _ _ _ _ _ h; cases h
  | succ n ih =>
    intro x3 x4 x5 u1 u2 s o h
    refine iRR.of 401 ?_
    obtain ⟨i2, s1, h1, h⟩ := i_o2_inv h
    refine iRT.call (f221_63_ok L N (d + 7)  _ h1) ?_
    refine iRT.ite h (fun h => ?_) (fun h => ?_)
    · obtain ⟨i4, s3, h1, h⟩ := i_o2_inv h
      refine iRT.call (f267_63_ok L N (d + 6) _ _ h1) ?_
      refine iRT.ite h (fun h => ?_) (fun h => ?_)
      · cases h
        exact iRT.ret
      · refine iRT.ite h (fun h => ?_) (fun h => ?_)
        · cases h
          exact iRT.ret
        · refine iRT.ite h (fun h => ?_) (fun h => ?_)
          · obtain ⟨i6, s5, h1, h⟩ := i_o2_inv h
            refine iRT.call (f221_63_ok L N (d + 7)  _ h1) ?_
            refine iRT.ov h fun h => ?_
            refine iRT.ov h fun h => ?_
            cases h
            exact iRT.ret
          · replace h := (ick_inv h).2.2
            replace h := (ick_inv h).2.2
            refine iRT.ov h fun h => ?_
            cases h
            exact iRT.ret
    · refine iRT.ov h fun h => ?_
      refine iRT.ck h fun h => ?_
      refine iRT.ite h (fun h => ?_) (fun h => ?_)
      · exact iRT.go 2 (f290_63_at173_ok L N d (fun a0 a1 a2 b0 b1 s o h => ih a0 a1 a2 s o h) _ _ _ _ _ h) (fun _ _ => rfl)
      · exact iRT.go 1 (f290_63_at173_ok L N d (fun a0 a1 a2 b0 b1 s o h => ih a0 a1 a2 s o h) _ _ _ _ _ h) (fun _ _ => rfl)
set_option maxHeartbeats 100000 in
theorem f290_63_at122_ok (L N d : Nat) {r_at63 : Int → Int → Int → gI → Option (Int × gI)} (h_at63 : ∀ x2 x3 x4 u1 u5 s o, r_at63 x2 x3 x4 s = some o → iRR false L (d + 8) kj290 k290_63 [some (vR 63), u1, some (vI x2), some (vI x3), some (vI x4), u5] [] (s, g_rho) (some (vI o.1), (o.2, g_rho))) (x2 : Int) (x3 : Int) (x4 : Int) {u1 : Option iV} {u5 : Option iV} (s : gI) {o : Int × gI} (h : f290_at122 N r_at63 x2 x3 x4 s = some o) : iRR false L (d + 8) kj290 k290_122 [some (vR 63), u1, some (vI x2), some (vI x3), some (vI x4), u5] [] (s, g_rho) (some (vI o.1), (o.2, g_rho)) := by
  refine iRR.of 6 ?_
  obtain ⟨s1, h1, h⟩ := i_o1_inv h
  refine iRT.call (f255_63_ok L N (d + 4) _ _ h1) ?_
  refine iRT.ov h fun h => ?_
  exact iRT.go 1 (h_at63 _ _ _ _ _ _ _ h) (fun _ _ => rfl)
set_option maxHeartbeats 100000 in
theorem f290_63_at101_ok (L N d : Nat) {r_at63 : Int → Int → Int → gI → Option (Int × gI)} (h_at63 : ∀ x2 x3 x4 u1 u5 s o, r_at63 x2 x3 x4 s = some o → iRR false L (d + 8) kj290 k290_63 [some (vR 63), u1, some (vI x2), some (vI x3), some (vI x4), u5] [] (s, g_rho) (some (vI o.1), (o.2, g_rho))) (x2 : Int) (x3 : Int) (x4 : Int) {u1 : Option iV} {u5 : Option iV} (s : gI) {o : Int × gI} (h : f290_at101 N r_at63 x2 x3 x4 s = some o) : iRR false L (d + 8) kj290 k290_101 [some (vR 63), u1, some (vI x2), some (vI x3), some (vI x4), u5] [] (s, g_rho) (some (vI o.1), (o.2, g_rho)) := by
  refine iRR.of 12 ?_
  refine iRT.dv h fun h => ?_
  refine iRT.ite h (fun h => ?_) (fun h => ?_)
  · obtain ⟨i2, s1, h1, h⟩ := i_o2_inv h
    refine iRT.call (f288_63_ok L N (d + 7) _ _ h1) ?_
    obtain ⟨i4, s3, h1, h⟩ := i_o2_inv h
    refine iRT.call (f251_63_ok L N (d + 2) _ _ _ h1) ?_
    exact iRT.go 1 (f290_63_at122_ok L N d h_at63 _ _ _ _ h) (fun _ _ => rfl)
  · exact iRT.go 0 (f290_63_at122_ok L N d h_at63 _ _ _ _ h) (fun _ _ => rfl)
set_option maxHeartbeats 100000 in
theorem f290_63_at63_ok (L N d : Nat) : ∀ (n : Nat) (x2 : Int) (x3 : Int) (x4 : Int) {u1 u5 : Option iV} (s : gI) (o : Int × gI), f290_at63 N n x2 x3 x4 s = some o → iRR false L (d + 8) kj290 k290_63 [some (vR 63), u1, some (vI x2), some (vI x3), some (vI x4), u5] [] (s, g_rho) (some (vI o.1), (o.2, g_rho)) := by
  intro n
  induction n with
  | zero => intro _ _ _ _ _ _ _ h; cases h
  | succ n ih =>
    intro x2 x3 x4 u1 u5 s o h
    refine iRR.of 20 ?_
    refine iRT.ite h (fun h => ?_) (fun h => ?_)
    · exact iRT.go 4 (f290_63_at141_ok L N d N _ _ _ _ _ h) (fun _ _ => rfl)
    · obtain ⟨i2, s1, h1, h⟩ := i_o2_inv h
      refine iRT.call (f221_63_ok L N (d + 7)  _ h1) ?_
      obtain ⟨i4, s3, h1, h⟩ := i_o2_inv h
      refine iRT.call (f288_63_ok L N (d + 7) _ _ h1) ?_
      refine iRT.ov h fun h => ?_
      refine iRT.ck h fun h => ?_
      refine iRT.ite h (fun h => ?_) (fun h => ?_)
      · obtain ⟨s5, h1, h⟩ := i_o1_inv h
        refine iRT.call (f289_63_ok L N (d + 0) _ _ h1) ?_
        exact iRT.go 0 (f290_63_at101_ok L N d (fun a0 a1 a2 b0 b1 s o h => ih a0 a1 a2 s o h) _ _ _ _ h) (fun _ _ => rfl)
      · exact iRT.go 0 (f290_63_at101_ok L N d (fun a0 a1 a2 b0 b1 s o h => ih a0 a1 a2 s o h) _ _ _ _ h) (fun _ _ => rfl)
set_option maxHeartbeats 100000 in
theorem f290_63_ok (L N d : Nat) (x1 : Int) (x2 : Int) (x3 : Int) (s : gI) {o : Int × gI} (h : f290 N x1 x2 x3 s = some o) : iEE L (d + 9) 290 [vR 63, vI x1, vI x2, vI x3] (s, g_rho) (some (vI o.1), (o.2, g_rho)) := by
  refine iEE.of (wr := false) (d := d + 8) (md := gm_290) rfl rfl rfl (iRR.of 401 ?_)
  delta f290 at h
  obtain ⟨i3, s2, h1, h⟩ := i_o2_inv h
  refine iRT.call (f189_ok L N (d + 7) _ _ _ _ h1) ?_
  refine iRT.ite h (fun h => ?_) (fun h => ?_)
  · cases h
    exact iRT.ret
  · obtain ⟨i5, s4, h1, h⟩ := i_o2_inv h
    refine iRT.call (f189_ok L N (d + 7) _ _ _ _ h1) ?_
    refine iRT.ite h (fun h => ?_) (fun h => ?_)
    · cases h
      exact iRT.ret
    · obtain ⟨i7, s6, h1, h⟩ := i_o2_inv h
      refine iRT.call (f189_ok L N (d + 7) _ _ _ _ h1) ?_
      refine iRT.ite h (fun h => ?_) (fun h => ?_)
      · cases h
        exact iRT.ret
      · obtain ⟨i9, s8, h1, h⟩ := i_o2_inv h
        refine iRT.call (f221_63_ok L N (d + 7)  _ h1) ?_
        refine iRT.ite h (fun h => ?_) (fun h => ?_)
        · cases h
          exact iRT.ret
        · obtain ⟨s10, h1, h⟩ := i_o1_inv h
          refine iRT.call (f215_63_ok L N (d + 7) _ _ _ _ h1) ?_
          exact iRT.go 6 (f290_63_at63_ok L N d N _ _ _ _ _ h) (fun _ _ => rfl)
-- GutterNineModel.mark
set_option maxHeartbeats 100000 in
theorem f291_63_at65_ok (L N d : Nat) (x2 : Int) (z0 : Int) (z1 : Int) {u1 : Option iV} (s : gI) {o : Int × gI} (h : f291_at65 N x2 z0 z1 s = some o) : iRR false L (d + 1) kj291 k291_65 [some (vR 63), u1, some (vI x2)] [vI z0, vI z1, vR 63] (s, g_rho) (some (vI o.1), (o.2, g_rho)) := by
  refine iRR.of 401 ?_
  obtain ⟨s1, h1, h⟩ := i_o1_inv h
  refine iRT.call (f215_63_ok L N (d + 0) _ _ _ _ h1) ?_
  refine iRT.ite h (fun h => ?_) (fun h => ?_)
  · replace h := (ib1_inv h).2
    cases h
    exact iRT.ret
  · replace h := (ib1_inv h).2
    cases h
    exact iRT.ret
set_option maxHeartbeats 100000 in
theorem f291_63_at51_ok (L N d : Nat) (x1 : Int) (x2 : Int) (z0 : Int) (s : gI) {o : Int × gI} (h : f291_at51 N x1 x2 z0 s = some o) : iRR false L (d + 1) kj291 k291_51 [some (vR 63), some (vI x1), some (vI x2)] [vI z0, vR 63] (s, g_rho) (some (vI o.1), (o.2, g_rho)) := by
  refine iRR.of 8 ?_
  refine iRT.ite h (fun h => ?_) (fun h => ?_)
  · refine iRT.ov h fun h => ?_
    refine iRT.ov h fun h => ?_
    exact iRT.go 0 (f291_63_at65_ok L N d _ _ _ _ h) (fun _ _ => rfl)
  · exact iRT.go 2 (f291_63_at65_ok L N d _ _ _ _ h) (fun _ _ => rfl)
set_option maxHeartbeats 100000 in
theorem f291_63_at29_ok (L N d : Nat) (x1 : Int) (x2 : Int) (s : gI) {o : Int × gI} (h : f291_at29 N x1 x2 s = some o) : iRR false L (d + 1) kj291 k291_29 [some (vR 63), some (vI x1), some (vI x2)] [] (s, g_rho) (some (vI o.1), (o.2, g_rho)) := by
  refine iRR.of 15 ?_
  refine iRT.ck h fun h => ?_
  refine iRT.b1 h fun h => ?_
  refine iRT.ite h (fun h => ?_) (fun h => ?_)
  · exact iRT.go 1 (f291_63_at51_ok L N d _ _ _ _ h) (fun _ _ => rfl)
  · refine iRT.ov h fun h => ?_
    refine iRT.ov h fun h => ?_
    exact iRT.go 1 (f291_63_at51_ok L N d _ _ _ _ h) (fun _ _ => rfl)
set_option maxHeartbeats 100000 in
theorem f291_63_ok (L N d : Nat) (x1 : Int) (x2 : Int) (s : gI) {o : Int × gI} (h : f291 N x1 x2 s = some o) : iEE L (d + 2) 291 [vR 63, vI x1, vI x2] (s, g_rho) (some (vI o.1), (o.2, g_rho)) := by
  refine iEE.of (wr := false) (d := d + 1) (md := gm_291) rfl rfl rfl (iRR.of 401 ?_)
  delta f291 at h
  obtain ⟨i3, s2, h1, h⟩ := i_o2_inv h
  refine iRT.call (f189_ok L N (d + 0) _ _ _ _ h1) ?_
  refine iRT.ite h (fun h => ?_) (fun h => ?_)
  · replace h := (ib1_inv h).2
    cases h
    exact iRT.ret
  · refine iRT.ite h (fun h => ?_) (fun h => ?_)
    · exact iRT.go 0 (f291_63_at29_ok L N d _ _ _ h) (fun _ _ => rfl)
    · refine iRT.ck h fun h => ?_
      refine iRT.ite h (fun h => ?_) (fun h => ?_)
      · replace h := (ib1_inv h).2
        cases h
        exact iRT.ret
      · exact iRT.go 0 (f291_63_at29_ok L N d _ _ _ h) (fun _ _ => rfl)
-- GutterNineModel.count
set_option maxHeartbeats 100000 in
theorem f292_63_at130_ok (L N d : Nat) {r_at99 : Int → Int → Int → Int → Int → Int → gI → Option (Int × gI)} (h_at99 : ∀ x1 x2 x3 x4 x5 x6 s o, r_at99 x1 x2 x3 x4 x5 x6 s = some o → iRR false L (d + 2) kj292 k292_99 [some (vR 63), some (vI x1), some (vI x2), some (vI x3), some (vI x4), some (vI x5), some (vI x6)] [] (s, g_rho) (some (vI o.1), (o.2, g_rho))) (x1 : Int) (x2 : Int) (x3 : Int) (x4 : Int) (x6 : Int) (z0 : Int) (z1 : Int) {u5 : Option iV} (s : gI) {o : Int × gI} (h : f292_at130 N r_at99 x1 x2 x3 x4 x6 z0 z1 s = some o) : iRR false L (d + 2) kj292 k292_130 [some (vR 63), some (vI x1), some (vI x2), some (vI x3), some (vI x4), u5, some (vI x6)] [vI z0, vI z1] (s, g_rho) (some (vI o.1), (o.2, g_rho)) := by
  refine iRR.of 5 ?_
  refine iRT.ov h fun h => ?_
  refine iRT.ov h fun h => ?_
  exact iRT.go 1 (h_at99 _ _ _ _ _ _ _ _ h) (fun _ _ => rfl)
set_option maxHeartbeats 100000 in
theorem f292_63_at99_ok (L N d : Nat) : ∀ (n : Nat) (x1 : Int) (x2 : Int) (x3 : Int) (x4 : Int) (x5 : Int) (x6 : Int) (s : gI) (o : Int × gI), f292_at99 N n x1 x2 x3 x4 x5 x6 s = some o → iRR false L (d + 2) kj292 k292_99 [some (vR 63), some (vI x1), some (vI x2), some (vI x3), some (vI x4), some (vI x5), some (vI x6)] [] (s, g_rho) (some (vI o.1), (o.2, g_rho)) := by
  intro n
  induction n with
  | zero => intro _ _ _ _ _ _ _ _ h; cases h
  | succ n ih =>
    intro x1 x2 x3 x4 x5 x6 s o h
    refine iRR.of 401 ?_
    obtain ⟨i2, s1, h1, h⟩ := i_o2_inv h
    refine iRT.call (f218_63_ok L N (d + 1)  _ h1) ?_
    refine iRT.ite h (fun h => ?_) (fun h => ?_)
    · rcases iRT.cs h with ⟨hx0, h⟩ | ⟨hx0, h⟩
      · refine iRT.swin hx0 (off := 68) (by decide) (by decide) (by decide) ?_
        obtain ⟨i4, s3, h1, h⟩ := i_o2_inv h
        refine iRT.call (f218_63_ok L N (d + 1)  _ h1) ?_
        cases h
        exact iRT.ret
      · skip
        rcases iRT.cs h with ⟨hx1, h⟩ | ⟨hx1, h⟩
        · refine iRT.swin hx1 (off := 73) (by decide) (by decide) (by decide) ?_
          obtain ⟨i6, s5, h1, h⟩ := i_o2_inv h
          refine iRT.call (f219_63_ok L N (d + 1)  _ h1) ?_
          cases h
          exact iRT.ret
        · skip
          rcases iRT.cs h with ⟨hx2, h⟩ | ⟨hx2, h⟩
          · refine iRT.swin hx2 (off := 78) (by decide) (by decide) (by decide) ?_
            obtain ⟨i8, s7, h1, h⟩ := i_o2_inv h
            refine iRT.call (f220_63_ok L N (d + 1)  _ h1) ?_
            cases h
            exact iRT.ret
          · skip
            rcases iRT.cs h with ⟨hx3, h⟩ | ⟨hx3, h⟩
            · refine iRT.swin hx3 (off := 83) (by decide) (by decide) (by decide) ?_
              obtain ⟨i10, s9, h1, h⟩ := i_o2_inv h
              refine iRT.call (f221_63_ok L N (d + 1)  _ h1) ?_
              cases h
              exact iRT.ret
            · skip
              rcases iRT.cs h with ⟨hx4, h⟩ | ⟨hx4, h⟩
              · refine iRT.swin hx4 (off := 88) (by decide) (by decide) (by decide) ?_
                obtain ⟨i12, s11, h1, h⟩ := i_o2_inv h
                refine iRT.call (f267_63_ok L N (d + 0) _ _ h1) ?_
                cases h
                exact iRT.ret
              · skip
                rcases iRT.cs h with ⟨hx5, h⟩ | ⟨hx5, h⟩
                · refine iRT.swin hx5 (off := 94) (by decide) (by decide) (by decide) ?_
                  cases h
                  exact iRT.ret
                · skip
                  rcases iRT.cs h with ⟨hx6, h⟩ | ⟨hx6, h⟩
                  · refine iRT.swin hx6 (off := 96) (by decide) (by decide) (by decide) ?_
                    cases h
                    exact iRT.ret
                  · skip
                    rcases iRT.cs h with ⟨hx7, h⟩ | ⟨hx7, h⟩
                    · refine iRT.swin hx7 (off := 98) (by decide) (by decide) (by decide) ?_
                      cases h
                      exact iRT.ret
                    · skip
                      rcases iRT.cs h with ⟨hx8, h⟩ | ⟨hx8, h⟩
                      · refine iRT.swin hx8 (off := 101) (by decide) (by decide) (by decide) ?_
                        replace h := (ick_inv h).2.2
                        cases h
                        exact iRT.ret
                      · skip
                        rcases iRT.cs h with ⟨hx9, h⟩ | ⟨hx9, h⟩
                        · refine iRT.swin hx9 (off := 109) (by decide) (by decide) (by decide) ?_
                          replace h := (ick_inv h).2.2
                          cases h
                          exact iRT.ret
                        · skip
                          rcases iRT.cs h with ⟨hx10, h⟩ | ⟨hx10, h⟩
                          · refine iRT.swin hx10 (off := 117) (by decide) (by decide) (by decide) ?_
                            cases h
                            exact iRT.ret
                          · skip
                            rcases iRT.cs h with ⟨hx11, h⟩ | ⟨hx11, h⟩
                            · refine iRT.swin hx11 (off := 122) (by decide) (by decide) (by decide) ?_
                              cases h
                              exact iRT.ret
                            · skip
                              rcases iRT.cs h with ⟨hx12, h⟩ | ⟨hx12, h⟩
                              · refine iRT.swin hx12 (off := 125) (by decide) (by decide) (by decide) ?_
                                cases h
                                exact iRT.ret
                              · skip
                                refine iRT.swout (by omega) (by decide) ?_
                                cases h
                                exact iRT.ret
    · refine iRT.ov h fun h => ?_
      refine iRT.ck h fun h => ?_
      refine iRT.ite h (fun h => ?_) (fun h => ?_)
      · exact iRT.go 1 (f292_63_at130_ok L N d (fun a0 a1 a2 a3 a4 a5  s o h => ih a0 a1 a2 a3 a4 a5 s o h) _ _ _ _ _ _ _ _ h) (fun _ _ => rfl)
      · exact iRT.go 2 (f292_63_at130_ok L N d (fun a0 a1 a2 a3 a4 a5  s o h => ih a0 a1 a2 a3 a4 a5 s o h) _ _ _ _ _ _ _ _ h) (fun _ _ => rfl)
set_option maxHeartbeats 100000 in
theorem f292_63_at87_ok (L N d : Nat) {r_at18 : Int → Int → Int → Int → Int → Int → gI → Option (Int × gI)} (h_at18 : ∀ x1 x2 x3 x4 x5 x6 s o, r_at18 x1 x2 x3 x4 x5 x6 s = some o → iRR false L (d + 2) kj292 k292_18 [some (vR 63), some (vI x1), some (vI x2), some (vI x3), some (vI x4), some (vI x5), some (vI x6)] [] (s, g_rho) (some (vI o.1), (o.2, g_rho))) (x1 : Int) (x2 : Int) (x3 : Int) (x5 : Int) (x6 : Int) (z0 : Int) (z1 : Int) {u4 : Option iV} (s : gI) {o : Int × gI} (h : f292_at87 N r_at18 x1 x2 x3 x5 x6 z0 z1 s = some o) : iRR false L (d + 2) kj292 k292_87 [some (vR 63), some (vI x1), some (vI x2), some (vI x3), u4, some (vI x5), some (vI x6)] [vI z0, vI z1] (s, g_rho) (some (vI o.1), (o.2, g_rho)) := by
  refine iRR.of 5 ?_
  refine iRT.ov h fun h => ?_
  refine iRT.ov h fun h => ?_
  exact iRT.go 1 (h_at18 _ _ _ _ _ _ _ _ h) (fun _ _ => rfl)
set_option maxHeartbeats 100000 in
theorem f292_63_at65_ok (L N d : Nat) {r_at18 : Int → Int → Int → Int → Int → Int → gI → Option (Int × gI)} (h_at18 : ∀ x1 x2 x3 x4 x5 x6 s o, r_at18 x1 x2 x3 x4 x5 x6 s = some o → iRR false L (d + 2) kj292 k292_18 [some (vR 63), some (vI x1), some (vI x2), some (vI x3), some (vI x4), some (vI x5), some (vI x6)] [] (s, g_rho) (some (vI o.1), (o.2, g_rho))) (x1 : Int) (x2 : Int) (x4 : Int) (x5 : Int) (x6 : Int) (z0 : Int) (z1 : Int) {u3 : Option iV} (s : gI) {o : Int × gI} (h : f292_at65 N r_at18 x1 x2 x4 x5 x6 z0 z1 s = some o) : iRR false L (d + 2) kj292 k292_65 [some (vR 63), some (vI x1), some (vI x2), u3, some (vI x4), some (vI x5), some (vI x6)] [vI z0, vI z1] (s, g_rho) (some (vI o.1), (o.2, g_rho)) := by
  refine iRR.of 12 ?_
  refine iRT.ov h fun h => ?_
  refine iRT.ck h fun h => ?_
  refine iRT.ite h (fun h => ?_) (fun h => ?_)
  · exact iRT.go 1 (f292_63_at87_ok L N d h_at18 _ _ _ _ _ _ _ _ h) (fun _ _ => rfl)
  · exact iRT.go 2 (f292_63_at87_ok L N d h_at18 _ _ _ _ _ _ _ _ h) (fun _ _ => rfl)
set_option maxHeartbeats 100000 in
theorem f292_63_at45_ok (L N d : Nat) {r_at18 : Int → Int → Int → Int → Int → Int → gI → Option (Int × gI)} (h_at18 : ∀ x1 x2 x3 x4 x5 x6 s o, r_at18 x1 x2 x3 x4 x5 x6 s = some o → iRR false L (d + 2) kj292 k292_18 [some (vR 63), some (vI x1), some (vI x2), some (vI x3), some (vI x4), some (vI x5), some (vI x6)] [] (s, g_rho) (some (vI o.1), (o.2, g_rho))) (x1 : Int) (x3 : Int) (x4 : Int) (x5 : Int) (x6 : Int) (z0 : Int) (z1 : Int) {u2 : Option iV} (s : gI) {o : Int × gI} (h : f292_at45 N r_at18 x1 x3 x4 x5 x6 z0 z1 s = some o) : iRR false L (d + 2) kj292 k292_45 [some (vR 63), some (vI x1), u2, some (vI x3), some (vI x4), some (vI x5), some (vI x6)] [vI z0, vI z1] (s, g_rho) (some (vI o.1), (o.2, g_rho)) := by
  refine iRR.of 12 ?_
  refine iRT.ov h fun h => ?_
  refine iRT.ck h fun h => ?_
  refine iRT.ite h (fun h => ?_) (fun h => ?_)
  · exact iRT.go 2 (f292_63_at65_ok L N d h_at18 _ _ _ _ _ _ _ _ h) (fun _ _ => rfl)
  · exact iRT.go 1 (f292_63_at65_ok L N d h_at18 _ _ _ _ _ _ _ _ h) (fun _ _ => rfl)
set_option maxHeartbeats 100000 in
theorem f292_63_at18_ok (L N d : Nat) : ∀ (n : Nat) (x1 : Int) (x2 : Int) (x3 : Int) (x4 : Int) (x5 : Int) (x6 : Int) (s : gI) (o : Int × gI), f292_at18 N n x1 x2 x3 x4 x5 x6 s = some o → iRR false L (d + 2) kj292 k292_18 [some (vR 63), some (vI x1), some (vI x2), some (vI x3), some (vI x4), some (vI x5), some (vI x6)] [] (s, g_rho) (some (vI o.1), (o.2, g_rho)) := by
  intro n
  induction n with
  | zero => intro _ _ _ _ _ _ _ _ h; cases h
  | succ n ih =>
    intro x1 x2 x3 x4 x5 x6 s o h
    refine iRR.of 14 ?_
    obtain ⟨i2, s1, h1, h⟩ := i_o2_inv h
    refine iRT.call (f221_63_ok L N (d + 1)  _ h1) ?_
    refine iRT.ite h (fun h => ?_) (fun h => ?_)
    · exact iRT.go 2 (f292_63_at99_ok L N d N _ _ _ _ _ _ _ _ h) (fun _ _ => rfl)
    · refine iRT.ck h fun h => ?_
      refine iRT.ite h (fun h => ?_) (fun h => ?_)
      · exact iRT.go 1 (f292_63_at45_ok L N d (fun a0 a1 a2 a3 a4 a5  s o h => ih a0 a1 a2 a3 a4 a5 s o h) _ _ _ _ _ _ _ _ h) (fun _ _ => rfl)
      · exact iRT.go 2 (f292_63_at45_ok L N d (fun a0 a1 a2 a3 a4 a5  s o h => ih a0 a1 a2 a3 a4 a5 s o h) _ _ _ _ _ _ _ _ h) (fun _ _ => rfl)
set_option maxHeartbeats 100000 in
theorem f292_63_ok (L N d : Nat) (x1 : Int) (s : gI) {o : Int × gI} (h : f292 N x1 s = some o) : iEE L (d + 3) 292 [vR 63, vI x1] (s, g_rho) (some (vI o.1), (o.2, g_rho)) := by
  refine iEE.of (wr := false) (d := d + 2) (md := gm_292) rfl rfl rfl (iRR.of 14 ?_)
  exact iRT.go 13 (f292_63_at18_ok L N d N _ _ _ _ _ _ _ _ h) (fun _ _ => rfl)

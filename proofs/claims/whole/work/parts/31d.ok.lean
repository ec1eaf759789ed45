-- GutterNineModel.isWord
set_option maxHeartbeats 100000 in
theorem f184_63_ok (L N d : Nat) (x1 : Int) (s : gI) {o : Int × gI} (h : f184 N x1 s = some o) : iEE L (d + 1) 184 [vR 63, vI x1] (s, g_rho) (some (vI o.1), (o.2, g_rho)) := by
  refine iEE.of (wr := false) (d := d + 0) (md := gm_184) rfl rfl rfl (iRR.of 401 ?_)
  refine iRT.ite h (fun h => ?_) (fun h => ?_)
  · refine iRT.ck h fun h => ?_
    refine iRT.ite h (fun h => ?_) (fun h => ?_)
    · refine iRT.ck h fun h => ?_
      refine iRT.ck h fun h => ?_
      refine iRT.ite h (fun h => ?_) (fun h => ?_)
      · replace h := (ib1_inv h).2
        cases h
        exact iRT.ret
      · replace h := (ib1_inv h).2
        cases h
        exact iRT.ret
    · replace h := (ib1_inv h).2
      cases h
      exact iRT.ret
  · replace h := (ib1_inv h).2
    cases h
    exact iRT.ret
-- GutterNineModel.hasWord
set_option maxHeartbeats 100000 in
theorem f187_63_at20_ok (L N d : Nat) (x2 : Int) (z0 : Int) (z1 : Int) {u0 : Option iV} {u1 : Option iV} (s : gI) {o : Int × gI} (h : f187_at20 N x2 z0 z1 s = some o) : iRR false L (d + 1) kj187 k187_20 [u0, u1, some (vI x2)] [vI z0, vI z1, vR 63] (s, g_rho) (some (vI o.1), (o.2, g_rho)) := by
  refine iRR.of 401 ?_
  refine iRT.ov h fun h => ?_
  refine iRT.b1 h fun h => ?_
  cases h
  exact iRT.ret
set_option maxHeartbeats 100000 in
theorem f187_63_ok (L N d : Nat) (x1 : Int) (s : gI) {o : Int × gI} (h : f187 N x1 s = some o) : iEE L (d + 2) 187 [vR 63, vI x1] (s, g_rho) (some (vI o.1), (o.2, g_rho)) := by
  refine iEE.of (wr := false) (d := d + 1) (md := gm_187) rfl rfl rfl (iRR.of 12 ?_)
  obtain ⟨i2, s1, h1, h⟩ := i_o2_inv h
  refine iRT.call (f184_63_ok L N (d + 0) _ _ h1) ?_
  refine iRT.ite h (fun h => ?_) (fun h => ?_)
  · exact iRT.go 1 (f187_63_at20_ok L N d _ _ _ _ h) (fun _ _ => rfl)
  · exact iRT.go 2 (f187_63_at20_ok L N d _ _ _ _ h) (fun _ _ => rfl)
-- GutterNineModel.wrong
set_option maxHeartbeats 100000 in
theorem f182_63_ok (L N d : Nat) (x1 : Int) (s : gI) {o : gI} (h : f182 N x1 s = some o) : iEE L (d + 1) 182 [vR 63, vI x1] (s, g_rho) (none, (o, g_rho)) := by
  refine iEE.of (wr := false) (d := d + 0) (md := gm_182) rfl rfl rfl (iRR.of 401 ?_)
  refine iRT.ite h (fun h => ?_) (fun h => ?_)
  · refine iRT.ck h fun h => ?_
    refine iRT.ov h fun h => ?_
    refine iRT.ov h fun h => ?_
    cases h
    exact iRT.ret
  · cases h
    exact iRT.ret
-- GutterNineModel.takeWord
set_option maxHeartbeats 100000 in
theorem f188_63_ok (L N d : Nat) (x1 : Int) (s : gI) {o : gI} (h : f188 N x1 s = some o) : iEE L (d + 3) 188 [vR 63, vI x1] (s, g_rho) (none, (o, g_rho)) := by
  refine iEE.of (wr := false) (d := d + 2) (md := gm_188) rfl rfl rfl (iRR.of 401 ?_)
  obtain ⟨i2, s1, h1, h⟩ := i_o2_inv h
  refine iRT.call (f187_63_ok L N (d + 0) _ _ h1) ?_
  refine iRT.ite h (fun h => ?_) (fun h => ?_)
  · obtain ⟨s3, h1, h⟩ := i_o1_inv h
    refine iRT.call (f182_63_ok L N (d + 1) _ _ h1) ?_
    cases h
    exact iRT.ret
  · cases h
    exact iRT.ret
-- GutterNineModel.takeNumber
set_option maxHeartbeats 100000 in
theorem f190_63_at70_ok (L N d : Nat) {u1 : Option iV} {u2 : Option iV} (s : gI) {o : Int × gI} (h : f190_at70 N  s = some o) : iRR false L (d + 1) kj190 k190_70 [some (vR 63), u1, u2] [] (s, g_rho) (some (vI o.1), (o.2, g_rho)) := by
  refine iRR.of 401 ?_
  refine iRT.ite h (fun h => ?_) (fun h => ?_)
  · refine iRT.ov h fun h => ?_
    refine iRT.ov h fun h => ?_
    refine iRT.ck h fun h => ?_
    cases h
    exact iRT.ret
  · cases h
    exact iRT.ret
set_option maxHeartbeats 100000 in
theorem f190_63_at65_ok (L N d : Nat) {u1 : Option iV} {u2 : Option iV} (s : gI) {o : Int × gI} (h : f190_at65 N  s = some o) : iRR false L (d + 1) kj190 k190_65 [some (vR 63), u1, u2] [] (s, g_rho) (some (vI o.1), (o.2, g_rho)) := by
  refine iRR.of 4 ?_
  obtain ⟨s1, h1, h⟩ := i_o1_inv h
  refine iRT.call (f182_63_ok L N (d + 0) _ _ h1) ?_
  exact iRT.go 0 (f190_63_at70_ok L N d  _ h) (fun _ _ => rfl)
set_option maxHeartbeats 100000 in
theorem f190_63_at28_ok (L N d : Nat) (x1 : Int) (x2 : Int) (s : gI) {o : Int × gI} (h : f190_at28 N x1 x2 s = some o) : iRR false L (d + 1) kj190 k190_28 [some (vR 63), some (vI x1), some (vI x2)] [] (s, g_rho) (some (vI o.1), (o.2, g_rho)) := by
  refine iRR.of 22 ?_
  refine iRT.ite h (fun h => ?_) (fun h => ?_)
  · refine iRT.ck h fun h => ?_
    refine iRT.ite h (fun h => ?_) (fun h => ?_)
    · exact iRT.go 0 (f190_63_at65_ok L N d  _ h) (fun _ _ => rfl)
    · refine iRT.ck h fun h => ?_
      refine iRT.ite h (fun h => ?_) (fun h => ?_)
      · exact iRT.go 0 (f190_63_at70_ok L N d  _ h) (fun _ _ => rfl)
      · exact iRT.go 0 (f190_63_at65_ok L N d  _ h) (fun _ _ => rfl)
  · exact iRT.go 0 (f190_63_at70_ok L N d  _ h) (fun _ _ => rfl)
set_option maxHeartbeats 100000 in
theorem f190_63_ok (L N d : Nat) (x1 : Int) (x2 : Int) (s : gI) {o : Int × gI} (h : f190 N x1 x2 s = some o) : iEE L (d + 2) 190 [vR 63, vI x1, vI x2] (s, g_rho) (some (vI o.1), (o.2, g_rho)) := by
  refine iEE.of (wr := false) (d := d + 1) (md := gm_190) rfl rfl rfl (iRR.of 15 ?_)
  refine iRT.ite h (fun h => ?_) (fun h => ?_)
  · refine iRT.ck h fun h => ?_
    refine iRT.ite h (fun h => ?_) (fun h => ?_)
    · exact iRT.go 0 (f190_63_at28_ok L N d _ _ _ h) (fun _ _ => rfl)
    · obtain ⟨s1, h1, h⟩ := i_o1_inv h
      refine iRT.call (f182_63_ok L N (d + 0) _ _ h1) ?_
      exact iRT.go 1 (f190_63_at70_ok L N d  _ h) (fun _ _ => rfl)
  · exact iRT.go 0 (f190_63_at28_ok L N d _ _ _ h) (fun _ _ => rfl)
-- GutterNineModel.isSign
set_option maxHeartbeats 100000 in
theorem f183_63_ok (L N d : Nat) (x1 : Int) (s : gI) {o : Int × gI} (h : f183 N x1 s = some o) : iEE L (d + 1) 183 [vR 63, vI x1] (s, g_rho) (some (vI o.1), (o.2, g_rho)) := by
  refine iEE.of (wr := false) (d := d + 0) (md := gm_183) rfl rfl rfl (iRR.of 401 ?_)
  refine iRT.ite h (fun h => ?_) (fun h => ?_)
  · refine iRT.ck h fun h => ?_
    refine iRT.ite h (fun h => ?_) (fun h => ?_)
    · refine iRT.ck h fun h => ?_
      refine iRT.ite h (fun h => ?_) (fun h => ?_)
      · replace h := (ib1_inv h).2
        cases h
        exact iRT.ret
      · replace h := (ib1_inv h).2
        cases h
        exact iRT.ret
    · replace h := (ib1_inv h).2
      cases h
      exact iRT.ret
  · replace h := (ib1_inv h).2
    cases h
    exact iRT.ret
-- GutterNineModel.takeSign
set_option maxHeartbeats 100000 in
theorem f185_63_ok (L N d : Nat) (x1 : Int) (s : gI) {o : gI} (h : f185 N x1 s = some o) : iEE L (d + 2) 185 [vR 63, vI x1] (s, g_rho) (none, (o, g_rho)) := by
  refine iEE.of (wr := false) (d := d + 1) (md := gm_185) rfl rfl rfl (iRR.of 401 ?_)
  obtain ⟨i2, s1, h1, h⟩ := i_o2_inv h
  refine iRT.call (f183_63_ok L N (d + 0) _ _ h1) ?_
  refine iRT.ite h (fun h => ?_) (fun h => ?_)
  · obtain ⟨s3, h1, h⟩ := i_o1_inv h
    refine iRT.call (f182_63_ok L N (d + 0) _ _ h1) ?_
    cases h
    exact iRT.ret
  · refine iRT.ov h fun h => ?_
    cases h
    exact iRT.ret
-- GutterNineModel.begins
set_option maxHeartbeats 100000 in
theorem f216_63_at66_ok (L N d : Nat) : ∀ (n : Nat) (x1 : Int) (s : gI) (o : gI), f216_at66 N n x1 s = some o → iRR false L (d + 0) kj216 k216_66 [some (vR 63), some (vI x1)] [] (s, g_rho) (none, (o, g_rho)) := by
  intro n
  induction n with
  | zero => intro _ _ _ h; cases h
  | succ n ih =>
    intro x1 s o h
    refine iRR.of 401 ?_
    refine iRT.ite h (fun h => ?_) (fun h => ?_)
    · cases h
      exact iRT.ret
    · refine iRT.ck h fun h => ?_
      refine iRT.b1 h fun h => ?_
      refine iRT.ov h fun h => ?_
      exact iRT.go 1 (ih _ _ _ h) (fun _ _ => rfl)
set_option maxHeartbeats 100000 in
theorem f216_63_at2_ok (L N d : Nat) : ∀ (n : Nat) (x1 : Int) (s : gI) (o : gI), f216_at2 N n x1 s = some o → iRR false L (d + 0) kj216 k216_2 [some (vR 63), some (vI x1)] [] (s, g_rho) (none, (o, g_rho)) := by
  intro n
  induction n with
  | zero => intro _ _ _ h; cases h
  | succ n ih =>
    intro x1 s o h
    refine iRR.of 25 ?_
    refine iRT.ite h (fun h => ?_) (fun h => ?_)
    · replace h := (ick_inv h).2.2
      replace h := (ick_inv h).2.2
      exact iRT.go 15 (f216_63_at66_ok L N d N _ _ _ h) (fun _ _ => rfl)
    · refine iRT.ck h fun h => ?_
      refine iRT.ov h fun h => ?_
      refine iRT.ck h fun h => ?_
      refine iRT.ov h fun h => ?_
      refine iRT.ck h fun h => ?_
      refine iRT.ov h fun h => ?_
      exact iRT.go 1 (ih _ _ _ h) (fun _ _ => rfl)
set_option maxHeartbeats 100000 in
theorem f216_63_ok (L N d : Nat) (s : gI) {o : gI} (h : f216 N  s = some o) : iEE L (d + 1) 216 [vR 63] (s, g_rho) (none, (o, g_rho)) := by
  refine iEE.of (wr := false) (d := d + 0) (md := gm_216) rfl rfl rfl (iRR.of 3 ?_)
  exact iRT.go 2 (f216_63_at2_ok L N d N _ _ _ h) (fun _ _ => rfl)
-- GutterNineModel.tileOf
set_option maxHeartbeats 100000 in
theorem f193_63_at4_ok (L N d : Nat) : ∀ (n : Nat) (x1 : Int) (x2 : Int) (x3 : Int) (s : gI) (o : Int × gI), f193_at4 N n x1 x2 x3 s = some o → iRR false L (d + 0) kj193 k193_4 [some (vR 63), some (vI x1), some (vI x2), some (vI x3)] [] (s, g_rho) (some (vI o.1), (o.2, g_rho)) := by
  intro n
  induction n with
  | zero => intro _ _ _ _ _ h; cases h
  | succ n ih =>
    intro x1 x2 x3 s o h
    refine iRR.of 401 ?_
    refine iRT.ite h (fun h => ?_) (fun h => ?_)
    · cases h
      exact iRT.ret
    · refine iRT.ck h fun h => ?_
      refine iRT.ite h (fun h => ?_) (fun h => ?_)
      · refine iRT.ov h fun h => ?_
        exact iRT.go 1 (ih _ _ _ _ _ h) (fun _ _ => rfl)
      · refine iRT.ov h fun h => ?_
        exact iRT.go 1 (ih _ _ _ _ _ h) (fun _ _ => rfl)
set_option maxHeartbeats 100000 in
theorem f193_63_ok (L N d : Nat) (x1 : Int) (s : gI) {o : Int × gI} (h : f193 N x1 s = some o) : iEE L (d + 1) 193 [vR 63, vI x1] (s, g_rho) (some (vI o.1), (o.2, g_rho)) := by
  refine iEE.of (wr := false) (d := d + 0) (md := gm_193) rfl rfl rfl (iRR.of 5 ?_)
  exact iRT.go 4 (f193_63_at4_ok L N d N _ _ _ _ _ h) (fun _ _ => rfl)
-- GutterNineModel.takeRow
set_option maxHeartbeats 100000 in
theorem f194_63_at147_ok (L N d : Nat) {u1 : Option iV} {u2 : Option iV} {u3 : Option iV} {u4 : Option iV} {u5 : Option iV} {u6 : Option iV} {u7 : Option iV} (s : gI) {o : gI} (h : f194_at147 N  s = some o) : iRR false L (d + 1) kj194 k194_147 [some (vR 63), u1, u2, u3, u4, u5, u6, u7] [] (s, g_rho) (none, (o, g_rho)) := by
  refine iRR.of 401 ?_
  refine iRT.ite h (fun h => ?_) (fun h => ?_)
  · refine iRT.ov h fun h => ?_
    cases h
    exact iRT.ret
  · refine iRT.ov h fun h => ?_
    cases h
    exact iRT.ret
set_option maxHeartbeats 100000 in
theorem f194_63_at142_ok (L N d : Nat) {u1 : Option iV} {u2 : Option iV} {u3 : Option iV} {u4 : Option iV} {u5 : Option iV} {u6 : Option iV} {u7 : Option iV} (s : gI) {o : gI} (h : f194_at142 N  s = some o) : iRR false L (d + 1) kj194 k194_142 [some (vR 63), u1, u2, u3, u4, u5, u6, u7] [] (s, g_rho) (none, (o, g_rho)) := by
  refine iRR.of 4 ?_
  obtain ⟨s1, h1, h⟩ := i_o1_inv h
  refine iRT.call (f182_63_ok L N (d + 0) _ _ h1) ?_
  exact iRT.go 0 (f194_63_at147_ok L N d  _ h) (fun _ _ => rfl)
set_option maxHeartbeats 100000 in
theorem f194_63_at100_ok (L N d : Nat) {r_at59 : Int → Int → Int → Int → gI → Option (gI)} (h_at59 : ∀ x1 y3 x5 x6 u2 u7 s o, r_at59 x1 y3 x5 x6 s = some o → iRR false L (d + 1) kj194 k194_59 [some (vR 63), some (vI x1), u2, some (vJ y3), none, some (vI x5), some (vI x6), u7] [] (s, g_rho) (none, (o, g_rho))) (x1 : Int) (y3 : Int) (x6 : Int) (x7 : Int) (z0 : Int) {u2 : Option iV} {u5 : Option iV} (s : gI) {o : gI} (h : f194_at100 N r_at59 x1 y3 x6 x7 z0 s = some o) : iRR false L (d + 1) kj194 k194_100 [some (vR 63), some (vI x1), u2, some (vJ y3), none, u5, some (vI x6), some (vI x7)] [vI z0] (s, g_rho) (none, (o, g_rho)) := by
  refine iRR.of 19 ?_
  refine iRT.ov h fun h => ?_
  refine iRT.ov h fun h => ?_
  refine iRT.ov h fun h => ?_
  refine iRT.ck h fun h => ?_
  refine iRT.dv h fun h => ?_
  refine iRT.ov h fun h => ?_
  exact iRT.go 1 (h_at59 _ _ _ _ _ _ _ _ h) (fun _ _ => rfl)
set_option maxHeartbeats 100000 in
theorem f194_63_at99_ok (L N d : Nat) {r_at59 : Int → Int → Int → Int → gI → Option (gI)} (h_at59 : ∀ x1 y3 x5 x6 u2 u7 s o, r_at59 x1 y3 x5 x6 s = some o → iRR false L (d + 1) kj194 k194_59 [some (vR 63), some (vI x1), u2, some (vJ y3), none, some (vI x5), some (vI x6), u7] [] (s, g_rho) (none, (o, g_rho))) (x1 : Int) (y3 : Int) (x6 : Int) (x7 : Int) {u2 : Option iV} {u5 : Option iV} (s : gI) {o : gI} (h : f194_at99 N r_at59 x1 y3 x6 x7 s = some o) : iRR false L (d + 1) kj194 k194_99 [some (vR 63), some (vI x1), u2, some (vJ y3), none, u5, some (vI x6), some (vI x7)] [] (s, g_rho) (none, (o, g_rho)) := by
  refine iRR.of 2 ?_
  exact iRT.go 1 (f194_63_at100_ok L N d h_at59 _ _ _ _ _ _ h) (fun _ _ => rfl)
set_option maxHeartbeats 100000 in
theorem f194_63_at59_ok (L N d : Nat) : ∀ (n : Nat) (x1 : Int) (y3 : Int) (x5 : Int) (x6 : Int) {u2 u7 : Option iV} (s : gI) (o : gI), f194_at59 N n x1 y3 x5 x6 s = some o → iRR false L (d + 1) kj194 k194_59 [some (vR 63), some (vI x1), u2, some (vJ y3), none, some (vI x5), some (vI x6), u7] [] (s, g_rho) (none, (o, g_rho)) := by
  intro n
  induction n with
  | zero => intro _ _ _ _ _ _ _ _ h; cases h
  | succ n ih =>
    intro x1 y3 x5 x6 u2 u7 s o h
    refine iRR.of 22 ?_
    refine iRT.ite h (fun h => ?_) (fun h => ?_)
    · refine iRT.ite h (fun h => ?_) (fun h => ?_)
      · exact iRT.go 0 (f194_63_at142_ok L N d  _ h) (fun _ _ => rfl)
      · refine iRT.ite h (fun h => ?_) (fun h => ?_)
        · exact iRT.go 0 (f194_63_at147_ok L N d  _ h) (fun _ _ => rfl)
        · exact iRT.go 0 (f194_63_at142_ok L N d  _ h) (fun _ _ => rfl)
    · refine iRT.dv h fun h => ?_
      refine iRT.ov h fun h => ?_
      obtain ⟨i2, s1, h1, h⟩ := i_o2_inv h
      refine iRT.call (f193_63_ok L N (d + 0) _ _ h1) ?_
      refine iRT.ite h (fun h => ?_) (fun h => ?_)
      · exact iRT.go 0 (f194_63_at99_ok L N d (fun a0 a1 a2 a3 b0 b1 s o h => ih a0 a1 a2 a3 s o h) _ _ _ _ _ h) (fun _ _ => rfl)
      · refine iRT.ite h (fun h => ?_) (fun h => ?_)
        · exact iRT.go 0 (f194_63_at99_ok L N d (fun a0 a1 a2 a3 b0 b1 s o h => ih a0 a1 a2 a3 s o h) _ _ _ _ _ h) (fun _ _ => rfl)
        · refine iRT.ite h (fun h => ?_) (fun h => ?_)
          · exact iRT.go 0 (f194_63_at99_ok L N d (fun a0 a1 a2 a3 b0 b1 s o h => ih a0 a1 a2 a3 s o h) _ _ _ _ _ h) (fun _ _ => rfl)
          · exact iRT.go 2 (f194_63_at100_ok L N d (fun a0 a1 a2 a3 b0 b1 s o h => ih a0 a1 a2 a3 s o h) _ _ _ _ _ _ h) (fun _ _ => rfl)
set_option maxHeartbeats 100000 in
theorem f194_63_at25_ok (L N d : Nat) (x1 : Int) {u2 : Option iV} {u3 : Option iV} {u4 : Option iV} {u5 : Option iV} {u6 : Option iV} {u7 : Option iV} (s : gI) {o : gI} (h : f194_at25 N x1 s = some o) : iRR false L (d + 1) kj194 k194_25 [some (vR 63), some (vI x1), u2, u3, u4, u5, u6, u7] [] (s, g_rho) (none, (o, g_rho)) := by
  refine iRR.of 401 ?_
  refine iRT.ite h (fun h => ?_) (fun h => ?_)
  · replace h := (ick_inv h).2.2
    refine iRT.ck h fun h => ?_
    refine iRT.ov h fun h => ?_
    exact iRT.go 1 (f194_63_at59_ok L N d N _ _ _ _ _ _ h) (fun _ _ => rfl)
  · cases h
    exact iRT.ret
set_option maxHeartbeats 100000 in
theorem f194_63_ok (L N d : Nat) (x1 : Int) (s : gI) {o : gI} (h : f194 N x1 s = some o) : iEE L (d + 2) 194 [vR 63, vI x1] (s, g_rho) (none, (o, g_rho)) := by
  refine iEE.of (wr := false) (d := d + 1) (md := gm_194) rfl rfl rfl (iRR.of 14 ?_)
  refine iRT.ite h (fun h => ?_) (fun h => ?_)
  · refine iRT.ck h fun h => ?_
    refine iRT.ite h (fun h => ?_) (fun h => ?_)
    · exact iRT.go 0 (f194_63_at25_ok L N d _ _ h) (fun _ _ => rfl)
    · obtain ⟨s1, h1, h⟩ := i_o1_inv h
      refine iRT.call (f182_63_ok L N (d + 0) _ _ h1) ?_
      exact iRT.go 0 (f194_63_at25_ok L N d _ _ h) (fun _ _ => rfl)
  · exact iRT.go 0 (f194_63_at25_ok L N d _ _ h) (fun _ _ => rfl)
-- GutterNineModel.roof
set_option maxHeartbeats 100000 in
theorem f195_63_at167_ok (L N d : Nat) : ∀ (n : Nat) (x1 : Int) (s : gI) (o : Int × gI), f195_at167 N n x1 s = some o → iRR false L (d + 3) kj195 k195_167 [some (vR 63), some (vI x1)] [] (s, g_rho) (some (vI o.1), (o.2, g_rho)) := by
  intro n
  induction n with
  | zero => intro _ _ _ h; cases h
  | succ n ih =>
    intro x1 s o h
    refine iRR.of 401 ?_
    refine iRT.ite h (fun h => ?_) (fun h => ?_)
    · obtain ⟨s1, h1, h⟩ := i_o1_inv h
      refine iRT.call (f216_63_ok L N (d + 2)  _ h1) ?_
      cases h
      exact iRT.ret
    · refine iRT.ov h fun h => ?_
      refine iRT.ck h fun h => ?_
      refine iRT.ck h fun h => ?_
      refine iRT.ov h fun h => ?_
      exact iRT.go 1 (ih _ _ _ h) (fun _ _ => rfl)
set_option maxHeartbeats 100000 in
theorem f195_63_at153_ok (L N d : Nat) {u1 : Option iV} (s : gI) {o : Int × gI} (h : f195_at153 N  s = some o) : iRR false L (d + 3) kj195 k195_153 [some (vR 63), u1] [] (s, g_rho) (some (vI o.1), (o.2, g_rho)) := by
  refine iRR.of 401 ?_
  refine iRT.ite h (fun h => ?_) (fun h => ?_)
  · exact iRT.go 2 (f195_63_at167_ok L N d N _ _ _ h) (fun _ _ => rfl)
  · cases h
    exact iRT.ret
set_option maxHeartbeats 100000 in
theorem f195_63_at150_ok (L N d : Nat) (z0 : Int) {u1 : Option iV} (s : gI) {o : Int × gI} (h : f195_at150 N z0 s = some o) : iRR false L (d + 3) kj195 k195_150 [some (vR 63), u1] [vI z0, vR 63] (s, g_rho) (some (vI o.1), (o.2, g_rho)) := by
  refine iRR.of 2 ?_
  obtain ⟨s1, h1, h⟩ := i_o1_inv h
  refine iRT.call (f182_63_ok L N (d + 2) _ _ h1) ?_
  exact iRT.go 0 (f195_63_at153_ok L N d  _ h) (fun _ _ => rfl)
set_option maxHeartbeats 100000 in
theorem f195_63_at116_ok (L N d : Nat) {u1 : Option iV} (s : gI) {o : Int × gI} (h : f195_at116 N  s = some o) : iRR false L (d + 3) kj195 k195_116 [some (vR 63), u1] [] (s, g_rho) (some (vI o.1), (o.2, g_rho)) := by
  refine iRR.of 17 ?_
  refine iRT.ite h (fun h => ?_) (fun h => ?_)
  · refine iRT.ck h fun h => ?_
    refine iRT.ite h (fun h => ?_) (fun h => ?_)
    · exact iRT.go 0 (f195_63_at153_ok L N d  _ h) (fun _ _ => rfl)
    · obtain ⟨i2, s1, h1, h⟩ := i_o2_inv h
      refine iRT.call (f184_63_ok L N (d + 2) _ _ h1) ?_
      refine iRT.ite h (fun h => ?_) (fun h => ?_)
      · exact iRT.go 1 (f195_63_at150_ok L N d _ _ h) (fun _ _ => rfl)
      · exact iRT.go 2 (f195_63_at150_ok L N d _ _ h) (fun _ _ => rfl)
  · exact iRT.go 0 (f195_63_at153_ok L N d  _ h) (fun _ _ => rfl)
set_option maxHeartbeats 100000 in
theorem f195_63_at75_ok (L N d : Nat) : ∀ (n : Nat) (x1 : Int) (s : gI) (o : Int × gI), f195_at75 N n x1 s = some o → iRR false L (d + 3) kj195 k195_75 [some (vR 63), some (vI x1)] [] (s, g_rho) (some (vI o.1), (o.2, g_rho)) := by
  intro n
  induction n with
  | zero => intro _ _ _ h; cases h
  | succ n ih =>
    intro x1 s o h
    refine iRR.of 21 ?_
    replace h := (ick_inv h).2.2
    refine iRT.ite h (fun h => ?_) (fun h => ?_)
    · exact iRT.go 0 (f195_63_at116_ok L N d  _ h) (fun _ _ => rfl)
    · refine iRT.ite h (fun h => ?_) (fun h => ?_)
      · obtain ⟨s1, h1, h⟩ := i_o1_inv h
        refine iRT.call (f188_63_ok L N (d + 0) _ _ h1) ?_
        obtain ⟨s2, h1, h⟩ := i_o1_inv h
        refine iRT.call (f194_63_ok L N (d + 1) _ _ h1) ?_
        obtain ⟨s3, h1, h⟩ := i_o1_inv h
        refine iRT.call (f185_63_ok L N (d + 1) _ _ h1) ?_
        refine iRT.ov h fun h => ?_
        exact iRT.go 1 (ih _ _ _ h) (fun _ _ => rfl)
      · exact iRT.go 0 (f195_63_at116_ok L N d  _ h) (fun _ _ => rfl)
set_option maxHeartbeats 100000 in
theorem f195_63_at11_ok (L N d : Nat) : ∀ (n : Nat) (x1 : Int) (s : gI) (o : Int × gI), f195_at11 N n x1 s = some o → iRR false L (d + 3) kj195 k195_11 [some (vR 63), some (vI x1)] [] (s, g_rho) (some (vI o.1), (o.2, g_rho)) := by
  intro n
  induction n with
  | zero => intro _ _ _ h; cases h
  | succ n ih =>
    intro x1 s o h
    refine iRR.of 28 ?_
    refine iRT.ite h (fun h => ?_) (fun h => ?_)
    · obtain ⟨s1, h1, h⟩ := i_o1_inv h
      refine iRT.call (f188_63_ok L N (d + 0) _ _ h1) ?_
      obtain ⟨i3, s2, h1, h⟩ := i_o2_inv h
      refine iRT.call (f190_63_ok L N (d + 1) _ _ _ h1) ?_
      replace h := (ick_inv h).2.2
      obtain ⟨i6, s5, h1, h⟩ := i_o2_inv h
      refine iRT.call (f190_63_ok L N (d + 1) _ _ _ h1) ?_
      replace h := (ick_inv h).2.2
      obtain ⟨s8, h1, h⟩ := i_o1_inv h
      refine iRT.call (f185_63_ok L N (d + 1) _ _ h1) ?_
      exact iRT.go 2 (f195_63_at75_ok L N d N _ _ _ h) (fun _ _ => rfl)
    · refine iRT.ov h fun h => ?_
      refine iRT.ck h fun h => ?_
      refine iRT.ov h fun h => ?_
      exact iRT.go 1 (ih _ _ _ h) (fun _ _ => rfl)
set_option maxHeartbeats 100000 in
theorem f195_63_ok (L N d : Nat) (s : gI) {o : Int × gI} (h : f195 N  s = some o) : iEE L (d + 4) 195 [vR 63] (s, g_rho) (some (vI o.1), (o.2, g_rho)) := by
  refine iEE.of (wr := false) (d := d + 3) (md := gm_195) rfl rfl rfl (iRR.of 8 ?_)
  delta f195 at h
  obtain ⟨s2, h1, h⟩ := i_o1_inv h
  refine iRT.call (f181_63_ok L N (d + 0)  _ h1) ?_
  exact iRT.go 2 (f195_63_at11_ok L N d N _ _ _ h) (fun _ _ => rfl)
-- GutterNineModel.standsAsAlways
set_option maxHeartbeats 100000 in
theorem f196_63_at2_ok (L N d : Nat) : ∀ (n : Nat) (x1 : Int) (x2 : Int) (s : gI) (o : gI), f196_at2 N n x1 x2 s = some o → iRR false L (d + 0) kj196 k196_2 [some (vR 63), some (vI x1), some (vI x2)] [] (s, g_rho) (none, (o, g_rho)) := by
  intro n
  induction n with
  | zero => intro _ _ _ _ h; cases h
  | succ n ih =>
    intro x1 x2 s o h
    refine iRR.of 401 ?_
    refine iRT.ite h (fun h => ?_) (fun h => ?_)
    · refine iRT.ov h fun h => ?_
      refine iRT.ck h fun h => ?_
      refine iRT.ov h fun h => ?_
      refine iRT.ck h fun h => ?_
      refine iRT.ov h fun h => ?_
      refine iRT.ck h fun h => ?_
      refine iRT.ov h fun h => ?_
      refine iRT.ov h fun h => ?_
      refine iRT.ck h fun h => ?_
      cases h
      exact iRT.ret
    · refine iRT.ov h fun h => ?_
      refine iRT.ck h fun h => ?_
      refine iRT.ov h fun h => ?_
      exact iRT.go 1 (ih _ _ _ _ h) (fun _ _ => rfl)
set_option maxHeartbeats 100000 in
theorem f196_63_ok (L N d : Nat) (x1 : Int) (s : gI) {o : gI} (h : f196 N x1 s = some o) : iEE L (d + 1) 196 [vR 63, vI x1] (s, g_rho) (none, (o, g_rho)) := by
  refine iEE.of (wr := false) (d := d + 0) (md := gm_196) rfl rfl rfl (iRR.of 3 ?_)
  exact iRT.go 2 (f196_63_at2_ok L N d N _ _ _ _ h) (fun _ _ => rfl)
-- GutterNineModel.wordHere
set_option maxHeartbeats 100000 in
theorem f192_63_at5_ok (L N d : Nat) : ∀ (n : Nat) (x1 : Int) (x2 : Int) (x3 : Int) (x4 : Int) (s : gI) (o : Int × gI), f192_at5 N n x1 x2 x3 x4 s = some o → iRR false L (d + 1) kj192 k192_5 [some (vR 63), some (vI x1), some (vI x2), some (vI x3), some (vI x4)] [] (s, g_rho) (some (vI o.1), (o.2, g_rho)) := by
  intro n
  induction n with
  | zero => intro _ _ _ _ _ _ h; cases h
  | succ n ih =>
    intro x1 x2 x3 x4 s o h
    refine iRR.of 401 ?_
    refine iRT.ite h (fun h => ?_) (fun h => ?_)
    · cases h
      exact iRT.ret
    · refine iRT.ov h fun h => ?_
      obtain ⟨i2, s1, h1, h⟩ := i_o2_inv h
      refine iRT.call (f184_63_ok L N (d + 0) _ _ h1) ?_
      refine iRT.ite h (fun h => ?_) (fun h => ?_)
      · refine iRT.ov h fun h => ?_
        exact iRT.go 1 (ih _ _ _ _ _ _ h) (fun _ _ => rfl)
      · refine iRT.ov h fun h => ?_
        exact iRT.go 1 (ih _ _ _ _ _ _ h) (fun _ _ => rfl)
set_option maxHeartbeats 100000 in
theorem f192_63_ok (L N d : Nat) (x1 : Int) (x2 : Int) (s : gI) {o : Int × gI} (h : f192 N x1 x2 s = some o) : iEE L (d + 2) 192 [vR 63, vI x1, vI x2] (s, g_rho) (some (vI o.1), (o.2, g_rho)) := by
  refine iEE.of (wr := false) (d := d + 1) (md := gm_192) rfl rfl rfl (iRR.of 5 ?_)
  exact iRT.go 4 (f192_63_at5_ok L N d N _ _ _ _ _ _ h) (fun _ _ => rfl)
-- GutterNineModel.isOnce
set_option maxHeartbeats 100000 in
theorem f200_63_at46_ok (L N d : Nat) (z0 : Int) (z1 : Int) {u1 : Option iV} (s : gI) {o : Int × gI} (h : f200_at46 N z0 z1 s = some o) : iRR false L (d + 1) kj200 k200_46 [some (vR 63), u1] [vI z0, vI z1, vR 63] (s, g_rho) (some (vI o.1), (o.2, g_rho)) := by
  refine iRR.of 401 ?_
  refine iRT.ov h fun h => ?_
  refine iRT.ite h (fun h => ?_) (fun h => ?_)
  · replace h := (ib1_inv h).2
    cases h
    exact iRT.ret
  · replace h := (ib1_inv h).2
    cases h
    exact iRT.ret
set_option maxHeartbeats 100000 in
theorem f200_63_at17_ok (L N d : Nat) (x1 : Int) (s : gI) {o : Int × gI} (h : f200_at17 N x1 s = some o) : iRR false L (d + 1) kj200 k200_17 [some (vR 63), some (vI x1)] [] (s, g_rho) (some (vI o.1), (o.2, g_rho)) := by
  refine iRR.of 17 ?_
  refine iRT.ite h (fun h => ?_) (fun h => ?_)
  · exact iRT.go 1 (f200_63_at46_ok L N d _ _ _ h) (fun _ _ => rfl)
  · exact iRT.go 2 (f200_63_at46_ok L N d _ _ _ h) (fun _ _ => rfl)
set_option maxHeartbeats 100000 in
theorem f200_63_ok (L N d : Nat) (x1 : Int) (s : gI) {o : Int × gI} (h : f200 N x1 s = some o) : iEE L (d + 2) 200 [vR 63, vI x1] (s, g_rho) (some (vI o.1), (o.2, g_rho)) := by
  refine iEE.of (wr := false) (d := d + 1) (md := gm_200) rfl rfl rfl (iRR.of 12 ?_)
  refine iRT.ite h (fun h => ?_) (fun h => ?_)
  · obtain ⟨s1, h1, h⟩ := i_o1_inv h
    refine iRT.call (f182_63_ok L N (d + 0) _ _ h1) ?_
    exact iRT.go 0 (f200_63_at17_ok L N d _ _ h) (fun _ _ => rfl)
  · exact iRT.go 0 (f200_63_at17_ok L N d _ _ h) (fun _ _ => rfl)
-- GutterNineModel.hasSign
set_option maxHeartbeats 100000 in
theorem f186_63_at20_ok (L N d : Nat) (x2 : Int) (z0 : Int) (z1 : Int) {u0 : Option iV} {u1 : Option iV} (s : gI) {o : Int × gI} (h : f186_at20 N x2 z0 z1 s = some o) : iRR false L (d + 1) kj186 k186_20 [u0, u1, some (vI x2)] [vI z0, vI z1, vR 63] (s, g_rho) (some (vI o.1), (o.2, g_rho)) := by
  refine iRR.of 401 ?_
  refine iRT.ov h fun h => ?_
  refine iRT.b1 h fun h => ?_
  cases h
  exact iRT.ret
set_option maxHeartbeats 100000 in
theorem f186_63_ok (L N d : Nat) (x1 : Int) (s : gI) {o : Int × gI} (h : f186 N x1 s = some o) : iEE L (d + 2) 186 [vR 63, vI x1] (s, g_rho) (some (vI o.1), (o.2, g_rho)) := by
  refine iEE.of (wr := false) (d := d + 1) (md := gm_186) rfl rfl rfl (iRR.of 12 ?_)
  obtain ⟨i2, s1, h1, h⟩ := i_o2_inv h
  refine iRT.call (f183_63_ok L N (d + 0) _ _ h1) ?_
  refine iRT.ite h (fun h => ?_) (fun h => ?_)
  · exact iRT.go 1 (f186_63_at20_ok L N d _ _ _ _ h) (fun _ _ => rfl)
  · exact iRT.go 2 (f186_63_at20_ok L N d _ _ _ _ h) (fun _ _ => rfl)
-- GutterNineModel.emit
set_option maxHeartbeats 100000 in
theorem f207_63_ok (L N d : Nat) (x1 : Int) (x2 : Int) (s : gI) {o : gI} (h : f207 N x1 x2 s = some o) : iEE L (d + 1) 207 [vR 63, vI x1, vI x2] (s, g_rho) (none, (o, g_rho)) := by
  refine iEE.of (wr := false) (d := d + 0) (md := gm_207) rfl rfl rfl (iRR.of 401 ?_)
  refine iRT.ov h fun h => ?_
  refine iRT.ck h fun h => ?_
  refine iRT.ov h fun h => ?_
  refine iRT.ck h fun h => ?_
  refine iRT.ov h fun h => ?_
  cases h
  exact iRT.ret
-- GutterNineModel.products
set_option maxHeartbeats 100000 in
theorem f211_63_at5_ok (L N T d : Nat) {tp : Int → gI → Option gI} (htp : ∀ (d : Nat) (x : Int) (s : gI) (o : gI), tp x s = some o → iEE L (d + T + 10) 212 [vR 63, vI x] (s, g_rho) (none, o, g_rho)) : ∀ (n : Nat) (x1 : Int) (s : gI) (o : gI), f211_at5 N tp n x1 s = some o → iRR false L (d + T + 10) kj211 k211_5 [some (vR 63), some (vI x1)] [] (s, g_rho) (none, (o, g_rho)) := by
  intro n
  induction n with
  | zero => intro _ _ _ h; cases h
  | succ n ih =>
    intro x1 s o h
    refine iRR.of 401 ?_
    obtain ⟨i2, s1, h1, h⟩ := i_o2_inv h
    refine iRT.call (f186_63_ok L N (d + T + 8) _ _ h1) ?_
    refine iRT.ite h (fun h => ?_) (fun h => ?_)
    · cases h
      exact iRT.ret
    · obtain ⟨s3, h1, h⟩ := i_o1_inv h
      refine iRT.call (iEE.dep (by omega) (htp (d + 0) _ _ _ h1)) ?_
      obtain ⟨s4, h1, h⟩ := i_o1_inv h
      refine iRT.call (f207_63_ok L N (d + T + 9) _ _ _ h1) ?_
      exact iRT.go 1 (ih _ _ _ h) (fun _ _ => rfl)
set_option maxHeartbeats 100000 in
theorem f211_63_ok (L N T d : Nat) {tp : Int → gI → Option gI} (htp : ∀ (d : Nat) (x : Int) (s : gI) (o : gI), tp x s = some o → iEE L (d + T + 10) 212 [vR 63, vI x] (s, g_rho) (none, o, g_rho)) (x1 : Int) (s : gI) {o : gI} (h : f211 N tp x1 s = some o) : iEE L (d + T + 11) 211 [vR 63, vI x1] (s, g_rho) (none, (o, g_rho)) := by
  refine iEE.of (wr := false) (d := d + T + 10) (md := gm_211) rfl rfl rfl (iRR.of 4 ?_)
  obtain ⟨s1, h1, h⟩ := i_o1_inv h
  refine iRT.call (iEE.dep (by omega) (htp (d + 0) _ _ _ h1)) ?_
  exact iRT.go 0 (f211_63_at5_ok L N T d htp N _ _ _ h) (fun _ _ => rfl)
-- GutterNineModel.sums
set_option maxHeartbeats 100000 in
theorem f210_63_at23_ok (L N T d : Nat) {tp : Int → gI → Option gI} (htp : ∀ (d : Nat) (x : Int) (s : gI) (o : gI), tp x s = some o → iEE L (d + T + 10) 212 [vR 63, vI x] (s, g_rho) (none, o, g_rho)) {r_at5 : Int → gI → Option (gI)} (h_at5 : ∀ x1 u2 s o, r_at5 x1 s = some o → iRR false L (d + T + 11) kj210 k210_5 [some (vR 63), some (vI x1), u2] [] (s, g_rho) (none, (o, g_rho))) (x1 : Int) {u2 : Option iV} (s : gI) {o : gI} (h : f210_at23 N tp r_at5 x1 s = some o) : iRR false L (d + T + 11) kj210 k210_23 [some (vR 63), some (vI x1), u2] [] (s, g_rho) (none, (o, g_rho)) := by
  refine iRR.of 22 ?_
  obtain ⟨i2, s1, h1, h⟩ := i_o2_inv h
  refine iRT.call (f183_63_ok L N (d + T + 10) _ _ h1) ?_
  refine iRT.ov h fun h => ?_
  obtain ⟨s4, h1, h⟩ := i_o1_inv h
  refine iRT.call (f211_63_ok L N T d htp _ _ h1) ?_
  refine iRT.ite h (fun h => ?_) (fun h => ?_)
  · obtain ⟨s5, h1, h⟩ := i_o1_inv h
    refine iRT.call (f207_63_ok L N (d + T + 10) _ _ _ h1) ?_
    exact iRT.go 1 (h_at5 _ _ _ _ h) (fun _ _ => rfl)
  · obtain ⟨s6, h1, h⟩ := i_o1_inv h
    refine iRT.call (f207_63_ok L N (d + T + 10) _ _ _ h1) ?_
    exact iRT.go 1 (h_at5 _ _ _ _ h) (fun _ _ => rfl)
set_option maxHeartbeats 100000 in
theorem f210_63_at5_ok (L N T d : Nat) {tp : Int → gI → Option gI} (htp : ∀ (d : Nat) (x : Int) (s : gI) (o : gI), tp x s = some o → iEE L (d + T + 10) 212 [vR 63, vI x] (s, g_rho) (none, o, g_rho)) : ∀ (n : Nat) (x1 : Int) {u2 : Option iV} (s : gI) (o : gI), f210_at5 N tp n x1 s = some o → iRR false L (d + T + 11) kj210 k210_5 [some (vR 63), some (vI x1), u2] [] (s, g_rho) (none, (o, g_rho)) := by
  intro n
  induction n with
  | zero => intro _ _ _ _ h; cases h
  | succ n ih =>
    intro x1 u2 s o h
    refine iRR.of 401 ?_
    obtain ⟨i2, s1, h1, h⟩ := i_o2_inv h
    refine iRT.call (f183_63_ok L N (d + T + 10) _ _ h1) ?_
    refine iRT.ite h (fun h => ?_) (fun h => ?_)
    · obtain ⟨i4, s3, h1, h⟩ := i_o2_inv h
      refine iRT.call (f183_63_ok L N (d + T + 10) _ _ h1) ?_
      refine iRT.ite h (fun h => ?_) (fun h => ?_)
      · cases h
        exact iRT.ret
      · exact iRT.go 0 (f210_63_at23_ok L N T d htp (fun a0 b0 s o h => ih a0 s o h) _ _ h) (fun _ _ => rfl)
    · exact iRT.go 0 (f210_63_at23_ok L N T d htp (fun a0 b0 s o h => ih a0 s o h) _ _ h) (fun _ _ => rfl)
set_option maxHeartbeats 100000 in
theorem f210_63_ok (L N T d : Nat) {tp : Int → gI → Option gI} (htp : ∀ (d : Nat) (x : Int) (s : gI) (o : gI), tp x s = some o → iEE L (d + T + 10) 212 [vR 63, vI x] (s, g_rho) (none, o, g_rho)) (x1 : Int) (s : gI) {o : gI} (h : f210 N tp x1 s = some o) : iEE L (d + T + 12) 210 [vR 63, vI x1] (s, g_rho) (none, (o, g_rho)) := by
  refine iEE.of (wr := false) (d := d + T + 11) (md := gm_210) rfl rfl rfl (iRR.of 4 ?_)
  obtain ⟨s1, h1, h⟩ := i_o1_inv h
  refine iRT.call (f211_63_ok L N T d htp _ _ h1) ?_
  exact iRT.go 0 (f210_63_at5_ok L N T d htp N _ _ _ h) (fun _ _ => rfl)
-- GutterNineModel.test
set_option maxHeartbeats 100000 in
theorem f209_63_at30_ok (L N T d : Nat) {tp : Int → gI → Option gI} (htp : ∀ (d : Nat) (x : Int) (s : gI) (o : gI), tp x s = some o → iEE L (d + T + 10) 212 [vR 63, vI x] (s, g_rho) (none, o, g_rho)) (x1 : Int) (x2 : Int) (s : gI) {o : gI} (h : f209_at30 N tp x1 x2 s = some o) : iRR false L (d + T + 12) kj209 k209_30 [some (vR 63), some (vI x1), some (vI x2)] [] (s, g_rho) (none, (o, g_rho)) := by
  refine iRR.of 401 ?_
  obtain ⟨s1, h1, h⟩ := i_o1_inv h
  refine iRT.call (f210_63_ok L N T d htp _ _ h1) ?_
  refine iRT.ite h (fun h => ?_) (fun h => ?_)
  · obtain ⟨s2, h1, h⟩ := i_o1_inv h
    refine iRT.call (f207_63_ok L N (d + T + 11) _ _ _ h1) ?_
    cases h
    exact iRT.ret
  · obtain ⟨s3, h1, h⟩ := i_o1_inv h
    refine iRT.call (f207_63_ok L N (d + T + 11) _ _ _ h1) ?_
    cases h
    exact iRT.ret
set_option maxHeartbeats 100000 in
theorem f209_63_ok (L N T d : Nat) {tp : Int → gI → Option gI} (htp : ∀ (d : Nat) (x : Int) (s : gI) (o : gI), tp x s = some o → iEE L (d + T + 10) 212 [vR 63, vI x] (s, g_rho) (none, o, g_rho)) (x1 : Int) (s : gI) {o : gI} (h : f209 N tp x1 s = some o) : iEE L (d + T + 13) 209 [vR 63, vI x1] (s, g_rho) (none, (o, g_rho)) := by
  refine iEE.of (wr := false) (d := d + T + 12) (md := gm_209) rfl rfl rfl (iRR.of 401 ?_)
  obtain ⟨s1, h1, h⟩ := i_o1_inv h
  refine iRT.call (f210_63_ok L N T d htp _ _ h1) ?_
  obtain ⟨i3, s2, h1, h⟩ := i_o2_inv h
  refine iRT.call (f183_63_ok L N (d + T + 11) _ _ h1) ?_
  obtain ⟨i5, s4, h1, h⟩ := i_o2_inv h
  refine iRT.call (f186_63_ok L N (d + T + 10) _ _ h1) ?_
  refine iRT.ite h (fun h => ?_) (fun h => ?_)
  · obtain ⟨i7, s6, h1, h⟩ := i_o2_inv h
    refine iRT.call (f186_63_ok L N (d + T + 10) _ _ h1) ?_
    refine iRT.ite h (fun h => ?_) (fun h => ?_)
    · cases h
      exact iRT.ret
    · exact iRT.go 0 (f209_63_at30_ok L N T d htp _ _ _ h) (fun _ _ => rfl)
  · exact iRT.go 0 (f209_63_at30_ok L N T d htp _ _ _ h) (fun _ _ => rfl)
-- GutterNineModel.all
set_option maxHeartbeats 100000 in
theorem f208_63_at23_ok (L N T d : Nat) {tp : Int → gI → Option gI} (htp : ∀ (d : Nat) (x : Int) (s : gI) (o : gI), tp x s = some o → iEE L (d + T + 10) 212 [vR 63, vI x] (s, g_rho) (none, o, g_rho)) {r_at5 : Int → gI → Option (gI)} (h_at5 : ∀ x1 u2 s o, r_at5 x1 s = some o → iRR false L (d + T + 13) kj208 k208_5 [some (vR 63), some (vI x1), u2] [] (s, g_rho) (none, (o, g_rho))) (x1 : Int) {u2 : Option iV} (s : gI) {o : gI} (h : f208_at23 N tp r_at5 x1 s = some o) : iRR false L (d + T + 13) kj208 k208_23 [some (vR 63), some (vI x1), u2] [] (s, g_rho) (none, (o, g_rho)) := by
  refine iRR.of 22 ?_
  obtain ⟨i2, s1, h1, h⟩ := i_o2_inv h
  refine iRT.call (f184_63_ok L N (d + T + 12) _ _ h1) ?_
  refine iRT.ov h fun h => ?_
  obtain ⟨s4, h1, h⟩ := i_o1_inv h
  refine iRT.call (f209_63_ok L N T d htp _ _ h1) ?_
  refine iRT.ite h (fun h => ?_) (fun h => ?_)
  · obtain ⟨s5, h1, h⟩ := i_o1_inv h
    refine iRT.call (f207_63_ok L N (d + T + 12) _ _ _ h1) ?_
    exact iRT.go 1 (h_at5 _ _ _ _ h) (fun _ _ => rfl)
  · obtain ⟨s6, h1, h⟩ := i_o1_inv h
    refine iRT.call (f207_63_ok L N (d + T + 12) _ _ _ h1) ?_
    exact iRT.go 1 (h_at5 _ _ _ _ h) (fun _ _ => rfl)
set_option maxHeartbeats 100000 in
theorem f208_63_at5_ok (L N T d : Nat) {tp : Int → gI → Option gI} (htp : ∀ (d : Nat) (x : Int) (s : gI) (o : gI), tp x s = some o → iEE L (d + T + 10) 212 [vR 63, vI x] (s, g_rho) (none, o, g_rho)) : ∀ (n : Nat) (x1 : Int) {u2 : Option iV} (s : gI) (o : gI), f208_at5 N tp n x1 s = some o → iRR false L (d + T + 13) kj208 k208_5 [some (vR 63), some (vI x1), u2] [] (s, g_rho) (none, (o, g_rho)) := by
  intro n
  induction n with
  | zero => intro _ _ _ _ h; cases h
  | succ n ih =>
    intro x1 u2 s o h
    refine iRR.of 401 ?_
    obtain ⟨i2, s1, h1, h⟩ := i_o2_inv h
    refine iRT.call (f184_63_ok L N (d + T + 12) _ _ h1) ?_
    refine iRT.ite h (fun h => ?_) (fun h => ?_)
    · obtain ⟨i4, s3, h1, h⟩ := i_o2_inv h
      refine iRT.call (f184_63_ok L N (d + T + 12) _ _ h1) ?_
      refine iRT.ite h (fun h => ?_) (fun h => ?_)
      · cases h
        exact iRT.ret
      · exact iRT.go 0 (f208_63_at23_ok L N T d htp (fun a0 b0 s o h => ih a0 s o h) _ _ h) (fun _ _ => rfl)
    · exact iRT.go 0 (f208_63_at23_ok L N T d htp (fun a0 b0 s o h => ih a0 s o h) _ _ h) (fun _ _ => rfl)
set_option maxHeartbeats 100000 in
theorem f208_63_ok (L N T d : Nat) {tp : Int → gI → Option gI} (htp : ∀ (d : Nat) (x : Int) (s : gI) (o : gI), tp x s = some o → iEE L (d + T + 10) 212 [vR 63, vI x] (s, g_rho) (none, o, g_rho)) (x1 : Int) (s : gI) {o : gI} (h : f208 N tp x1 s = some o) : iEE L (d + T + 14) 208 [vR 63, vI x1] (s, g_rho) (none, (o, g_rho)) := by
  refine iEE.of (wr := false) (d := d + T + 13) (md := gm_208) rfl rfl rfl (iRR.of 4 ?_)
  obtain ⟨s1, h1, h⟩ := i_o1_inv h
  refine iRT.call (f209_63_ok L N T d htp _ _ h1) ?_
  exact iRT.go 0 (f208_63_at5_ok L N T d htp N _ _ _ h) (fun _ _ => rfl)
-- GutterNineModel.takePart
set_option maxHeartbeats 100000 in
theorem f212_63_at165_ok (L N T d : Nat) {tp : Int → gI → Option gI} (htp : ∀ (d : Nat) (x : Int) (s : gI) (o : gI), tp x s = some o → iEE L (d + T + 10) 212 [vR 63, vI x] (s, g_rho) (none, o, g_rho)) (z0 : Int) (z1 : Int) {u1 : Option iV} {u2 : Option iV} {u3 : Option iV} (s : gI) {o : gI} (h : f212_at165 N tp z0 z1 s = some o) : iRR false L (d + T + 14) kj212 k212_165 [some (vR 63), u1, u2, u3] [vI z0, vI z1, vR 63] (s, g_rho) (none, (o, g_rho)) := by
  refine iRR.of 401 ?_
  obtain ⟨s1, h1, h⟩ := i_o1_inv h
  refine iRT.call (f207_63_ok L N (d + T + 13) _ _ _ h1) ?_
  refine iRT.ov h fun h => ?_
  cases h
  exact iRT.ret
set_option maxHeartbeats 100000 in
theorem f212_63_at147_ok (L N T d : Nat) {tp : Int → gI → Option gI} (htp : ∀ (d : Nat) (x : Int) (s : gI) (o : gI), tp x s = some o → iEE L (d + T + 10) 212 [vR 63, vI x] (s, g_rho) (none, o, g_rho)) (x2 : Int) (x3 : Int) (z0 : Int) {u1 : Option iV} (s : gI) {o : gI} (h : f212_at147 N tp x2 x3 z0 s = some o) : iRR false L (d + T + 14) kj212 k212_147 [some (vR 63), u1, some (vI x2), some (vI x3)] [vI z0, vR 63] (s, g_rho) (none, (o, g_rho)) := by
  refine iRR.of 10 ?_
  refine iRT.ite h (fun h => ?_) (fun h => ?_)
  · exact iRT.go 1 (f212_63_at165_ok L N T d htp _ _ _ h) (fun _ _ => rfl)
  · refine iRT.ck h fun h => ?_
    exact iRT.go 2 (f212_63_at165_ok L N T d htp _ _ _ h) (fun _ _ => rfl)
set_option maxHeartbeats 100000 in
theorem f212_63_at79_ok (L N T d : Nat) {tp : Int → gI → Option gI} (htp : ∀ (d : Nat) (x : Int) (s : gI) (o : gI), tp x s = some o → iEE L (d + T + 10) 212 [vR 63, vI x] (s, g_rho) (none, o, g_rho)) (x1 : Int) (x2 : Int) (x3 : Int) (s : gI) {o : gI} (h : f212_at79 N tp x1 x2 x3 s = some o) : iRR false L (d + T + 14) kj212 k212_79 [some (vR 63), some (vI x1), some (vI x2), some (vI x3)] [] (s, g_rho) (none, (o, g_rho)) := by
  refine iRR.of 401 ?_
  refine iRT.ite h (fun h => ?_) (fun h => ?_)
  · obtain ⟨i2, s1, h1, h⟩ := i_o2_inv h
    refine iRT.call (f187_63_ok L N (d + T + 12) _ _ h1) ?_
    refine iRT.ite h (fun h => ?_) (fun h => ?_)
    · obtain ⟨i4, s3, h1, h⟩ := i_o2_inv h
      refine iRT.call (f186_63_ok L N (d + T + 12) _ _ h1) ?_
      refine iRT.ite h (fun h => ?_) (fun h => ?_)
      · refine iRT.ite h (fun h => ?_) (fun h => ?_)
        · exact iRT.go 1 (f212_63_at147_ok L N T d htp _ _ _ _ h) (fun _ _ => rfl)
        · exact iRT.go 2 (f212_63_at147_ok L N T d htp _ _ _ _ h) (fun _ _ => rfl)
      · refine iRT.ov h fun h => ?_
        obtain ⟨s5, h1, h⟩ := i_o1_inv h
        refine iRT.call (f208_63_ok L N T d htp _ _ h1) ?_
        obtain ⟨s6, h1, h⟩ := i_o1_inv h
        refine iRT.call (f185_63_ok L N (d + T + 12) _ _ h1) ?_
        cases h
        exact iRT.ret
    · refine iRT.ov h fun h => ?_
      obtain ⟨s7, h1, h⟩ := i_o1_inv h
      refine iRT.call (iEE.dep (by omega) (htp (d + 4) _ _ _ h1)) ?_
      obtain ⟨s8, h1, h⟩ := i_o1_inv h
      refine iRT.call (f207_63_ok L N (d + T + 13) _ _ _ h1) ?_
      cases h
      exact iRT.ret
  · cases h
    exact iRT.ret
set_option maxHeartbeats 100000 in
theorem f212_63_at69_ok (L N T d : Nat) {tp : Int → gI → Option gI} (htp : ∀ (d : Nat) (x : Int) (s : gI) (o : gI), tp x s = some o → iEE L (d + T + 10) 212 [vR 63, vI x] (s, g_rho) (none, o, g_rho)) (x1 : Int) (x2 : Int) (x3 : Int) (s : gI) {o : gI} (h : f212_at69 N tp x1 x2 x3 s = some o) : iRR false L (d + T + 14) kj212 k212_69 [some (vR 63), some (vI x1), some (vI x2), some (vI x3)] [] (s, g_rho) (none, (o, g_rho)) := by
  refine iRR.of 7 ?_
  refine iRT.ite h (fun h => ?_) (fun h => ?_)
  · obtain ⟨s1, h1, h⟩ := i_o1_inv h
    refine iRT.call (f182_63_ok L N (d + T + 13) _ _ h1) ?_
    exact iRT.go 0 (f212_63_at79_ok L N T d htp _ _ _ _ h) (fun _ _ => rfl)
  · exact iRT.go 0 (f212_63_at79_ok L N T d htp _ _ _ _ h) (fun _ _ => rfl)
set_option maxHeartbeats 100000 in
theorem f212_63_at26_ok (L N T d : Nat) {tp : Int → gI → Option gI} (htp : ∀ (d : Nat) (x : Int) (s : gI) (o : gI), tp x s = some o → iEE L (d + T + 10) 212 [vR 63, vI x] (s, g_rho) (none, o, g_rho)) (x1 : Int) (z0 : Int) {u2 : Option iV} {u3 : Option iV} (s : gI) {o : gI} (h : f212_at26 N tp x1 z0 s = some o) : iRR false L (d + T + 14) kj212 k212_26 [some (vR 63), some (vI x1), u2, u3] [vI z0] (s, g_rho) (none, (o, g_rho)) := by
  refine iRR.of 23 ?_
  obtain ⟨i2, s1, h1, h⟩ := i_o2_inv h
  refine iRT.call (f192_63_ok L N (d + T + 12) _ _ _ h1) ?_
  refine iRT.ite h (fun h => ?_) (fun h => ?_)
  · exact iRT.go 0 (f212_63_at69_ok L N T d htp _ _ _ _ h) (fun _ _ => rfl)
  · refine iRT.ite h (fun h => ?_) (fun h => ?_)
    · obtain ⟨i4, s3, h1, h⟩ := i_o2_inv h
      refine iRT.call (f183_63_ok L N (d + T + 13) _ _ h1) ?_
      refine iRT.ite h (fun h => ?_) (fun h => ?_)
      · obtain ⟨i6, s5, h1, h⟩ := i_o2_inv h
        refine iRT.call (f184_63_ok L N (d + T + 13) _ _ h1) ?_
        refine iRT.ite h (fun h => ?_) (fun h => ?_)
        · obtain ⟨s7, h1, h⟩ := i_o1_inv h
          refine iRT.call (f182_63_ok L N (d + T + 13) _ _ h1) ?_
          exact iRT.go 1 (f212_63_at79_ok L N T d htp _ _ _ _ h) (fun _ _ => rfl)
        · exact iRT.go 0 (f212_63_at69_ok L N T d htp _ _ _ _ h) (fun _ _ => rfl)
      · exact iRT.go 0 (f212_63_at69_ok L N T d htp _ _ _ _ h) (fun _ _ => rfl)
    · exact iRT.go 0 (f212_63_at69_ok L N T d htp _ _ _ _ h) (fun _ _ => rfl)
set_option maxHeartbeats 100000 in
theorem f212_63_ok (L N : Nat) : ∀ (rd d : Nat) (x1 : Int) (s : gI) (o : gI), f212 N rd x1 s = some o → iEE L (d + 5 * rd + 10) 212 [vR 63, vI x1] (s, g_rho) (none, (o, g_rho)) := by
  intro rd
  induction rd with
  | zero => intro _ _ _ _ h; cases h
  | succ rd htp =>
    intro d x1 s o h
    refine iEE.dep (show d + 5 * rd + 15 = d + 5 * (rd + 1) + 10 by omega) ?_
    refine iEE.of (wr := false) (d := d + (5 * rd) + 14) (md := gm_212) rfl rfl rfl (iRR.of 401 ?_)
    refine iRT.ite h (fun h => ?_) (fun h => ?_)
    · refine iRT.ck h fun h => ?_
      refine iRT.ite h (fun h => ?_) (fun h => ?_)
      · exact iRT.go 2 (f212_63_at26_ok L N (5 * rd) d htp _ _ _ h) (fun _ _ => rfl)
      · exact iRT.go 1 (f212_63_at26_ok L N (5 * rd) d htp _ _ _ h) (fun _ _ => rfl)
    · cases h
      exact iRT.ret
-- GutterNineModel.readLaw
set_option maxHeartbeats 100000 in
theorem f202_63_ok (L N d : Nat) (s : gI) {o : gI} (h : f202 N  s = some o) : iEE L (d + 50) 202 [vR 63] (s, g_rho) (none, (o, g_rho)) := by
  refine iEE.of (wr := false) (d := d + 49) (md := gm_202) rfl rfl rfl (iRR.of 401 ?_)
  obtain ⟨i2, s1, h1, h⟩ := i_o2_inv h
  refine iRT.call (f192_63_ok L N (d + 47) _ _ _ h1) ?_
  refine iRT.ite h (fun h => ?_) (fun h => ?_)
  · refine iRT.ov h fun h => ?_
    obtain ⟨i4, s3, h1, h⟩ := i_o2_inv h
    refine iRT.call (f200_63_ok L N (d + 47) _ _ h1) ?_
    refine iRT.ite h (fun h => ?_) (fun h => ?_)
    · cases h
      exact iRT.ret
    · refine iRT.ov h fun h => ?_
      refine iRT.ck h fun h => ?_
      obtain ⟨s6, h1, h⟩ := i_o1_inv h
      refine iRT.call (f208_63_ok L N 35 (d + 0) (f212_63_ok L N 7) _ _ h1) ?_
      obtain ⟨s7, h1, h⟩ := i_o1_inv h
      refine iRT.call (f207_63_ok L N (d + 48) _ _ _ h1) ?_
      cases h
      exact iRT.ret
  · obtain ⟨s8, h1, h⟩ := i_o1_inv h
    refine iRT.call (f182_63_ok L N (d + 48) _ _ h1) ?_
    cases h
    exact iRT.ret
-- GutterNineModel.takeAfter
set_option maxHeartbeats 100000 in
theorem f191_63_ok (L N d : Nat) (x1 : Int) (x2 : Int) (x3 : Int) (s : gI) {o : Int × gI} (h : f191 N x1 x2 x3 s = some o) : iEE L (d + 4) 191 [vR 63, vI x1, vI x2, vI x3] (s, g_rho) (some (vI o.1), (o.2, g_rho)) := by
  refine iEE.of (wr := false) (d := d + 3) (md := gm_191) rfl rfl rfl (iRR.of 401 ?_)
  obtain ⟨s1, h1, h⟩ := i_o1_inv h
  refine iRT.call (f188_63_ok L N (d + 0) _ _ h1) ?_
  obtain ⟨i3, s2, h1, h⟩ := i_o2_inv h
  refine iRT.call (f190_63_ok L N (d + 1) _ _ _ h1) ?_
  cases h
  exact iRT.ret
-- GutterNineModel.readShot
set_option maxHeartbeats 100000 in
theorem f206_63_ok (L N d : Nat) (s : gI) {o : gI} (h : f206 N  s = some o) : iEE L (d + 5) 206 [vR 63] (s, g_rho) (none, (o, g_rho)) := by
  refine iEE.of (wr := false) (d := d + 4) (md := gm_206) rfl rfl rfl (iRR.of 401 ?_)
  replace h := (ick_inv h).2.2
  refine iRT.ite h (fun h => ?_) (fun h => ?_)
  · obtain ⟨s19, h1, h⟩ := i_o1_inv h
    refine iRT.call (f182_63_ok L N (d + 3) _ _ h1) ?_
    cases h
    exact iRT.ret
  · refine iRT.ov h fun h => ?_
    obtain ⟨i4, s3, h1, h⟩ := i_o2_inv h
    refine iRT.call (f192_63_ok L N (d + 2) _ _ _ h1) ?_
    refine iRT.ite h (fun h => ?_) (fun h => ?_)
    · refine iRT.ov h fun h => ?_
      refine iRT.ov h fun h => ?_
      refine iRT.ov h fun h => ?_
      refine iRT.ck h fun h => ?_
      refine iRT.ov h fun h => ?_
      obtain ⟨i9, s8, h1, h⟩ := i_o2_inv h
      refine iRT.call (f190_63_ok L N (d + 2) _ _ _ h1) ?_
      refine iRT.ck h fun h => ?_
      refine iRT.ov h fun h => ?_
      obtain ⟨i12, s11, h1, h⟩ := i_o2_inv h
      refine iRT.call (f191_63_ok L N (d + 0) _ _ _ _ h1) ?_
      refine iRT.ck h fun h => ?_
      refine iRT.ov h fun h => ?_
      obtain ⟨i15, s14, h1, h⟩ := i_o2_inv h
      refine iRT.call (f191_63_ok L N (d + 0) _ _ _ _ h1) ?_
      refine iRT.ck h fun h => ?_
      replace h := (ick_inv h).2.2
      refine iRT.ov h fun h => ?_
      replace h := (ick_inv h).2.2
      cases h
      exact iRT.ret
    · obtain ⟨s18, h1, h⟩ := i_o1_inv h
      refine iRT.call (f182_63_ok L N (d + 3) _ _ h1) ?_
      cases h
      exact iRT.ret
-- GutterNineModel.isName
set_option maxHeartbeats 100000 in
theorem f197_63_ok (L N d : Nat) (s : gI) {o : Int × gI} (h : f197 N  s = some o) : iEE L (d + 3) 197 [vR 63] (s, g_rho) (some (vI o.1), (o.2, g_rho)) := by
  refine iEE.of (wr := false) (d := d + 2) (md := gm_197) rfl rfl rfl (iRR.of 401 ?_)
  refine iRT.ite h (fun h => ?_) (fun h => ?_)
  · refine iRT.ck h fun h => ?_
    refine iRT.ite h (fun h => ?_) (fun h => ?_)
    · obtain ⟨i2, s1, h1, h⟩ := i_o2_inv h
      refine iRT.call (f192_63_ok L N (d + 0) _ _ _ h1) ?_
      refine iRT.ite h (fun h => ?_) (fun h => ?_)
      · replace h := (ib1_inv h).2
        cases h
        exact iRT.ret
      · replace h := (ib1_inv h).2
        cases h
        exact iRT.ret
    · replace h := (ib1_inv h).2
      cases h
      exact iRT.ret
  · replace h := (ib1_inv h).2
    cases h
    exact iRT.ret
-- GutterNineModel.find
set_option maxHeartbeats 100000 in
theorem f198_63_at2_ok (L N d : Nat) : ∀ (n : Nat) (x1 : Int) (s : gI) (o : Int × gI), f198_at2 N n x1 s = some o → iRR false L (d + 0) kj198 k198_2 [some (vR 63), some (vI x1)] [] (s, g_rho) (some (vI o.1), (o.2, g_rho)) := by
  intro n
  induction n with
  | zero => intro _ _ _ h; cases h
  | succ n ih =>
    intro x1 s o h
    refine iRR.of 401 ?_
    refine iRT.ite h (fun h => ?_) (fun h => ?_)
    · cases h
      exact iRT.ret
    · refine iRT.ck h fun h => ?_
      refine iRT.ck h fun h => ?_
      refine iRT.ite h (fun h => ?_) (fun h => ?_)
      · refine iRT.ck h fun h => ?_
        cases h
        exact iRT.ret
      · refine iRT.ov h fun h => ?_
        exact iRT.go 1 (ih _ _ _ h) (fun _ _ => rfl)
set_option maxHeartbeats 100000 in
theorem f198_63_ok (L N d : Nat) (s : gI) {o : Int × gI} (h : f198 N  s = some o) : iEE L (d + 1) 198 [vR 63] (s, g_rho) (some (vI o.1), (o.2, g_rho)) := by
  refine iEE.of (wr := false) (d := d + 0) (md := gm_198) rfl rfl rfl (iRR.of 3 ?_)
  exact iRT.go 2 (f198_63_at2_ok L N d N _ _ _ h) (fun _ _ => rfl)
-- GutterNineModel.readName
set_option maxHeartbeats 100000 in
theorem f203_63_at37_ok (L N d : Nat) (x1 : Int) (s : gI) {o : gI} (h : f203_at37 N x1 s = some o) : iRR false L (d + 3) kj203 k203_37 [some (vR 63), some (vI x1)] [] (s, g_rho) (none, (o, g_rho)) := by
  refine iRR.of 401 ?_
  refine iRT.ite h (fun h => ?_) (fun h => ?_)
  · refine iRT.ck h fun h => ?_
    refine iRT.ck h fun h => ?_
    refine iRT.ck h fun h => ?_
    refine iRT.ov h fun h => ?_
    refine iRT.ov h fun h => ?_
    cases h
    exact iRT.ret
  · cases h
    exact iRT.ret
set_option maxHeartbeats 100000 in
theorem f203_63_ok (L N d : Nat) (x1 : Int) (s : gI) {o : gI} (h : f203 N x1 s = some o) : iEE L (d + 4) 203 [vR 63, vI x1] (s, g_rho) (none, (o, g_rho)) := by
  refine iEE.of (wr := false) (d := d + 3) (md := gm_203) rfl rfl rfl (iRR.of 16 ?_)
  refine iRT.ov h fun h => ?_
  obtain ⟨i3, s2, h1, h⟩ := i_o2_inv h
  refine iRT.call (f197_63_ok L N (d + 0)  _ h1) ?_
  refine iRT.ite h (fun h => ?_) (fun h => ?_)
  · obtain ⟨s7, h1, h⟩ := i_o1_inv h
    refine iRT.call (f182_63_ok L N (d + 2) _ _ h1) ?_
    exact iRT.go 1 (f203_63_at37_ok L N d _ _ h) (fun _ _ => rfl)
  · obtain ⟨i5, s4, h1, h⟩ := i_o2_inv h
    refine iRT.call (f198_63_ok L N (d + 2)  _ h1) ?_
    refine iRT.ite h (fun h => ?_) (fun h => ?_)
    · exact iRT.go 0 (f203_63_at37_ok L N d _ _ h) (fun _ _ => rfl)
    · obtain ⟨s6, h1, h⟩ := i_o1_inv h
      refine iRT.call (f182_63_ok L N (d + 2) _ _ h1) ?_
      exact iRT.go 0 (f203_63_at37_ok L N d _ _ h) (fun _ _ => rfl)
-- GutterNineModel.within
set_option maxHeartbeats 100000 in
theorem f189_ok (L N d : Nat) (x0 : Int) (x1 : Int) (x2 : Int) (s : gI) {o : Int × gI} (h : f189 N x0 x1 x2 s = some o) : iEE L (d + 1) 189 [vI x0, vI x1, vI x2] (s, g_rho) (some (vI o.1), (o.2, g_rho)) := by
  refine iEE.of (wr := false) (d := d + 0) (md := gm_189) rfl rfl rfl (iRR.of 401 ?_)
  refine iRT.ite h (fun h => ?_) (fun h => ?_)
  · replace h := (ib1_inv h).2
    cases h
    exact iRT.ret
  · refine iRT.ite h (fun h => ?_) (fun h => ?_)
    · replace h := (ib1_inv h).2
      cases h
      exact iRT.ret
    · replace h := (ib1_inv h).2
      cases h
      exact iRT.ret
-- GutterNineModel.readThing
set_option maxHeartbeats 100000 in
theorem f205_63_at136_ok (L N d : Nat) (x1 : Int) (x2 : Int) (x3 : Int) (z0 : Int) (z1 : Int) {u4 : Option iV} (s : gI) {o : gI} (h : f205_at136 N x1 x2 x3 z0 z1 s = some o) : iRR false L (d + 4) kj205 k205_136 [some (vR 63), some (vI x1), some (vI x2), some (vI x3), u4] [vI z0, vI z1, vR 63] (s, g_rho) (none, (o, g_rho)) := by
  refine iRR.of 401 ?_
  refine iRT.ov h fun h => ?_
  refine iRT.ov h fun h => ?_
  refine iRT.ov h fun h => ?_
  refine iRT.ck h fun h => ?_
  refine iRT.ov h fun h => ?_
  refine iRT.ck h fun h => ?_
  refine iRT.ov h fun h => ?_
  obtain ⟨i6, s5, h1, h⟩ := i_o2_inv h
  refine iRT.call (f191_63_ok L N (d + 0) _ _ _ _ h1) ?_
  refine iRT.ck h fun h => ?_
  replace h := (ick_inv h).2.2
  refine iRT.ov h fun h => ?_
  replace h := (ick_inv h).2.2
  cases h
  exact iRT.ret
set_option maxHeartbeats 100000 in
theorem f205_63_at119_ok (L N d : Nat) (x1 : Int) (x2 : Int) (x3 : Int) {u4 : Option iV} (s : gI) {o : gI} (h : f205_at119 N x1 x2 x3 s = some o) : iRR false L (d + 4) kj205 k205_119 [some (vR 63), some (vI x1), some (vI x2), some (vI x3), u4] [] (s, g_rho) (none, (o, g_rho)) := by
  refine iRR.of 9 ?_
  refine iRT.ite h (fun h => ?_) (fun h => ?_)
  · exact iRT.go 1 (f205_63_at136_ok L N d _ _ _ _ _ _ h) (fun _ _ => rfl)
  · exact iRT.go 2 (f205_63_at136_ok L N d _ _ _ _ _ _ h) (fun _ _ => rfl)
set_option maxHeartbeats 100000 in
theorem f205_63_at104_ok (L N d : Nat) (x1 : Int) (x2 : Int) (z0 : Int) {u3 : Option iV} {u4 : Option iV} (s : gI) {o : gI} (h : f205_at104 N x1 x2 z0 s = some o) : iRR false L (d + 4) kj205 k205_104 [some (vR 63), some (vI x1), some (vI x2), u3, u4] [vI z0] (s, g_rho) (none, (o, g_rho)) := by
  refine iRR.of 10 ?_
  obtain ⟨i2, s1, h1, h⟩ := i_o2_inv h
  refine iRT.call (f189_ok L N (d + 3) _ _ _ _ h1) ?_
  refine iRT.ite h (fun h => ?_) (fun h => ?_)
  · obtain ⟨s3, h1, h⟩ := i_o1_inv h
    refine iRT.call (f182_63_ok L N (d + 3) _ _ h1) ?_
    exact iRT.go 0 (f205_63_at119_ok L N d _ _ _ _ h) (fun _ _ => rfl)
  · exact iRT.go 0 (f205_63_at119_ok L N d _ _ _ _ h) (fun _ _ => rfl)
set_option maxHeartbeats 100000 in
theorem f205_63_at89_ok (L N d : Nat) (x1 : Int) (x2 : Int) {u3 : Option iV} {u4 : Option iV} (s : gI) {o : gI} (h : f205_at89 N x1 x2 s = some o) : iRR false L (d + 4) kj205 k205_89 [some (vR 63), some (vI x1), some (vI x2), u3, u4] [] (s, g_rho) (none, (o, g_rho)) := by
  refine iRR.of 6 ?_
  refine iRT.ite h (fun h => ?_) (fun h => ?_)
  · obtain ⟨i2, s1, h1, h⟩ := i_o2_inv h
    refine iRT.call (f198_63_ok L N (d + 3)  _ h1) ?_
    exact iRT.go 0 (f205_63_at104_ok L N d _ _ _ _ h) (fun _ _ => rfl)
  · exact iRT.go 2 (f205_63_at104_ok L N d _ _ _ _ h) (fun _ _ => rfl)
set_option maxHeartbeats 100000 in
theorem f205_63_at44_ok (L N d : Nat) (x1 : Int) (z0 : Int) {u2 : Option iV} {u3 : Option iV} {u4 : Option iV} (s : gI) {o : gI} (h : f205_at44 N x1 z0 s = some o) : iRR false L (d + 4) kj205 k205_44 [some (vR 63), some (vI x1), u2, u3, u4] [vI z0] (s, g_rho) (none, (o, g_rho)) := by
  refine iRR.of 401 ?_
  refine iRT.ite h (fun h => ?_) (fun h => ?_)
  · refine iRT.ov h fun h => ?_
    obtain ⟨s2, h1, h⟩ := i_o1_inv h
    refine iRT.call (f188_63_ok L N (d + 1) _ _ h1) ?_
    refine iRT.ite h (fun h => ?_) (fun h => ?_)
    · obtain ⟨i4, s3, h1, h⟩ := i_o2_inv h
      refine iRT.call (f197_63_ok L N (d + 1)  _ h1) ?_
      refine iRT.ite h (fun h => ?_) (fun h => ?_)
      · obtain ⟨s5, h1, h⟩ := i_o1_inv h
        refine iRT.call (f182_63_ok L N (d + 3) _ _ h1) ?_
        exact iRT.go 0 (f205_63_at89_ok L N d _ _ _ h) (fun _ _ => rfl)
      · exact iRT.go 0 (f205_63_at89_ok L N d _ _ _ h) (fun _ _ => rfl)
    · exact iRT.go 0 (f205_63_at89_ok L N d _ _ _ h) (fun _ _ => rfl)
  · obtain ⟨s6, h1, h⟩ := i_o1_inv h
    refine iRT.call (f182_63_ok L N (d + 3) _ _ h1) ?_
    cases h
    exact iRT.ret
set_option maxHeartbeats 100000 in
theorem f205_63_ok (L N d : Nat) (s : gI) {o : gI} (h : f205 N  s = some o) : iEE L (d + 5) 205 [vR 63] (s, g_rho) (none, (o, g_rho)) := by
  refine iEE.of (wr := false) (d := d + 4) (md := gm_205) rfl rfl rfl (iRR.of 401 ?_)
  replace h := (ick_inv h).2.2
  refine iRT.ite h (fun h => ?_) (fun h => ?_)
  · obtain ⟨s5, h1, h⟩ := i_o1_inv h
    refine iRT.call (f182_63_ok L N (d + 3) _ _ h1) ?_
    cases h
    exact iRT.ret
  · obtain ⟨s2, h1, h⟩ := i_o1_inv h
    refine iRT.call (f203_63_ok L N (d + 0) _ _ h1) ?_
    refine iRT.ite h (fun h => ?_) (fun h => ?_)
    · obtain ⟨i4, s3, h1, h⟩ := i_o2_inv h
      refine iRT.call (f192_63_ok L N (d + 2) _ _ _ h1) ?_
      exact iRT.go 0 (f205_63_at44_ok L N d _ _ _ h) (fun _ _ => rfl)
    · exact iRT.go 2 (f205_63_at44_ok L N d _ _ _ h) (fun _ _ => rfl)
-- GutterNineModel.readPerson
set_option maxHeartbeats 100000 in
theorem f204_63_ok (L N d : Nat) (s : gI) {o : gI} (h : f204 N  s = some o) : iEE L (d + 5) 204 [vR 63] (s, g_rho) (none, (o, g_rho)) := by
  refine iEE.of (wr := false) (d := d + 4) (md := gm_204) rfl rfl rfl (iRR.of 401 ?_)
  replace h := (ick_inv h).2.2
  refine iRT.ite h (fun h => ?_) (fun h => ?_)
  · obtain ⟨s7, h1, h⟩ := i_o1_inv h
    refine iRT.call (f182_63_ok L N (d + 3) _ _ h1) ?_
    cases h
    exact iRT.ret
  · obtain ⟨s2, h1, h⟩ := i_o1_inv h
    refine iRT.call (f203_63_ok L N (d + 0) _ _ h1) ?_
    refine iRT.ov h fun h => ?_
    obtain ⟨i4, s3, h1, h⟩ := i_o2_inv h
    refine iRT.call (f191_63_ok L N (d + 0) _ _ _ _ h1) ?_
    refine iRT.ck h fun h => ?_
    replace h := (ick_inv h).2.2
    refine iRT.ov h fun h => ?_
    replace h := (ick_inv h).2.2
    cases h
    exact iRT.ret
-- GutterNineModel.readLine
set_option maxHeartbeats 100000 in
theorem f201_63_ok (L N d : Nat) (s : gI) {o : gI} (h : f201 N  s = some o) : iEE L (d + 51) 201 [vR 63] (s, g_rho) (none, (o, g_rho)) := by
  refine iEE.of (wr := false) (d := d + 50) (md := gm_201) rfl rfl rfl (iRR.of 401 ?_)
  obtain ⟨i2, s1, h1, h⟩ := i_o2_inv h
  refine iRT.call (f184_63_ok L N (d + 49) _ _ h1) ?_
  refine iRT.ite h (fun h => ?_) (fun h => ?_)
  · obtain ⟨i4, s3, h1, h⟩ := i_o2_inv h
    refine iRT.call (f184_63_ok L N (d + 49) _ _ h1) ?_
    refine iRT.ite h (fun h => ?_) (fun h => ?_)
    · obtain ⟨i6, s5, h1, h⟩ := i_o2_inv h
      refine iRT.call (f184_63_ok L N (d + 49) _ _ h1) ?_
      refine iRT.ite h (fun h => ?_) (fun h => ?_)
      · obtain ⟨i8, s7, h1, h⟩ := i_o2_inv h
        refine iRT.call (f184_63_ok L N (d + 49) _ _ h1) ?_
        refine iRT.ite h (fun h => ?_) (fun h => ?_)
        · obtain ⟨i10, s9, h1, h⟩ := i_o2_inv h
          refine iRT.call (f184_63_ok L N (d + 49) _ _ h1) ?_
          refine iRT.ite h (fun h => ?_) (fun h => ?_)
          · obtain ⟨i12, s11, h1, h⟩ := i_o2_inv h
            refine iRT.call (f184_63_ok L N (d + 49) _ _ h1) ?_
            refine iRT.ite h (fun h => ?_) (fun h => ?_)
            · obtain ⟨s13, h1, h⟩ := i_o1_inv h
              refine iRT.call (f202_63_ok L N (d + 0)  _ h1) ?_
              cases h
              exact iRT.ret
            · obtain ⟨i15, s14, h1, h⟩ := i_o2_inv h
              refine iRT.call (f200_63_ok L N (d + 48) _ _ h1) ?_
              refine iRT.ite h (fun h => ?_) (fun h => ?_)
              · cases h
                exact iRT.ret
              · obtain ⟨i17, s16, h1, h⟩ := i_o2_inv h
                refine iRT.call (f190_63_ok L N (d + 48) _ _ _ h1) ?_
                replace h := (ick_inv h).2.2
                cases h
                exact iRT.ret
          · obtain ⟨i20, s19, h1, h⟩ := i_o2_inv h
            refine iRT.call (f200_63_ok L N (d + 48) _ _ h1) ?_
            refine iRT.ite h (fun h => ?_) (fun h => ?_)
            · cases h
              exact iRT.ret
            · obtain ⟨i22, s21, h1, h⟩ := i_o2_inv h
              refine iRT.call (f190_63_ok L N (d + 48) _ _ _ h1) ?_
              replace h := (ick_inv h).2.2
              obtain ⟨i25, s24, h1, h⟩ := i_o2_inv h
              refine iRT.call (f190_63_ok L N (d + 48) _ _ _ h1) ?_
              replace h := (ick_inv h).2.2
              obtain ⟨i28, s27, h1, h⟩ := i_o2_inv h
              refine iRT.call (f191_63_ok L N (d + 46) _ _ _ _ h1) ?_
              replace h := (ick_inv h).2.2
              cases h
              exact iRT.ret
        · obtain ⟨i31, s30, h1, h⟩ := i_o2_inv h
          refine iRT.call (f200_63_ok L N (d + 48) _ _ h1) ?_
          refine iRT.ite h (fun h => ?_) (fun h => ?_)
          · cases h
            exact iRT.ret
          · obtain ⟨i33, s32, h1, h⟩ := i_o2_inv h
            refine iRT.call (f190_63_ok L N (d + 48) _ _ _ h1) ?_
            replace h := (ick_inv h).2.2
            cases h
            exact iRT.ret
      · obtain ⟨s35, h1, h⟩ := i_o1_inv h
        refine iRT.call (f206_63_ok L N (d + 45)  _ h1) ?_
        cases h
        exact iRT.ret
    · obtain ⟨s36, h1, h⟩ := i_o1_inv h
      refine iRT.call (f205_63_ok L N (d + 45)  _ h1) ?_
      cases h
      exact iRT.ret
  · obtain ⟨s37, h1, h⟩ := i_o1_inv h
    refine iRT.call (f204_63_ok L N (d + 45)  _ h1) ?_
    cases h
    exact iRT.ret
-- GutterNineModel.yard
set_option maxHeartbeats 100000 in
theorem f199_63_at105_ok (L N d : Nat) : ∀ (n : Nat) (x1 : Int) (s : gI) (o : Int × gI), f199_at105 N n x1 s = some o → iRR false L (d + 51) kj199 k199_105 [some (vR 63), some (vI x1)] [] (s, g_rho) (some (vI o.1), (o.2, g_rho)) := by
  intro n
  induction n with
  | zero => intro _ _ _ h; cases h
  | succ n ih =>
    intro x1 s o h
    refine iRR.of 401 ?_
    refine iRT.ite h (fun h => ?_) (fun h => ?_)
    · obtain ⟨s1, h1, h⟩ := i_o1_inv h
      refine iRT.call (f216_63_ok L N (d + 50)  _ h1) ?_
      cases h
      exact iRT.ret
    · refine iRT.ov h fun h => ?_
      refine iRT.ck h fun h => ?_
      refine iRT.ck h fun h => ?_
      refine iRT.ov h fun h => ?_
      refine iRT.ck h fun h => ?_
      refine iRT.ck h fun h => ?_
      refine iRT.ov h fun h => ?_
      exact iRT.go 1 (ih _ _ _ h) (fun _ _ => rfl)
set_option maxHeartbeats 100000 in
theorem f199_63_at76_ok (L N d : Nat) : ∀ (n : Nat) (x1 : Int) (s : gI) (o : Int × gI), f199_at76 N n x1 s = some o → iRR false L (d + 51) kj199 k199_76 [some (vR 63), some (vI x1)] [] (s, g_rho) (some (vI o.1), (o.2, g_rho)) := by
  intro n
  induction n with
  | zero => intro _ _ _ h; cases h
  | succ n ih =>
    intro x1 s o h
    refine iRR.of 16 ?_
    refine iRT.ite h (fun h => ?_) (fun h => ?_)
    · exact iRT.go 2 (f199_63_at105_ok L N d N _ _ _ h) (fun _ _ => rfl)
    · refine iRT.ov h fun h => ?_
      refine iRT.ck h fun h => ?_
      refine iRT.ck h fun h => ?_
      refine iRT.ov h fun h => ?_
      exact iRT.go 1 (ih _ _ _ h) (fun _ _ => rfl)
set_option maxHeartbeats 100000 in
theorem f199_63_at62_ok (L N d : Nat) {u1 : Option iV} (s : gI) {o : Int × gI} (h : f199_at62 N  s = some o) : iRR false L (d + 51) kj199 k199_62 [some (vR 63), u1] [] (s, g_rho) (some (vI o.1), (o.2, g_rho)) := by
  refine iRR.of 401 ?_
  refine iRT.ite h (fun h => ?_) (fun h => ?_)
  · exact iRT.go 2 (f199_63_at76_ok L N d N _ _ _ h) (fun _ _ => rfl)
  · cases h
    exact iRT.ret
set_option maxHeartbeats 100000 in
theorem f199_63_at30_ok (L N d : Nat) : ∀ (n : Nat) {u1 : Option iV} (s : gI) (o : Int × gI), f199_at30 N n  s = some o → iRR false L (d + 51) kj199 k199_30 [some (vR 63), u1] [] (s, g_rho) (some (vI o.1), (o.2, g_rho)) := by
  intro n
  induction n with
  | zero => intro _ _ _ h; cases h
  | succ n ih =>
    intro u1 s o h
    refine iRR.of 16 ?_
    refine iRT.ite h (fun h => ?_) (fun h => ?_)
    · refine iRT.ck h fun h => ?_
      refine iRT.ite h (fun h => ?_) (fun h => ?_)
      · exact iRT.go 0 (f199_63_at62_ok L N d  _ h) (fun _ _ => rfl)
      · obtain ⟨s1, h1, h⟩ := i_o1_inv h
        refine iRT.call (f201_63_ok L N (d + 0)  _ h1) ?_
        obtain ⟨s2, h1, h⟩ := i_o1_inv h
        refine iRT.call (f185_63_ok L N (d + 49) _ _ h1) ?_
        exact iRT.go 1 (ih  _ _ h) (fun _ _ => rfl)
    · exact iRT.go 0 (f199_63_at62_ok L N d  _ h) (fun _ _ => rfl)
set_option maxHeartbeats 100000 in
theorem f199_63_ok (L N d : Nat) (s : gI) {o : Int × gI} (h : f199 N  s = some o) : iEE L (d + 52) 199 [vR 63] (s, g_rho) (some (vI o.1), (o.2, g_rho)) := by
  refine iEE.of (wr := false) (d := d + 51) (md := gm_199) rfl rfl rfl (iRR.of 18 ?_)
  delta f199 at h
  obtain ⟨s2, h1, h⟩ := i_o1_inv h
  refine iRT.call (f181_63_ok L N (d + 48)  _ h1) ?_
  obtain ⟨s6, h1, h⟩ := i_o1_inv h
  refine iRT.call (f196_63_ok L N (d + 50) _ _ h1) ?_
  exact iRT.go 0 (f199_63_at30_ok L N d N  _ _ h) (fun _ _ => rfl)
-- GutterNineModel.wide
set_option maxHeartbeats 100000 in
theorem f218_63_ok (L N d : Nat) (s : gI) {o : Int × gI} (h : f218 N  s = some o) : iEE L (d + 1) 218 [vR 63] (s, g_rho) (some (vI o.1), (o.2, g_rho)) := by
  refine iEE.of (wr := false) (d := d + 0) (md := gm_218) rfl rfl rfl (iRR.of 401 ?_)
  replace h := (ick_inv h).2.2
  cases h
  exact iRT.ret
-- GutterNineModel.deep
set_option maxHeartbeats 100000 in
theorem f219_63_ok (L N d : Nat) (s : gI) {o : Int × gI} (h : f219 N  s = some o) : iEE L (d + 1) 219 [vR 63] (s, g_rho) (some (vI o.1), (o.2, g_rho)) := by
  refine iEE.of (wr := false) (d := d + 0) (md := gm_219) rfl rfl rfl (iRR.of 401 ?_)
  replace h := (ick_inv h).2.2
  cases h
  exact iRT.ret
-- GutterNineModel.isCell
set_option maxHeartbeats 100000 in
theorem f224_63_ok (L N d : Nat) (x1 : Int) (x2 : Int) (s : gI) {o : Int × gI} (h : f224 N x1 x2 s = some o) : iEE L (d + 2) 224 [vR 63, vI x1, vI x2] (s, g_rho) (some (vI o.1), (o.2, g_rho)) := by
  refine iEE.of (wr := false) (d := d + 1) (md := gm_224) rfl rfl rfl (iRR.of 401 ?_)
  refine iRT.ite h (fun h => ?_) (fun h => ?_)
  · replace h := (ib1_inv h).2
    cases h
    exact iRT.ret
  · obtain ⟨i2, s1, h1, h⟩ := i_o2_inv h
    refine iRT.call (f218_63_ok L N (d + 0)  _ h1) ?_
    refine iRT.ite h (fun h => ?_) (fun h => ?_)
    · replace h := (ib1_inv h).2
      cases h
      exact iRT.ret
    · refine iRT.ite h (fun h => ?_) (fun h => ?_)
      · replace h := (ib1_inv h).2
        cases h
        exact iRT.ret
      · obtain ⟨i4, s3, h1, h⟩ := i_o2_inv h
        refine iRT.call (f219_63_ok L N (d + 0)  _ h1) ?_
        refine iRT.ite h (fun h => ?_) (fun h => ?_)
        · replace h := (ib1_inv h).2
          cases h
          exact iRT.ret
        · replace h := (ib1_inv h).2
          cases h
          exact iRT.ret
-- GutterNineModel.tileAt
set_option maxHeartbeats 100000 in
theorem f225_63_ok (L N d : Nat) (x1 : Int) (s : gI) {o : Int × gI} (h : f225 N x1 s = some o) : iEE L (d + 1) 225 [vR 63, vI x1] (s, g_rho) (some (vI o.1), (o.2, g_rho)) := by
  refine iEE.of (wr := false) (d := d + 0) (md := gm_225) rfl rfl rfl (iRR.of 401 ?_)
  refine iRT.ov h fun h => ?_
  refine iRT.ck h fun h => ?_
  cases h
  exact iRT.ret
-- GutterNineModel.things
set_option maxHeartbeats 100000 in
theorem f221_63_ok (L N d : Nat) (s : gI) {o : Int × gI} (h : f221 N  s = some o) : iEE L (d + 1) 221 [vR 63] (s, g_rho) (some (vI o.1), (o.2, g_rho)) := by
  refine iEE.of (wr := false) (d := d + 0) (md := gm_221) rfl rfl rfl (iRR.of 401 ?_)
  replace h := (ick_inv h).2.2
  cases h
  exact iRT.ret
-- GutterNineModel.thingAt
set_option maxHeartbeats 100000 in
theorem f227_63_at43_ok (L N d : Nat) {r_at6 : Int → Int → Int → Int → Int → gI → Option (Int × gI)} (h_at6 : ∀ x1 x2 x3 x4 x5 s o, r_at6 x1 x2 x3 x4 x5 s = some o → iRR false L (d + 1) kj227 k227_6 [some (vR 63), some (vI x1), some (vI x2), some (vI x3), some (vI x4), some (vI x5)] [] (s, g_rho) (some (vI o.1), (o.2, g_rho))) (x1 : Int) (x2 : Int) (x3 : Int) (x4 : Int) (x5 : Int) (s : gI) {o : Int × gI} (h : f227_at43 N r_at6 x1 x2 x3 x4 x5 s = some o) : iRR false L (d + 1) kj227 k227_43 [some (vR 63), some (vI x1), some (vI x2), some (vI x3), some (vI x4), some (vI x5)] [] (s, g_rho) (some (vI o.1), (o.2, g_rho)) := by
  refine iRR.of 5 ?_
  refine iRT.ov h fun h => ?_
  exact iRT.go 1 (h_at6 _ _ _ _ _ _ _ h) (fun _ _ => rfl)
set_option maxHeartbeats 100000 in
theorem f227_63_at6_ok (L N d : Nat) : ∀ (n : Nat) (x1 : Int) (x2 : Int) (x3 : Int) (x4 : Int) (x5 : Int) (s : gI) (o : Int × gI), f227_at6 N n x1 x2 x3 x4 x5 s = some o → iRR false L (d + 1) kj227 k227_6 [some (vR 63), some (vI x1), some (vI x2), some (vI x3), some (vI x4), some (vI x5)] [] (s, g_rho) (some (vI o.1), (o.2, g_rho)) := by
  intro n
  induction n with
  | zero => intro _ _ _ _ _ _ _ h; cases h
  | succ n ih =>
    intro x1 x2 x3 x4 x5 s o h
    refine iRR.of 401 ?_
    obtain ⟨i2, s1, h1, h⟩ := i_o2_inv h
    refine iRT.call (f221_63_ok L N (d + 0)  _ h1) ?_
    refine iRT.ite h (fun h => ?_) (fun h => ?_)
    · cases h
      exact iRT.ret
    · refine iRT.ite h (fun h => ?_) (fun h => ?_)
      · cases h
        exact iRT.ret
      · refine iRT.ite h (fun h => ?_) (fun h => ?_)
        · exact iRT.go 0 (f227_63_at43_ok L N d (fun a0 a1 a2 a3 a4  s o h => ih a0 a1 a2 a3 a4 s o h) _ _ _ _ _ _ h) (fun _ _ => rfl)
        · refine iRT.ov h fun h => ?_
          refine iRT.ck h fun h => ?_
          refine iRT.ite h (fun h => ?_) (fun h => ?_)
          · refine iRT.ov h fun h => ?_
            exact iRT.go 1 (ih _ _ _ _ _ _ _ h) (fun _ _ => rfl)
          · exact iRT.go 0 (f227_63_at43_ok L N d (fun a0 a1 a2 a3 a4  s o h => ih a0 a1 a2 a3 a4 s o h) _ _ _ _ _ _ h) (fun _ _ => rfl)
set_option maxHeartbeats 100000 in
theorem f227_63_ok (L N d : Nat) (x1 : Int) (x2 : Int) (x3 : Int) (s : gI) {o : Int × gI} (h : f227 N x1 x2 x3 s = some o) : iEE L (d + 2) 227 [vR 63, vI x1, vI x2, vI x3] (s, g_rho) (some (vI o.1), (o.2, g_rho)) := by
  refine iEE.of (wr := false) (d := d + 1) (md := gm_227) rfl rfl rfl (iRR.of 5 ?_)
  exact iRT.go 4 (f227_63_at6_ok L N d N _ _ _ _ _ _ _ h) (fun _ _ => rfl)
-- GutterNineModel.tile
set_option maxHeartbeats 100000 in
theorem f238_63_ok (L N d : Nat) (x1 : Int) (x2 : Int) (x3 : Int) (s : gI) {o : Int × gI} (h : f238 N x1 x2 x3 s = some o) : iEE L (d + 3) 238 [vR 63, vI x1, vI x2, vI x3] (s, g_rho) (some (vI o.1), (o.2, g_rho)) := by
  refine iEE.of (wr := false) (d := d + 2) (md := gm_238) rfl rfl rfl (iRR.of 401 ?_)
  delta f238 at h
  obtain ⟨i3, s2, h1, h⟩ := i_o2_inv h
  refine iRT.call (f224_63_ok L N (d + 0) _ _ _ h1) ?_
  refine iRT.ite h (fun h => ?_) (fun h => ?_)
  · cases h
    exact iRT.ret
  · obtain ⟨i5, s4, h1, h⟩ := i_o2_inv h
    refine iRT.call (f189_ok L N (d + 1) _ _ _ _ h1) ?_
    refine iRT.ite h (fun h => ?_) (fun h => ?_)
    · cases h
      exact iRT.ret
    · refine iRT.ov h fun h => ?_
      refine iRT.ov h fun h => ?_
      refine iRT.ite h (fun h => ?_) (fun h => ?_)
      · obtain ⟨i14, s13, h1, h⟩ := i_o2_inv h
        refine iRT.call (f225_63_ok L N (d + 1) _ _ h1) ?_
        cases h
        exact iRT.ret
      · obtain ⟨i8, s7, h1, h⟩ := i_o2_inv h
        refine iRT.call (f225_63_ok L N (d + 1) _ _ h1) ?_
        refine iRT.ite h (fun h => ?_) (fun h => ?_)
        · refine iRT.ov h fun h => ?_
          obtain ⟨i12, s11, h1, h⟩ := i_o2_inv h
          refine iRT.call (f227_63_ok L N (d + 0) _ _ _ _ h1) ?_
          cases h
          exact iRT.ret
        · obtain ⟨i10, s9, h1, h⟩ := i_o2_inv h
          refine iRT.call (f227_63_ok L N (d + 0) _ _ _ _ h1) ?_
          cases h
          exact iRT.ret
-- GutterNineModel.isThing
set_option maxHeartbeats 100000 in
theorem f223_63_ok (L N d : Nat) (x1 : Int) (s : gI) {o : Int × gI} (h : f223 N x1 s = some o) : iEE L (d + 2) 223 [vR 63, vI x1] (s, g_rho) (some (vI o.1), (o.2, g_rho)) := by
  refine iEE.of (wr := false) (d := d + 1) (md := gm_223) rfl rfl rfl (iRR.of 401 ?_)
  refine iRT.ite h (fun h => ?_) (fun h => ?_)
  · replace h := (ib1_inv h).2
    cases h
    exact iRT.ret
  · obtain ⟨i2, s1, h1, h⟩ := i_o2_inv h
    refine iRT.call (f221_63_ok L N (d + 0)  _ h1) ?_
    refine iRT.ite h (fun h => ?_) (fun h => ?_)
    · replace h := (ib1_inv h).2
      cases h
      exact iRT.ret
    · replace h := (ib1_inv h).2
      cases h
      exact iRT.ret
-- GutterNineModel.toldPlace
set_option maxHeartbeats 100000 in
theorem f237_ok (L N d : Nat) (x0 : Int) (s : gI) {o : Int × gI} (h : f237 N x0 s = some o) : iEE L (d + 1) 237 [vI x0] (s, g_rho) (some (vI o.1), (o.2, g_rho)) := by
  refine iEE.of (wr := false) (d := d + 0) (md := gm_237) rfl rfl rfl (iRR.of 401 ?_)
  refine iRT.ite h (fun h => ?_) (fun h => ?_)
  · cases h
    exact iRT.ret
  · cases h
    exact iRT.ret
-- GutterNineModel.thingOf
set_option maxHeartbeats 100000 in
theorem f226_63_ok (L N d : Nat) (x1 : Int) (x2 : Int) (s : gI) {o : Int × gI} (h : f226 N x1 x2 s = some o) : iEE L (d + 1) 226 [vR 63, vI x1, vI x2] (s, g_rho) (some (vI o.1), (o.2, g_rho)) := by
  refine iEE.of (wr := false) (d := d + 0) (md := gm_226) rfl rfl rfl (iRR.of 401 ?_)
  refine iRT.ov h fun h => ?_
  refine iRT.ov h fun h => ?_
  refine iRT.ov h fun h => ?_
  refine iRT.ck h fun h => ?_
  cases h
  exact iRT.ret
-- GutterNineModel.thing
set_option maxHeartbeats 100000 in
theorem f239_63_ok (L N d : Nat) (x1 : Int) (x2 : Int) (s : gI) {o : Int × gI} (h : f239 N x1 x2 s = some o) : iEE L (d + 3) 239 [vR 63, vI x1, vI x2] (s, g_rho) (some (vI o.1), (o.2, g_rho)) := by
  refine iEE.of (wr := false) (d := d + 2) (md := gm_239) rfl rfl rfl (iRR.of 401 ?_)
  delta f239 at h
  obtain ⟨i3, s2, h1, h⟩ := i_o2_inv h
  refine iRT.call (f223_63_ok L N (d + 0) _ _ h1) ?_
  refine iRT.ite h (fun h => ?_) (fun h => ?_)
  · cases h
    exact iRT.ret
  · obtain ⟨i5, s4, h1, h⟩ := i_o2_inv h
    refine iRT.call (f189_ok L N (d + 1) _ _ _ _ h1) ?_
    refine iRT.ite h (fun h => ?_) (fun h => ?_)
    · cases h
      exact iRT.ret
    · refine iRT.ite h (fun h => ?_) (fun h => ?_)
      · refine iRT.ite h (fun h => ?_) (fun h => ?_)
        · refine iRT.ck h fun h => ?_
          obtain ⟨i7, s6, h1, h⟩ := i_o2_inv h
          refine iRT.call (f237_ok L N (d + 1) _ _ h1) ?_
          cases h
          exact iRT.ret
        · refine iRT.ov h fun h => ?_
          refine iRT.ck h fun h => ?_
          cases h
          exact iRT.ret
      · obtain ⟨i9, s8, h1, h⟩ := i_o2_inv h
        refine iRT.call (f226_63_ok L N (d + 1) _ _ _ h1) ?_
        cases h
        exact iRT.ret
-- GutterNineModel.people
set_option maxHeartbeats 100000 in
theorem f220_63_ok (L N d : Nat) (s : gI) {o : Int × gI} (h : f220 N  s = some o) : iEE L (d + 1) 220 [vR 63] (s, g_rho) (some (vI o.1), (o.2, g_rho)) := by
  refine iEE.of (wr := false) (d := d + 0) (md := gm_220) rfl rfl rfl (iRR.of 401 ?_)
  replace h := (ick_inv h).2.2
  cases h
  exact iRT.ret
-- GutterNineModel.isPerson
set_option maxHeartbeats 100000 in
theorem f222_63_ok (L N d : Nat) (x1 : Int) (s : gI) {o : Int × gI} (h : f222 N x1 s = some o) : iEE L (d + 2) 222 [vR 63, vI x1] (s, g_rho) (some (vI o.1), (o.2, g_rho)) := by
  refine iEE.of (wr := false) (d := d + 1) (md := gm_222) rfl rfl rfl (iRR.of 401 ?_)
  refine iRT.ite h (fun h => ?_) (fun h => ?_)
  · replace h := (ib1_inv h).2
    cases h
    exact iRT.ret
  · obtain ⟨i2, s1, h1, h⟩ := i_o2_inv h
    refine iRT.call (f220_63_ok L N (d + 0)  _ h1) ?_
    refine iRT.ite h (fun h => ?_) (fun h => ?_)
    · replace h := (ib1_inv h).2
      cases h
      exact iRT.ret
    · replace h := (ib1_inv h).2
      cases h
      exact iRT.ret
-- GutterNineModel.arm
set_option maxHeartbeats 100000 in
theorem f240_63_ok (L N d : Nat) (x1 : Int) (s : gI) {o : Int × gI} (h : f240 N x1 s = some o) : iEE L (d + 3) 240 [vR 63, vI x1] (s, g_rho) (some (vI o.1), (o.2, g_rho)) := by
  refine iEE.of (wr := false) (d := d + 2) (md := gm_240) rfl rfl rfl (iRR.of 401 ?_)
  delta f240 at h
  obtain ⟨i3, s2, h1, h⟩ := i_o2_inv h
  refine iRT.call (f222_63_ok L N (d + 0) _ _ h1) ?_
  refine iRT.ite h (fun h => ?_) (fun h => ?_)
  · cases h
    exact iRT.ret
  · refine iRT.ov h fun h => ?_
    refine iRT.ck h fun h => ?_
    cases h
    exact iRT.ret
-- GutterNineModel.mayThrow
set_option maxHeartbeats 100000 in
theorem f241_63_ok (L N d : Nat) (x1 : Int) (x2 : Int) (x3 : Int) (x4 : Int) (s : gI) {o : Int × gI} (h : f241 N x1 x2 x3 x4 s = some o) : iEE L (d + 3) 241 [vR 63, vI x1, vI x2, vI x3, vI x4] (s, g_rho) (some (vI o.1), (o.2, g_rho)) := by
  refine iEE.of (wr := false) (d := d + 2) (md := gm_241) rfl rfl rfl (iRR.of 401 ?_)
  obtain ⟨i2, s1, h1, h⟩ := i_o2_inv h
  refine iRT.call (f222_63_ok L N (d + 0) _ _ h1) ?_
  refine iRT.ite h (fun h => ?_) (fun h => ?_)
  · replace h := (ib1_inv h).2
    cases h
    exact iRT.ret
  · obtain ⟨i4, s3, h1, h⟩ := i_o2_inv h
    refine iRT.call (f223_63_ok L N (d + 0) _ _ h1) ?_
    refine iRT.ite h (fun h => ?_) (fun h => ?_)
    · replace h := (ib1_inv h).2
      cases h
      exact iRT.ret
    · obtain ⟨i6, s5, h1, h⟩ := i_o2_inv h
      refine iRT.call (f224_63_ok L N (d + 0) _ _ _ h1) ?_
      refine iRT.ite h (fun h => ?_) (fun h => ?_)
      · replace h := (ib1_inv h).2
        cases h
        exact iRT.ret
      · refine iRT.ck h fun h => ?_
        refine iRT.ite h (fun h => ?_) (fun h => ?_)
        · replace h := (ib1_inv h).2
          cases h
          exact iRT.ret
        · replace h := (ib1_inv h).2
          cases h
          exact iRT.ret
-- GutterNineModel.copies
set_option maxHeartbeats 100000 in
theorem f215_63_at3_ok (L N d : Nat) : ∀ (n : Nat) (x1 : Int) (x2 : Int) (x3 : Int) (x4 : Int) (s : gI) (o : gI), f215_at3 N n x1 x2 x3 x4 s = some o → iRR false L (d + 0) kj215 k215_3 [some (vR 63), some (vI x1), some (vI x2), some (vI x3), some (vI x4)] [] (s, g_rho) (none, (o, g_rho)) := by
  intro n
  induction n with
  | zero => intro _ _ _ _ _ _ h; cases h
  | succ n ih =>
    intro x1 x2 x3 x4 s o h
    refine iRR.of 401 ?_
    refine iRT.ite h (fun h => ?_) (fun h => ?_)
    · cases h
      exact iRT.ret
    · refine iRT.ov h fun h => ?_
      refine iRT.ov h fun h => ?_
      refine iRT.ck h fun h => ?_
      refine iRT.ck h fun h => ?_
      refine iRT.ov h fun h => ?_
      exact iRT.go 1 (ih _ _ _ _ _ _ h) (fun _ _ => rfl)
set_option maxHeartbeats 100000 in
theorem f215_63_ok (L N d : Nat) (x1 : Int) (x2 : Int) (x3 : Int) (s : gI) {o : gI} (h : f215 N x1 x2 x3 s = some o) : iEE L (d + 1) 215 [vR 63, vI x1, vI x2, vI x3] (s, g_rho) (none, (o, g_rho)) := by
  refine iEE.of (wr := false) (d := d + 0) (md := gm_215) rfl rfl rfl (iRR.of 3 ?_)
  exact iRT.go 2 (f215_63_at3_ok L N d N _ _ _ _ _ _ h) (fun _ _ => rfl)
-- GutterNineModel.keeps
set_option maxHeartbeats 100000 in
theorem f217_63_at53_ok (L N d : Nat) {u1 : Option iV} (s : gI) {o : gI} (h : f217_at53 N  s = some o) : iRR false L (d + 1) kj217 k217_53 [some (vR 63), u1] [] (s, g_rho) (none, (o, g_rho)) := by
  refine iRR.of 401 ?_
  refine iRT.ov h fun h => ?_
  refine iRT.ov h fun h => ?_
  obtain ⟨s1, h1, h⟩ := i_o1_inv h
  refine iRT.call (f215_63_ok L N (d + 0) _ _ _ _ h1) ?_
  refine iRT.ov h fun h => ?_
  cases h
  exact iRT.ret
set_option maxHeartbeats 100000 in
theorem f217_63_at11_ok (L N d : Nat) : ∀ (n : Nat) (x1 : Int) (s : gI) (o : gI), f217_at11 N n x1 s = some o → iRR false L (d + 1) kj217 k217_11 [some (vR 63), some (vI x1)] [] (s, g_rho) (none, (o, g_rho)) := by
  intro n
  induction n with
  | zero => intro _ _ _ h; cases h
  | succ n ih =>
    intro x1 s o h
    refine iRR.of 21 ?_
    refine iRT.ite h (fun h => ?_) (fun h => ?_)
    · refine iRT.ov h fun h => ?_
      exact iRT.go 1 (f217_63_at53_ok L N d  _ h) (fun _ _ => rfl)
    · refine iRT.ov h fun h => ?_
      refine iRT.ov h fun h => ?_
      refine iRT.ov h fun h => ?_
      refine iRT.ov h fun h => ?_
      refine iRT.ov h fun h => ?_
      obtain ⟨s2, h1, h⟩ := i_o1_inv h
      refine iRT.call (f215_63_ok L N (d + 0) _ _ _ _ h1) ?_
      refine iRT.ov h fun h => ?_
      exact iRT.go 1 (ih _ _ _ h) (fun _ _ => rfl)
set_option maxHeartbeats 100000 in
theorem f217_63_ok (L N d : Nat) (s : gI) {o : gI} (h : f217 N  s = some o) : iEE L (d + 2) 217 [vR 63] (s, g_rho) (none, (o, g_rho)) := by
  refine iEE.of (wr := false) (d := d + 1) (md := gm_217) rfl rfl rfl (iRR.of 7 ?_)
  refine iRT.ite h (fun h => ?_) (fun h => ?_)
  · exact iRT.go 2 (f217_63_at11_ok L N d N _ _ _ h) (fun _ _ => rfl)
  · exact iRT.go 0 (f217_63_at53_ok L N d  _ h) (fun _ _ => rfl)
-- GutterNineModel.slipX
set_option maxHeartbeats 100000 in
theorem f233_at20_ok (L N d : Nat) (z0 : Int) {u0 : Option iV} {u1 : Option iV} (s : gI) {o : Int × gI} (h : f233_at20 N z0 s = some o) : iRR false L (d + 0) kj233 k233_20 [u0, u1] [vI z0] (s, g_rho) (some (vI o.1), (o.2, g_rho)) := by
  refine iRR.of 401 ?_
  refine iRT.dv h fun h => ?_
  refine iRT.ov h fun h => ?_
  cases h
  exact iRT.ret
set_option maxHeartbeats 100000 in
theorem f233_ok (L N d : Nat) (x0 : Int) (s : gI) {o : Int × gI} (h : f233 N x0 s = some o) : iEE L (d + 1) 233 [vI x0] (s, g_rho) (some (vI o.1), (o.2, g_rho)) := by
  refine iEE.of (wr := false) (d := d + 0) (md := gm_233) rfl rfl rfl (iRR.of 10 ?_)
  refine iRT.ite h (fun h => ?_) (fun h => ?_)
  · exact iRT.go 2 (f233_at20_ok L N d _ _ h) (fun _ _ => rfl)
  · refine iRT.ite h (fun h => ?_) (fun h => ?_)
    · exact iRT.go 1 (f233_at20_ok L N d _ _ h) (fun _ _ => rfl)
    · refine iRT.ov h fun h => ?_
      exact iRT.go 1 (f233_at20_ok L N d _ _ h) (fun _ _ => rfl)
-- GutterNineModel.slipY
set_option maxHeartbeats 100000 in
theorem f234_at20_ok (L N d : Nat) (z0 : Int) {u0 : Option iV} {u1 : Option iV} (s : gI) {o : Int × gI} (h : f234_at20 N z0 s = some o) : iRR false L (d + 0) kj234 k234_20 [u0, u1] [vI z0] (s, g_rho) (some (vI o.1), (o.2, g_rho)) := by
  refine iRR.of 401 ?_
  refine iRT.dv h fun h => ?_
  refine iRT.ov h fun h => ?_
  cases h
  exact iRT.ret
set_option maxHeartbeats 100000 in
theorem f234_ok (L N d : Nat) (x0 : Int) (s : gI) {o : Int × gI} (h : f234 N x0 s = some o) : iEE L (d + 1) 234 [vI x0] (s, g_rho) (some (vI o.1), (o.2, g_rho)) := by
  refine iEE.of (wr := false) (d := d + 0) (md := gm_234) rfl rfl rfl (iRR.of 10 ?_)
  refine iRT.ite h (fun h => ?_) (fun h => ?_)
  · exact iRT.go 2 (f234_at20_ok L N d _ _ h) (fun _ _ => rfl)
  · refine iRT.ite h (fun h => ?_) (fun h => ?_)
    · exact iRT.go 1 (f234_at20_ok L N d _ _ h) (fun _ _ => rfl)
    · refine iRT.ov h fun h => ?_
      exact iRT.go 1 (f234_at20_ok L N d _ _ h) (fun _ _ => rfl)
-- GutterNineModel.comesTo
set_option maxHeartbeats 100000 in
theorem f228_63_ok (L N d : Nat) (x1 : Int) (x2 : Int) (x3 : Int) (x4 : Int) (s : gI) {o : Int × gI} (h : f228 N x1 x2 x3 x4 s = some o) : iEE L (d + 3) 228 [vR 63, vI x1, vI x2, vI x3, vI x4] (s, g_rho) (some (vI o.1), (o.2, g_rho)) := by
  refine iEE.of (wr := false) (d := d + 2) (md := gm_228) rfl rfl rfl (iRR.of 401 ?_)
  refine iRT.ite h (fun h => ?_) (fun h => ?_)
  · cases h
    exact iRT.ret
  · obtain ⟨i2, s1, h1, h⟩ := i_o2_inv h
    refine iRT.call (f218_63_ok L N (d + 1)  _ h1) ?_
    refine iRT.ite h (fun h => ?_) (fun h => ?_)
    · cases h
      exact iRT.ret
    · obtain ⟨i4, s3, h1, h⟩ := i_o2_inv h
      refine iRT.call (f219_63_ok L N (d + 1)  _ h1) ?_
      refine iRT.ite h (fun h => ?_) (fun h => ?_)
      · refine iRT.ite h (fun h => ?_) (fun h => ?_)
        · refine iRT.ov h fun h => ?_
          refine iRT.ov h fun h => ?_
          obtain ⟨i7, s6, h1, h⟩ := i_o2_inv h
          refine iRT.call (f225_63_ok L N (d + 1) _ _ h1) ?_
          refine iRT.ite h (fun h => ?_) (fun h => ?_)
          · cases h
            exact iRT.ret
          · obtain ⟨i9, s8, h1, h⟩ := i_o2_inv h
            refine iRT.call (f227_63_ok L N (d + 0) _ _ _ _ h1) ?_
            refine iRT.ite h (fun h => ?_) (fun h => ?_)
            · obtain ⟨i11, s10, h1, h⟩ := i_o2_inv h
              refine iRT.call (f225_63_ok L N (d + 1) _ _ h1) ?_
              refine iRT.ite h (fun h => ?_) (fun h => ?_)
              · refine iRT.ov h fun h => ?_
                obtain ⟨i13, s12, h1, h⟩ := i_o2_inv h
                refine iRT.call (f227_63_ok L N (d + 0) _ _ _ _ h1) ?_
                refine iRT.ite h (fun h => ?_) (fun h => ?_)
                · refine iRT.ov h fun h => ?_
                  cases h
                  exact iRT.ret
                · cases h
                  exact iRT.ret
              · cases h
                exact iRT.ret
            · cases h
              exact iRT.ret
        · cases h
          exact iRT.ret
      · cases h
        exact iRT.ret
-- GutterNineModel.across
set_option maxHeartbeats 100000 in
theorem f229_ok (L N d : Nat) (x0 : Int) (s : gI) {o : Int × gI} (h : f229 N x0 s = some o) : iEE L (d + 1) 229 [vI x0] (s, g_rho) (some (vI o.1), (o.2, g_rho)) := by
  refine iEE.of (wr := false) (d := d + 0) (md := gm_229) rfl rfl rfl (iRR.of 401 ?_)
  refine iRT.ite h (fun h => ?_) (fun h => ?_)
  · cases h
    exact iRT.ret
  · refine iRT.ite h (fun h => ?_) (fun h => ?_)
    · cases h
      exact iRT.ret
    · cases h
      exact iRT.ret
-- GutterNineModel.along
set_option maxHeartbeats 100000 in
theorem f230_ok (L N d : Nat) (x0 : Int) (s : gI) {o : Int × gI} (h : f230 N x0 s = some o) : iEE L (d + 1) 230 [vI x0] (s, g_rho) (some (vI o.1), (o.2, g_rho)) := by
  refine iEE.of (wr := false) (d := d + 0) (md := gm_230) rfl rfl rfl (iRR.of 401 ?_)
  refine iRT.ite h (fun h => ?_) (fun h => ?_)
  · cases h
    exact iRT.ret
  · refine iRT.ite h (fun h => ?_) (fun h => ?_)
    · cases h
      exact iRT.ret
    · cases h
      exact iRT.ret
-- GutterNineModel.rolled
set_option maxHeartbeats 100000 in
theorem f231_63_at116_ok (L N d : Nat) {r_at26 : Int → Int → Int → Int → Int → Int → gI → Option (Int × gI)} (h_at26 : ∀ x1 x2 x3 x5 y6 x8 u4 u9 u10 s o, r_at26 x1 x2 x3 x5 y6 x8 s = some o → iRR false L (d + 3) kj231 k231_26 [some (vR 63), some (vI x1), some (vI x2), some (vI x3), u4, some (vI x5), some (vJ y6), none, some (vI x8), u9, u10] [] (s, g_rho) (some (vI o.1), (o.2, g_rho))) (x1 : Int) (x2 : Int) (x3 : Int) (y6 : Int) (x10 : Int) {u4 : Option iV} {u5 : Option iV} {u8 : Option iV} {u9 : Option iV} (s : gI) {o : Int × gI} (h : f231_at116 N r_at26 x1 x2 x3 y6 x10 s = some o) : iRR false L (d + 3) kj231 k231_116 [some (vR 63), some (vI x1), some (vI x2), some (vI x3), u4, u5, some (vJ y6), none, u8, u9, some (vI x10)] [] (s, g_rho) (some (vI o.1), (o.2, g_rho)) := by
  refine iRR.of 401 ?_
  refine iRT.ite h (fun h => ?_) (fun h => ?_)
  · refine iRT.ite h (fun h => ?_) (fun h => ?_)
    · exact iRT.go 4 (h_at26 _ _ _ _ _ _ _ _ _ _ _ h) (fun _ _ => rfl)
    · exact iRT.go 3 (h_at26 _ _ _ _ _ _ _ _ _ _ _ h) (fun _ _ => rfl)
  · cases h
    exact iRT.ret
set_option maxHeartbeats 100000 in
theorem f231_63_at87_ok (L N d : Nat) {r_at26 : Int → Int → Int → Int → Int → Int → gI → Option (Int × gI)} (h_at26 : ∀ x1 x2 x3 x5 y6 x8 u4 u9 u10 s o, r_at26 x1 x2 x3 x5 y6 x8 s = some o → iRR false L (d + 3) kj231 k231_26 [some (vR 63), some (vI x1), some (vI x2), some (vI x3), u4, some (vI x5), some (vJ y6), none, some (vI x8), u9, u10] [] (s, g_rho) (some (vI o.1), (o.2, g_rho))) (x1 : Int) (x2 : Int) (x3 : Int) (x5 : Int) (y6 : Int) (z0 : Int) {u4 : Option iV} {u8 : Option iV} {u9 : Option iV} {u10 : Option iV} (s : gI) {o : Int × gI} (h : f231_at87 N r_at26 x1 x2 x3 x5 y6 z0 s = some o) : iRR false L (d + 3) kj231 k231_87 [some (vR 63), some (vI x1), some (vI x2), some (vI x3), u4, some (vI x5), some (vJ y6), none, u8, u9, u10] [vI z0] (s, g_rho) (some (vI o.1), (o.2, g_rho)) := by
  refine iRR.of 401 ?_
  refine iRT.ite h (fun h => ?_) (fun h => ?_)
  · cases h
    exact iRT.ret
  · refine iRT.ite h (fun h => ?_) (fun h => ?_)
    · exact iRT.go 0 (f231_63_at116_ok L N d h_at26 _ _ _ _ _ _ h) (fun _ _ => rfl)
    · refine iRT.ite h (fun h => ?_) (fun h => ?_)
      · cases h
        exact iRT.ret
      · exact iRT.go 0 (f231_63_at116_ok L N d h_at26 _ _ _ _ _ _ h) (fun _ _ => rfl)
set_option maxHeartbeats 100000 in
theorem f231_63_at59_ok (L N d : Nat) {r_at26 : Int → Int → Int → Int → Int → Int → gI → Option (Int × gI)} (h_at26 : ∀ x1 x2 x3 x5 y6 x8 u4 u9 u10 s o, r_at26 x1 x2 x3 x5 y6 x8 s = some o → iRR false L (d + 3) kj231 k231_26 [some (vR 63), some (vI x1), some (vI x2), some (vI x3), u4, some (vI x5), some (vJ y6), none, some (vI x8), u9, u10] [] (s, g_rho) (some (vI o.1), (o.2, g_rho))) (x1 : Int) (x2 : Int) (x3 : Int) (x5 : Int) (y6 : Int) (x9 : Int) {u4 : Option iV} {u8 : Option iV} {u10 : Option iV} (s : gI) {o : Int × gI} (h : f231_at59 N r_at26 x1 x2 x3 x5 y6 x9 s = some o) : iRR false L (d + 3) kj231 k231_59 [some (vR 63), some (vI x1), some (vI x2), some (vI x3), u4, some (vI x5), some (vJ y6), none, u8, some (vI x9), u10] [] (s, g_rho) (some (vI o.1), (o.2, g_rho)) := by
  refine iRR.of 17 ?_
  refine iRT.dv h fun h => ?_
  obtain ⟨i2, s1, h1, h⟩ := i_o2_inv h
  refine iRT.call (f229_ok L N (d + 2) _ _ h1) ?_
  refine iRT.ov h fun h => ?_
  refine iRT.dv h fun h => ?_
  obtain ⟨i4, s3, h1, h⟩ := i_o2_inv h
  refine iRT.call (f230_ok L N (d + 2) _ _ h1) ?_
  refine iRT.ov h fun h => ?_
  obtain ⟨i6, s5, h1, h⟩ := i_o2_inv h
  refine iRT.call (f228_63_ok L N (d + 0) _ _ _ _ _ h1) ?_
  exact iRT.go 0 (f231_63_at87_ok L N d h_at26 _ _ _ _ _ _ _ h) (fun _ _ => rfl)
set_option maxHeartbeats 100000 in
theorem f231_63_at26_ok (L N d : Nat) : ∀ (n : Nat) (x1 : Int) (x2 : Int) (x3 : Int) (x5 : Int) (y6 : Int) (x8 : Int) {u4 u9 u10 : Option iV} (s : gI) (o : Int × gI), f231_at26 N n x1 x2 x3 x5 y6 x8 s = some o → iRR false L (d + 3) kj231 k231_26 [some (vR 63), some (vI x1), some (vI x2), some (vI x3), u4, some (vI x5), some (vJ y6), none, some (vI x8), u9, u10] [] (s, g_rho) (some (vI o.1), (o.2, g_rho)) := by
  intro n
  induction n with
  | zero => intro _ _ _ _ _ _ _ _ _ _ _ h; cases h
  | succ n ih =>
    intro x1 x2 x3 x5 y6 x8 u4 u9 u10 s o h
    refine iRR.of 401 ?_
    refine iRT.ite h (fun h => ?_) (fun h => ?_)
    · cases h
      exact iRT.ret
    · obtain ⟨i2, s1, h1, h⟩ := i_o2_inv h
      refine iRT.call (f225_63_ok L N (d + 2) _ _ h1) ?_
      obtain ⟨i4, s3, h1, h⟩ := i_o2_inv h
      refine iRT.call (f229_ok L N (d + 2) _ _ h1) ?_
      refine iRT.ite h (fun h => ?_) (fun h => ?_)
      · obtain ⟨i6, s5, h1, h⟩ := i_o2_inv h
        refine iRT.call (f230_ok L N (d + 2) _ _ h1) ?_
        refine iRT.ite h (fun h => ?_) (fun h => ?_)
        · exact iRT.go 2 (f231_63_at87_ok L N d (fun a0 a1 a2 a3 a4 a5 b0 b1 b2 s o h => ih a0 a1 a2 a3 a4 a5 s o h) _ _ _ _ _ _ _ h) (fun _ _ => rfl)
        · exact iRT.go 0 (f231_63_at59_ok L N d (fun a0 a1 a2 a3 a4 a5 b0 b1 b2 s o h => ih a0 a1 a2 a3 a4 a5 s o h) _ _ _ _ _ _ _ h) (fun _ _ => rfl)
      · exact iRT.go 0 (f231_63_at59_ok L N d (fun a0 a1 a2 a3 a4 a5 b0 b1 b2 s o h => ih a0 a1 a2 a3 a4 a5 s o h) _ _ _ _ _ _ _ h) (fun _ _ => rfl)
set_option maxHeartbeats 100000 in
theorem f231_63_ok (L N d : Nat) (x1 : Int) (x2 : Int) (x3 : Int) (x4 : Int) (s : gI) {o : Int × gI} (h : f231 N x1 x2 x3 x4 s = some o) : iEE L (d + 4) 231 [vR 63, vI x1, vI x2, vI x3, vI x4] (s, g_rho) (some (vI o.1), (o.2, g_rho)) := by
  refine iEE.of (wr := false) (d := d + 3) (md := gm_231) rfl rfl rfl (iRR.of 15 ?_)
  refine iRT.ite h (fun h => ?_) (fun h => ?_)
  · exact iRT.go 3 (f231_63_at26_ok L N d N _ _ _ _ _ _ _ _ h) (fun _ _ => rfl)
  · refine iRT.ite h (fun h => ?_) (fun h => ?_)
    · exact iRT.go 3 (f231_63_at26_ok L N d N _ _ _ _ _ _ _ _ h) (fun _ _ => rfl)
    · exact iRT.go 2 (f231_63_at26_ok L N d N _ _ _ _ _ _ _ _ h) (fun _ _ => rfl)
-- GutterNineModel.rollsOn
set_option maxHeartbeats 100000 in
theorem f232_63_ok (L N d : Nat) (x1 : Int) (x2 : Int) (s : gI) {o : gI} (h : f232 N x1 x2 s = some o) : iEE L (d + 5) 232 [vR 63, vI x1, vI x2] (s, g_rho) (none, (o, g_rho)) := by
  refine iEE.of (wr := false) (d := d + 4) (md := gm_232) rfl rfl rfl (iRR.of 401 ?_)
  refine iRT.ov h fun h => ?_
  refine iRT.ck h fun h => ?_
  refine iRT.ite h (fun h => ?_) (fun h => ?_)
  · cases h
    exact iRT.ret
  · refine iRT.ov h fun h => ?_
    obtain ⟨i2, s1, h1, h⟩ := i_o2_inv h
    refine iRT.call (f226_63_ok L N (d + 3) _ _ _ h1) ?_
    refine iRT.ov h fun h => ?_
    refine iRT.ck h fun h => ?_
    obtain ⟨i4, s3, h1, h⟩ := i_o2_inv h
    refine iRT.call (f231_63_ok L N (d + 0) _ _ _ _ _ h1) ?_
    refine iRT.ck h fun h => ?_
    cases h
    exact iRT.ret
-- GutterNineModel.knocks
set_option maxHeartbeats 100000 in
theorem f236_63_at77_ok (L N d : Nat) (x1 : Int) (x2 : Int) (z0 : Int) (z1 : Int) {u3 : Option iV} {u4 : Option iV} {u5 : Option iV} {u6 : Option iV} {u7 : Option iV} (s : gI) {o : gI} (h : f236_at77 N x1 x2 z0 z1 s = some o) : iRR false L (d + 5) kj236 k236_77 [some (vR 63), some (vI x1), some (vI x2), u3, u4, u5, u6, u7] [vI z0, vI z1, vR 78] (s, g_rho) (none, (o, g_rho)) := by
  refine iRR.of 401 ?_
  refine iRT.ck h fun h => ?_
  obtain ⟨s2, h1, h⟩ := i_o1_inv h
  refine iRT.call (f232_63_ok L N (d + 0) _ _ _ h1) ?_
  cases h
  exact iRT.ret
set_option maxHeartbeats 100000 in
theorem f236_63_at56_ok (L N d : Nat) (x1 : Int) (x2 : Int) (x6 : Int) (z0 : Int) {u3 : Option iV} {u4 : Option iV} {u5 : Option iV} {u7 : Option iV} (s : gI) {o : gI} (h : f236_at56 N x1 x2 x6 z0 s = some o) : iRR false L (d + 5) kj236 k236_56 [some (vR 63), some (vI x1), some (vI x2), u3, u4, u5, some (vI x6), u7] [vI z0] (s, g_rho) (none, (o, g_rho)) := by
  refine iRR.of 11 ?_
  refine iRT.ov h fun h => ?_
  refine iRT.ite h (fun h => ?_) (fun h => ?_)
  · exact iRT.go 1 (f236_63_at77_ok L N d _ _ _ _ _ h) (fun _ _ => rfl)
  · exact iRT.go 2 (f236_63_at77_ok L N d _ _ _ _ _ h) (fun _ _ => rfl)
set_option maxHeartbeats 100000 in
theorem f236_63_at55_ok (L N d : Nat) (x1 : Int) (x2 : Int) (x6 : Int) {u3 : Option iV} {u4 : Option iV} {u5 : Option iV} {u7 : Option iV} (s : gI) {o : gI} (h : f236_at55 N x1 x2 x6 s = some o) : iRR false L (d + 5) kj236 k236_55 [some (vR 63), some (vI x1), some (vI x2), u3, u4, u5, some (vI x6), u7] [] (s, g_rho) (none, (o, g_rho)) := by
  refine iRR.of 2 ?_
  exact iRT.go 1 (f236_63_at56_ok L N d _ _ _ _ _ h) (fun _ _ => rfl)
set_option maxHeartbeats 100000 in
theorem f236_63_ok (L N d : Nat) (x1 : Int) (x2 : Int) (x3 : Int) (x4 : Int) (x5 : Int) (s : gI) {o : gI} (h : f236 N x1 x2 x3 x4 x5 s = some o) : iEE L (d + 6) 236 [vR 63, vI x1, vI x2, vI x3, vI x4, vI x5] (s, g_rho) (none, (o, g_rho)) := by
  refine iEE.of (wr := false) (d := d + 5) (md := gm_236) rfl rfl rfl (iRR.of 401 ?_)
  refine iRT.ov h fun h => ?_
  obtain ⟨i2, s1, h1, h⟩ := i_o2_inv h
  refine iRT.call (f228_63_ok L N (d + 2) _ _ _ _ _ h1) ?_
  refine iRT.ite h (fun h => ?_) (fun h => ?_)
  · refine iRT.ov h fun h => ?_
    refine iRT.ck h fun h => ?_
    refine iRT.ite h (fun h => ?_) (fun h => ?_)
    · exact iRT.go 0 (f236_63_at55_ok L N d _ _ _ _ h) (fun _ _ => rfl)
    · refine iRT.ite h (fun h => ?_) (fun h => ?_)
      · exact iRT.go 0 (f236_63_at55_ok L N d _ _ _ _ h) (fun _ _ => rfl)
      · refine iRT.ov h fun h => ?_
        obtain ⟨i5, s4, h1, h⟩ := i_o2_inv h
        refine iRT.call (f228_63_ok L N (d + 2) _ _ _ _ _ h1) ?_
        exact iRT.go 1 (f236_63_at56_ok L N d _ _ _ _ _ h) (fun _ _ => rfl)
  · cases h
    exact iRT.ret
-- GutterNineModel.throwsAt
set_option maxHeartbeats 100000 in
theorem f235_63_at70_ok (L N d : Nat) (x1 : Int) (x3 : Int) (x7 : Int) (x8 : Int) {u2 : Option iV} {u4 : Option iV} {u5 : Option iV} {u6 : Option iV} {u9 : Option iV} {u10 : Option iV} {u11 : Option iV} (s : gI) {o : gI} (h : f235_at70 N x1 x3 x7 x8 s = some o) : iRR false L (d + 6) kj235 k235_70 [some (vR 63), some (vI x1), u2, some (vI x3), u4, u5, u6, some (vI x7), some (vI x8), u9, u10, u11] [] (s, g_rho) (none, (o, g_rho)) := by
  refine iRR.of 401 ?_
  refine iRT.ov h fun h => ?_
  refine iRT.ite h (fun h => ?_) (fun h => ?_)
  · refine iRT.ck h fun h => ?_
    cases h
    exact iRT.ret
  · refine iRT.ite h (fun h => ?_) (fun h => ?_)
    · refine iRT.ck h fun h => ?_
      cases h
      exact iRT.ret
    · obtain ⟨i4, s3, h1, h⟩ := i_o2_inv h
      refine iRT.call (f218_63_ok L N (d + 5)  _ h1) ?_
      refine iRT.ite h (fun h => ?_) (fun h => ?_)
      · refine iRT.ck h fun h => ?_
        cases h
        exact iRT.ret
      · refine iRT.ck h fun h => ?_
        cases h
        exact iRT.ret
set_option maxHeartbeats 100000 in
theorem f235_63_at220_ok (L N d : Nat) (x1 : Int) (x3 : Int) {u2 : Option iV} {u4 : Option iV} {u5 : Option iV} {u6 : Option iV} {u7 : Option iV} {u8 : Option iV} {u9 : Option iV} {u10 : Option iV} {u11 : Option iV} (s : gI) {o : gI} (h : f235_at220 N x1 x3 s = some o) : iRR false L (d + 6) kj235 k235_220 [some (vR 63), some (vI x1), u2, some (vI x3), u4, u5, u6, u7, u8, u9, u10, u11] [] (s, g_rho) (none, (o, g_rho)) := by
  refine iRR.of 401 ?_
  obtain ⟨s1, h1, h⟩ := i_o1_inv h
  refine iRT.call (f232_63_ok L N (d + 1) _ _ _ h1) ?_
  cases h
  exact iRT.ret
set_option maxHeartbeats 100000 in
theorem f235_63_at219_ok (L N d : Nat) (x1 : Int) (x3 : Int) (z0 : Int) (z1 : Int) {u2 : Option iV} {u4 : Option iV} {u5 : Option iV} {u6 : Option iV} {u7 : Option iV} {u8 : Option iV} {u9 : Option iV} {u10 : Option iV} {u11 : Option iV} (s : gI) {o : gI} (h : f235_at219 N x1 x3 z0 z1 s = some o) : iRR false L (d + 6) kj235 k235_219 [some (vR 63), some (vI x1), u2, some (vI x3), u4, u5, u6, u7, u8, u9, u10, u11] [vI z0, vI z1, vR 78] (s, g_rho) (none, (o, g_rho)) := by
  refine iRR.of 2 ?_
  refine iRT.ck h fun h => ?_
  exact iRT.go 0 (f235_63_at220_ok L N d _ _ _ h) (fun _ _ => rfl)
set_option maxHeartbeats 100000 in
theorem f235_63_at184_ok (L N d : Nat) (x1 : Int) (x3 : Int) (z0 : Int) (z1 : Int) {u2 : Option iV} {u4 : Option iV} {u5 : Option iV} {u6 : Option iV} {u7 : Option iV} {u8 : Option iV} {u9 : Option iV} {u10 : Option iV} {u11 : Option iV} (s : gI) {o : gI} (h : f235_at184 N x1 x3 z0 z1 s = some o) : iRR false L (d + 6) kj235 k235_184 [some (vR 63), some (vI x1), u2, some (vI x3), u4, u5, u6, u7, u8, u9, u10, u11] [vI z0, vI z1, vR 78] (s, g_rho) (none, (o, g_rho)) := by
  refine iRR.of 3 ?_
  refine iRT.ck h fun h => ?_
  exact iRT.go 1 (f235_63_at220_ok L N d _ _ _ h) (fun _ _ => rfl)
set_option maxHeartbeats 100000 in
theorem f235_63_at153_ok (L N d : Nat) (x1 : Int) (x3 : Int) (x9 : Int) (x10 : Int) (z0 : Int) (z1 : Int) (z2 : Int) (z3 : Int) (z4 : Int) {u2 : Option iV} {u4 : Option iV} {u5 : Option iV} {u6 : Option iV} {u7 : Option iV} {u8 : Option iV} {u11 : Option iV} (s : gI) {o : gI} (h : f235_at153 N x1 x3 x9 x10 z0 z1 z2 z3 z4 s = some o) : iRR false L (d + 6) kj235 k235_153 [some (vR 63), some (vI x1), u2, some (vI x3), u4, u5, u6, u7, u8, some (vI x9), some (vI x10), u11] [vI z0, vI z1, vI z2, vI z3, vI z4, vR 63] (s, g_rho) (none, (o, g_rho)) := by
  refine iRR.of 17 ?_
  obtain ⟨s1, h1, h⟩ := i_o1_inv h
  refine iRT.call (f236_63_ok L N (d + 0) _ _ _ _ _ _ h1) ?_
  refine iRT.ov h fun h => ?_
  refine iRT.ov h fun h => ?_
  refine iRT.ck h fun h => ?_
  refine iRT.ite h (fun h => ?_) (fun h => ?_)
  · exact iRT.go 2 (f235_63_at184_ok L N d _ _ _ _ _ h) (fun _ _ => rfl)
  · exact iRT.go 1 (f235_63_at184_ok L N d _ _ _ _ _ h) (fun _ _ => rfl)
set_option maxHeartbeats 100000 in
theorem f235_63_ok (L N d : Nat) (x1 : Int) (x2 : Int) (x3 : Int) (x4 : Int) (x5 : Int) (x6 : Int) (s : gI) {o : gI} (h : f235 N x1 x2 x3 x4 x5 x6 s = some o) : iEE L (d + 7) 235 [vR 63, vI x1, vI x2, vI x3, vI x4, vI x5, vI x6] (s, g_rho) (none, (o, g_rho)) := by
  refine iEE.of (wr := false) (d := d + 6) (md := gm_235) rfl rfl rfl (iRR.of 69 ?_)
  obtain ⟨i2, s1, h1, h⟩ := i_o2_inv h
  refine iRT.call (f233_ok L N (d + 5) _ _ h1) ?_
  refine iRT.ov h fun h => ?_
  obtain ⟨i5, s4, h1, h⟩ := i_o2_inv h
  refine iRT.call (f234_ok L N (d + 5) _ _ h1) ?_
  refine iRT.ov h fun h => ?_
  refine iRT.ov h fun h => ?_
  refine iRT.ov h fun h => ?_
  refine iRT.ck h fun h => ?_
  refine iRT.ov h fun h => ?_
  refine iRT.ck h fun h => ?_
  refine iRT.ite h (fun h => ?_) (fun h => ?_)
  · exact iRT.go 0 (f235_63_at70_ok L N d _ _ _ _ _ h) (fun _ _ => rfl)
  · obtain ⟨i10, s9, h1, h⟩ := i_o2_inv h
    refine iRT.call (f218_63_ok L N (d + 5)  _ h1) ?_
    refine iRT.ite h (fun h => ?_) (fun h => ?_)
    · exact iRT.go 0 (f235_63_at70_ok L N d _ _ _ _ _ h) (fun _ _ => rfl)
    · obtain ⟨i12, s11, h1, h⟩ := i_o2_inv h
      refine iRT.call (f219_63_ok L N (d + 5)  _ h1) ?_
      refine iRT.ite h (fun h => ?_) (fun h => ?_)
      · exact iRT.go 0 (f235_63_at70_ok L N d _ _ _ _ _ h) (fun _ _ => rfl)
      · refine iRT.ite h (fun h => ?_) (fun h => ?_)
        · refine iRT.ov h fun h => ?_
          refine iRT.ov h fun h => ?_
          obtain ⟨i15, s14, h1, h⟩ := i_o2_inv h
          refine iRT.call (f227_63_ok L N (d + 4) _ _ _ _ h1) ?_
          refine iRT.ite h (fun h => ?_) (fun h => ?_)
          · obtain ⟨i17, s16, h1, h⟩ := i_o2_inv h
            refine iRT.call (f228_63_ok L N (d + 3) _ _ _ _ _ h1) ?_
            refine iRT.ov h fun h => ?_
            refine iRT.ite h (fun h => ?_) (fun h => ?_)
            · exact iRT.go 1 (f235_63_at219_ok L N d _ _ _ _ _ h) (fun _ _ => rfl)
            · exact iRT.go 2 (f235_63_at219_ok L N d _ _ _ _ _ h) (fun _ _ => rfl)
          · obtain ⟨i19, s18, h1, h⟩ := i_o2_inv h
            refine iRT.call (f226_63_ok L N (d + 5) _ _ _ h1) ?_
            refine iRT.ite h (fun h => ?_) (fun h => ?_)
            · exact iRT.go 2 (f235_63_at153_ok L N d _ _ _ _ _ _ _ _ _ _ h) (fun _ _ => rfl)
            · exact iRT.go 1 (f235_63_at153_ok L N d _ _ _ _ _ _ _ _ _ _ h) (fun _ _ => rfl)
        · exact iRT.go 0 (f235_63_at70_ok L N d _ _ _ _ _ h) (fun _ _ => rfl)
-- GutterNineModel.toss
set_option maxHeartbeats 100000 in
theorem f242_63_ok (L N d : Nat) (x1 : Int) (x2 : Int) (x3 : Int) (x4 : Int) (x5 : Int) (s : gI) {o : Int × gI} (h : f242 N x1 x2 x3 x4 x5 s = some o) : iEE L (d + 8) 242 [vR 63, vI x1, vI x2, vI x3, vI x4, vI x5] (s, g_rho) (some (vI o.1), (o.2, g_rho)) := by
  refine iEE.of (wr := false) (d := d + 7) (md := gm_242) rfl rfl rfl (iRR.of 401 ?_)
  delta f242 at h
  obtain ⟨i3, s2, h1, h⟩ := i_o2_inv h
  refine iRT.call (f241_63_ok L N (d + 4) _ _ _ _ _ h1) ?_
  refine iRT.ite h (fun h => ?_) (fun h => ?_)
  · cases h
    exact iRT.ret
  · obtain ⟨i5, s4, h1, h⟩ := i_o2_inv h
    refine iRT.call (f189_ok L N (d + 6) _ _ _ _ h1) ?_
    refine iRT.ite h (fun h => ?_) (fun h => ?_)
    · cases h
      exact iRT.ret
    · obtain ⟨s6, h1, h⟩ := i_o1_inv h
      refine iRT.call (f217_63_ok L N (d + 5)  _ h1) ?_
      obtain ⟨s7, h1, h⟩ := i_o1_inv h
      refine iRT.call (f235_63_ok L N (d + 0) _ _ _ _ _ _ _ h1) ?_
      refine iRT.ck h fun h => ?_
      obtain ⟨i9, s8, h1, h⟩ := i_o2_inv h
      refine iRT.call (f237_ok L N (d + 6) _ _ h1) ?_
      cases h
      exact iRT.ret
-- GutterNineModel.isRow
set_option maxHeartbeats 100000 in
theorem f248_63_ok (L N d : Nat) (x1 : Int) (s : gI) {o : Int × gI} (h : f248 N x1 s = some o) : iEE L (d + 2) 248 [vR 63, vI x1] (s, g_rho) (some (vI o.1), (o.2, g_rho)) := by
  refine iEE.of (wr := false) (d := d + 1) (md := gm_248) rfl rfl rfl (iRR.of 401 ?_)
  refine iRT.ite h (fun h => ?_) (fun h => ?_)
  · replace h := (ib1_inv h).2
    cases h
    exact iRT.ret
  · obtain ⟨i2, s1, h1, h⟩ := i_o2_inv h
    refine iRT.call (f219_63_ok L N (d + 0)  _ h1) ?_
    refine iRT.ite h (fun h => ?_) (fun h => ?_)
    · replace h := (ib1_inv h).2
      cases h
      exact iRT.ret
    · replace h := (ib1_inv h).2
      cases h
      exact iRT.ret
-- GutterNineModel.far
set_option maxHeartbeats 100000 in
theorem f244_ok (L N d : Nat) (x0 : Int) (x1 : Int) (s : gI) {o : Int × gI} (h : f244 N x0 x1 s = some o) : iEE L (d + 1) 244 [vI x0, vI x1] (s, g_rho) (some (vI o.1), (o.2, g_rho)) := by
  refine iEE.of (wr := false) (d := d + 0) (md := gm_244) rfl rfl rfl (iRR.of 401 ?_)
  refine iRT.ite h (fun h => ?_) (fun h => ?_)
  · refine iRT.ov h fun h => ?_
    cases h
    exact iRT.ret
  · refine iRT.ov h fun h => ?_
    cases h
    exact iRT.ret
-- GutterNineModel.pipeFrom
set_option maxHeartbeats 100000 in
theorem f243_63_at48_ok (L N d : Nat) {r_at5 : Int → Int → Int → Int → gI → Option (Int × gI)} (h_at5 : ∀ x1 x2 x3 x4 s o, r_at5 x1 x2 x3 x4 s = some o → iRR false L (d + 1) kj243 k243_5 [some (vR 63), some (vI x1), some (vI x2), some (vI x3), some (vI x4)] [] (s, g_rho) (some (vI o.1), (o.2, g_rho))) (x1 : Int) (x2 : Int) (x4 : Int) {u3 : Option iV} (s : gI) {o : Int × gI} (h : f243_at48 N r_at5 x1 x2 x4 s = some o) : iRR false L (d + 1) kj243 k243_48 [some (vR 63), some (vI x1), some (vI x2), u3, some (vI x4)] [] (s, g_rho) (some (vI o.1), (o.2, g_rho)) := by
  refine iRR.of 5 ?_
  refine iRT.ov h fun h => ?_
  exact iRT.go 1 (h_at5 _ _ _ _ _ _ h) (fun _ _ => rfl)
set_option maxHeartbeats 100000 in
theorem f243_63_at5_ok (L N d : Nat) : ∀ (n : Nat) (x1 : Int) (x2 : Int) (x3 : Int) (x4 : Int) (s : gI) (o : Int × gI), f243_at5 N n x1 x2 x3 x4 s = some o → iRR false L (d + 1) kj243 k243_5 [some (vR 63), some (vI x1), some (vI x2), some (vI x3), some (vI x4)] [] (s, g_rho) (some (vI o.1), (o.2, g_rho)) := by
  intro n
  induction n with
  | zero => intro _ _ _ _ _ _ h; cases h
  | succ n ih =>
    intro x1 x2 x3 x4 s o h
    refine iRR.of 401 ?_
    obtain ⟨i2, s1, h1, h⟩ := i_o2_inv h
    refine iRT.call (f218_63_ok L N (d + 0)  _ h1) ?_
    refine iRT.ite h (fun h => ?_) (fun h => ?_)
    · cases h
      exact iRT.ret
    · refine iRT.ov h fun h => ?_
      refine iRT.ov h fun h => ?_
      obtain ⟨i4, s3, h1, h⟩ := i_o2_inv h
      refine iRT.call (f225_63_ok L N (d + 0) _ _ h1) ?_
      refine iRT.ite h (fun h => ?_) (fun h => ?_)
      · refine iRT.ite h (fun h => ?_) (fun h => ?_)
        · exact iRT.go 0 (f243_63_at48_ok L N d (fun a0 a1 a2 a3  s o h => ih a0 a1 a2 a3 s o h) _ _ _ _ h) (fun _ _ => rfl)
        · obtain ⟨i7, s6, h1, h⟩ := i_o2_inv h
          refine iRT.call (f244_ok L N (d + 0) _ _ _ h1) ?_
          obtain ⟨i9, s8, h1, h⟩ := i_o2_inv h
          refine iRT.call (f244_ok L N (d + 0) _ _ _ h1) ?_
          refine iRT.ite h (fun h => ?_) (fun h => ?_)
          · refine iRT.ov h fun h => ?_
            exact iRT.go 1 (ih _ _ _ _ _ _ h) (fun _ _ => rfl)
          · exact iRT.go 0 (f243_63_at48_ok L N d (fun a0 a1 a2 a3  s o h => ih a0 a1 a2 a3 s o h) _ _ _ _ h) (fun _ _ => rfl)
      · refine iRT.ov h fun h => ?_
        exact iRT.go 1 (ih _ _ _ _ _ _ h) (fun _ _ => rfl)
set_option maxHeartbeats 100000 in
theorem f243_63_ok (L N d : Nat) (x1 : Int) (x2 : Int) (s : gI) {o : Int × gI} (h : f243 N x1 x2 s = some o) : iEE L (d + 2) 243 [vR 63, vI x1, vI x2] (s, g_rho) (some (vI o.1), (o.2, g_rho)) := by
  refine iEE.of (wr := false) (d := d + 1) (md := gm_243) rfl rfl rfl (iRR.of 5 ?_)
  exact iRT.go 4 (f243_63_at5_ok L N d N _ _ _ _ _ _ h) (fun _ _ => rfl)
-- GutterNineModel.washesOne
set_option maxHeartbeats 100000 in
theorem f246_63_at102_ok (L N d : Nat) (x3 : Int) (x7 : Int) {u0 : Option iV} {u1 : Option iV} {u2 : Option iV} {u4 : Option iV} {u5 : Option iV} {u6 : Option iV} {u8 : Option iV} {u9 : Option iV} (s : gI) {o : Int × gI} (h : f246_at102 N x3 x7 s = some o) : iRR false L (d + 3) kj246 k246_102 [u0, u1, u2, some (vI x3), u4, u5, u6, some (vI x7), u8, u9] [] (s, g_rho) (some (vI o.1), (o.2, g_rho)) := by
  refine iRR.of 401 ?_
  refine iRT.ite h (fun h => ?_) (fun h => ?_)
  · replace h := (ib1_inv h).2
    cases h
    exact iRT.ret
  · replace h := (ib1_inv h).2
    cases h
    exact iRT.ret
set_option maxHeartbeats 100000 in
theorem f246_63_at90_ok (L N d : Nat) {r_at16 : Int → Int → Int → Int → Int → Int → Int → gI → Option (Int × gI)} (h_at16 : ∀ x1 x2 x3 x4 x5 x6 x7 u8 u9 s o, r_at16 x1 x2 x3 x4 x5 x6 x7 s = some o → iRR false L (d + 3) kj246 k246_16 [some (vR 63), some (vI x1), some (vI x2), some (vI x3), some (vI x4), some (vI x5), some (vI x6), some (vI x7), u8, u9] [] (s, g_rho) (some (vI o.1), (o.2, g_rho))) (x1 : Int) (x2 : Int) (x3 : Int) (x4 : Int) (x5 : Int) (x6 : Int) (x7 : Int) (x8 : Int) (z0 : Int) {u9 : Option iV} (s : gI) {o : Int × gI} (h : f246_at90 N r_at16 x1 x2 x3 x4 x5 x6 x7 x8 z0 s = some o) : iRR false L (d + 3) kj246 k246_90 [some (vR 63), some (vI x1), some (vI x2), some (vI x3), some (vI x4), some (vI x5), some (vI x6), some (vI x7), some (vI x8), u9] [vI z0] (s, g_rho) (some (vI o.1), (o.2, g_rho)) := by
  refine iRR.of 18 ?_
  refine iRT.ite h (fun h => ?_) (fun h => ?_)
  · exact iRT.go 0 (f246_63_at102_ok L N d _ _ _ h) (fun _ _ => rfl)
  · refine iRT.ite h (fun h => ?_) (fun h => ?_)
    · refine iRT.ov h fun h => ?_
      refine iRT.ck h fun h => ?_
      refine iRT.ov h fun h => ?_
      exact iRT.go 2 (h_at16 _ _ _ _ _ _ _ _ _ _ _ h) (fun _ _ => rfl)
    · exact iRT.go 0 (f246_63_at102_ok L N d _ _ _ h) (fun _ _ => rfl)
set_option maxHeartbeats 100000 in
theorem f246_63_at85_ok (L N d : Nat) {r_at16 : Int → Int → Int → Int → Int → Int → Int → gI → Option (Int × gI)} (h_at16 : ∀ x1 x2 x3 x4 x5 x6 x7 u8 u9 s o, r_at16 x1 x2 x3 x4 x5 x6 x7 s = some o → iRR false L (d + 3) kj246 k246_16 [some (vR 63), some (vI x1), some (vI x2), some (vI x3), some (vI x4), some (vI x5), some (vI x6), some (vI x7), u8, u9] [] (s, g_rho) (some (vI o.1), (o.2, g_rho))) (x1 : Int) (x2 : Int) (x3 : Int) (x4 : Int) (x5 : Int) (x6 : Int) (x7 : Int) (x8 : Int) {u9 : Option iV} (s : gI) {o : Int × gI} (h : f246_at85 N r_at16 x1 x2 x3 x4 x5 x6 x7 x8 s = some o) : iRR false L (d + 3) kj246 k246_85 [some (vR 63), some (vI x1), some (vI x2), some (vI x3), some (vI x4), some (vI x5), some (vI x6), some (vI x7), some (vI x8), u9] [] (s, g_rho) (some (vI o.1), (o.2, g_rho)) := by
  refine iRR.of 3 ?_
  exact iRT.go 2 (f246_63_at90_ok L N d h_at16 _ _ _ _ _ _ _ _ _ _ h) (fun _ _ => rfl)
set_option maxHeartbeats 100000 in
theorem f246_63_at89_ok (L N d : Nat) {r_at16 : Int → Int → Int → Int → Int → Int → Int → gI → Option (Int × gI)} (h_at16 : ∀ x1 x2 x3 x4 x5 x6 x7 u8 u9 s o, r_at16 x1 x2 x3 x4 x5 x6 x7 s = some o → iRR false L (d + 3) kj246 k246_16 [some (vR 63), some (vI x1), some (vI x2), some (vI x3), some (vI x4), some (vI x5), some (vI x6), some (vI x7), u8, u9] [] (s, g_rho) (some (vI o.1), (o.2, g_rho))) (x1 : Int) (x2 : Int) (x3 : Int) (x4 : Int) (x5 : Int) (x6 : Int) (x7 : Int) (x8 : Int) {u9 : Option iV} (s : gI) {o : Int × gI} (h : f246_at89 N r_at16 x1 x2 x3 x4 x5 x6 x7 x8 s = some o) : iRR false L (d + 3) kj246 k246_89 [some (vR 63), some (vI x1), some (vI x2), some (vI x3), some (vI x4), some (vI x5), some (vI x6), some (vI x7), some (vI x8), u9] [] (s, g_rho) (some (vI o.1), (o.2, g_rho)) := by
  refine iRR.of 2 ?_
  exact iRT.go 1 (f246_63_at90_ok L N d h_at16 _ _ _ _ _ _ _ _ _ _ h) (fun _ _ => rfl)
set_option maxHeartbeats 100000 in
theorem f246_63_at16_ok (L N d : Nat) : ∀ (n : Nat) (x1 : Int) (x2 : Int) (x3 : Int) (x4 : Int) (x5 : Int) (x6 : Int) (x7 : Int) {u8 u9 : Option iV} (s : gI) (o : Int × gI), f246_at16 N n x1 x2 x3 x4 x5 x6 x7 s = some o → iRR false L (d + 3) kj246 k246_16 [some (vR 63), some (vI x1), some (vI x2), some (vI x3), some (vI x4), some (vI x5), some (vI x6), some (vI x7), u8, u9] [] (s, g_rho) (some (vI o.1), (o.2, g_rho)) := by
  intro n
  induction n with
  | zero => intro _ _ _ _ _ _ _ _ _ _ _ h; cases h
  | succ n ih =>
    intro x1 x2 x3 x4 x5 x6 x7 u8 u9 s o h
    refine iRR.of 401 ?_
    refine iRT.ov h fun h => ?_
    refine iRT.ck h fun h => ?_
    refine iRT.ov h fun h => ?_
    refine iRT.ov h fun h => ?_
    refine iRT.ite h (fun h => ?_) (fun h => ?_)
    · refine iRT.ov h fun h => ?_
      obtain ⟨i2, s1, h1, h⟩ := i_o2_inv h
      refine iRT.call (f228_63_ok L N (d + 0) _ _ _ _ _ h1) ?_
      refine iRT.ov h fun h => ?_
      refine iRT.ite h (fun h => ?_) (fun h => ?_)
      · exact iRT.go 0 (f246_63_at85_ok L N d (fun a0 a1 a2 a3 a4 a5 a6 b0 b1 s o h => ih a0 a1 a2 a3 a4 a5 a6 s o h) _ _ _ _ _ _ _ _ _ h) (fun _ _ => rfl)
      · refine iRT.ite h (fun h => ?_) (fun h => ?_)
        · exact iRT.go 0 (f246_63_at89_ok L N d (fun a0 a1 a2 a3 a4 a5 a6 b0 b1 s o h => ih a0 a1 a2 a3 a4 a5 a6 s o h) _ _ _ _ _ _ _ _ _ h) (fun _ _ => rfl)
        · refine iRT.ov h fun h => ?_
          refine iRT.ov h fun h => ?_
          refine iRT.ov h fun h => ?_
          obtain ⟨i4, s3, h1, h⟩ := i_o2_inv h
          refine iRT.call (f225_63_ok L N (d + 2) _ _ h1) ?_
          refine iRT.ite h (fun h => ?_) (fun h => ?_)
          · exact iRT.go 0 (f246_63_at85_ok L N d (fun a0 a1 a2 a3 a4 a5 a6 b0 b1 s o h => ih a0 a1 a2 a3 a4 a5 a6 s o h) _ _ _ _ _ _ _ _ _ h) (fun _ _ => rfl)
          · exact iRT.go 0 (f246_63_at89_ok L N d (fun a0 a1 a2 a3 a4 a5 a6 b0 b1 s o h => ih a0 a1 a2 a3 a4 a5 a6 s o h) _ _ _ _ _ _ _ _ _ h) (fun _ _ => rfl)
    · replace h := (ib1_inv h).2
      cases h
      exact iRT.ret
set_option maxHeartbeats 100000 in
theorem f246_63_ok (L N d : Nat) (x1 : Int) (x2 : Int) (x3 : Int) (x4 : Int) (x5 : Int) (s : gI) {o : Int × gI} (h : f246 N x1 x2 x3 x4 x5 s = some o) : iEE L (d + 4) 246 [vR 63, vI x1, vI x2, vI x3, vI x4, vI x5] (s, g_rho) (some (vI o.1), (o.2, g_rho)) := by
  refine iEE.of (wr := false) (d := d + 3) (md := gm_246) rfl rfl rfl (iRR.of 9 ?_)
  refine iRT.ite h (fun h => ?_) (fun h => ?_)
  · exact iRT.go 4 (f246_63_at16_ok L N d N _ _ _ _ _ _ _ _ _ h) (fun _ _ => rfl)
  · exact iRT.go 5 (f246_63_at16_ok L N d N _ _ _ _ _ _ _ _ _ h) (fun _ _ => rfl)
-- GutterNineModel.washes
set_option maxHeartbeats 100000 in
theorem f245_63_at135_ok (L N d : Nat) {r_at15 : Int → Int → Int → Int → Int → gI → Option (Int × gI)} (h_at15 : ∀ x1 x2 x3 x4 x5 u6 u7 u8 s o, r_at15 x1 x2 x3 x4 x5 s = some o → iRR false L (d + 4) kj245 k245_15 [some (vR 63), some (vI x1), some (vI x2), some (vI x3), some (vI x4), some (vI x5), u6, u7, u8] [] (s, g_rho) (some (vI o.1), (o.2, g_rho))) (x1 : Int) (x2 : Int) (x4 : Int) (x5 : Int) (z0 : Int) (z1 : Int) {u3 : Option iV} {u6 : Option iV} {u7 : Option iV} {u8 : Option iV} (s : gI) {o : Int × gI} (h : f245_at135 N r_at15 x1 x2 x4 x5 z0 z1 s = some o) : iRR false L (d + 4) kj245 k245_135 [some (vR 63), some (vI x1), some (vI x2), u3, some (vI x4), some (vI x5), u6, u7, u8] [vI z0, vI z1] (s, g_rho) (some (vI o.1), (o.2, g_rho)) := by
  refine iRR.of 5 ?_
  refine iRT.ov h fun h => ?_
  refine iRT.ov h fun h => ?_
  exact iRT.go 1 (h_at15 _ _ _ _ _ _ _ _ _ _ h) (fun _ _ => rfl)
set_option maxHeartbeats 100000 in
theorem f245_63_at56_ok (L N d : Nat) {r_at15 : Int → Int → Int → Int → Int → gI → Option (Int × gI)} (h_at15 : ∀ x1 x2 x3 x4 x5 u6 u7 u8 s o, r_at15 x1 x2 x3 x4 x5 s = some o → iRR false L (d + 4) kj245 k245_15 [some (vR 63), some (vI x1), some (vI x2), some (vI x3), some (vI x4), some (vI x5), u6, u7, u8] [] (s, g_rho) (some (vI o.1), (o.2, g_rho))) (x1 : Int) (x2 : Int) (x3 : Int) (x4 : Int) (x5 : Int) (z0 : Int) {u6 : Option iV} {u7 : Option iV} {u8 : Option iV} (s : gI) {o : Int × gI} (h : f245_at56 N r_at15 x1 x2 x3 x4 x5 z0 s = some o) : iRR false L (d + 4) kj245 k245_56 [some (vR 63), some (vI x1), some (vI x2), some (vI x3), some (vI x4), some (vI x5), u6, u7, u8] [vI z0] (s, g_rho) (some (vI o.1), (o.2, g_rho)) := by
  refine iRR.of 42 ?_
  obtain ⟨i2, s1, h1, h⟩ := i_o2_inv h
  refine iRT.call (f243_63_ok L N (d + 2) _ _ _ h1) ?_
  refine iRT.ite h (fun h => ?_) (fun h => ?_)
  · refine iRT.ov h fun h => ?_
    exact iRT.go 1 (h_at15 _ _ _ _ _ _ _ _ _ _ h) (fun _ _ => rfl)
  · refine iRT.ite h (fun h => ?_) (fun h => ?_)
    · refine iRT.ov h fun h => ?_
      exact iRT.go 1 (h_at15 _ _ _ _ _ _ _ _ _ _ h) (fun _ _ => rfl)
    · obtain ⟨i6, s5, h1, h⟩ := i_o2_inv h
      refine iRT.call (f244_ok L N (d + 3) _ _ _ h1) ?_
      refine iRT.ite h (fun h => ?_) (fun h => ?_)
      · refine iRT.ite h (fun h => ?_) (fun h => ?_)
        · obtain ⟨i11, s10, h1, h⟩ := i_o2_inv h
          refine iRT.call (f246_63_ok L N (d + 0) _ _ _ _ _ _ h1) ?_
          refine iRT.ite h (fun h => ?_) (fun h => ?_)
          · exact iRT.go 1 (f245_63_at135_ok L N d h_at15 _ _ _ _ _ _ _ h) (fun _ _ => rfl)
          · exact iRT.go 2 (f245_63_at135_ok L N d h_at15 _ _ _ _ _ _ _ h) (fun _ _ => rfl)
        · refine iRT.ov h fun h => ?_
          exact iRT.go 1 (h_at15 _ _ _ _ _ _ _ _ _ _ h) (fun _ _ => rfl)
      · refine iRT.ov h fun h => ?_
        exact iRT.go 1 (h_at15 _ _ _ _ _ _ _ _ _ _ h) (fun _ _ => rfl)
set_option maxHeartbeats 100000 in
theorem f245_63_at15_ok (L N d : Nat) {r_at5 : Int → Int → Int → Int → gI → Option (Int × gI)} (h_at5 : ∀ x1 x2 x3 x4 u5 u6 u7 u8 s o, r_at5 x1 x2 x3 x4 s = some o → iRR false L (d + 4) kj245 k245_5 [some (vR 63), some (vI x1), some (vI x2), some (vI x3), some (vI x4), u5, u6, u7, u8] [] (s, g_rho) (some (vI o.1), (o.2, g_rho))) : ∀ (n : Nat) (x1 : Int) (x2 : Int) (x3 : Int) (x4 : Int) (x5 : Int) {u6 u7 u8 : Option iV} (s : gI) (o : Int × gI), f245_at15 N r_at5 n x1 x2 x3 x4 x5 s = some o → iRR false L (d + 4) kj245 k245_15 [some (vR 63), some (vI x1), some (vI x2), some (vI x3), some (vI x4), some (vI x5), u6, u7, u8] [] (s, g_rho) (some (vI o.1), (o.2, g_rho)) := by
  intro n
  induction n with
  | zero => intro _ _ _ _ _ _ _ _ _ _ h; cases h
  | succ n ih =>
    intro x1 x2 x3 x4 x5 u6 u7 u8 s o h
    refine iRR.of 22 ?_
    obtain ⟨i2, s1, h1, h⟩ := i_o2_inv h
    refine iRT.call (f218_63_ok L N (d + 3)  _ h1) ?_
    refine iRT.ite h (fun h => ?_) (fun h => ?_)
    · refine iRT.ov h fun h => ?_
      exact iRT.go 1 (h_at5 _ _ _ _ _ _ _ _ _ _ h) (fun _ _ => rfl)
    · refine iRT.ov h fun h => ?_
      refine iRT.ov h fun h => ?_
      obtain ⟨i6, s5, h1, h⟩ := i_o2_inv h
      refine iRT.call (f225_63_ok L N (d + 3) _ _ h1) ?_
      refine iRT.ite h (fun h => ?_) (fun h => ?_)
      · obtain ⟨i8, s7, h1, h⟩ := i_o2_inv h
        refine iRT.call (f227_63_ok L N (d + 2) _ _ _ _ h1) ?_
        exact iRT.go 1 (f245_63_at56_ok L N d (fun a0 a1 a2 a3 a4 b0 b1 b2 s o h => ih a0 a1 a2 a3 a4 s o h) _ _ _ _ _ _ _ h) (fun _ _ => rfl)
      · exact iRT.go 1 (f245_63_at56_ok L N d (fun a0 a1 a2 a3 a4 b0 b1 b2 s o h => ih a0 a1 a2 a3 a4 s o h) _ _ _ _ _ _ _ h) (fun _ _ => rfl)
set_option maxHeartbeats 100000 in
theorem f245_63_at5_ok (L N d : Nat) : ∀ (n : Nat) (x1 : Int) (x2 : Int) (x3 : Int) (x4 : Int) {u5 u6 u7 u8 : Option iV} (s : gI) (o : Int × gI), f245_at5 N n x1 x2 x3 x4 s = some o → iRR false L (d + 4) kj245 k245_5 [some (vR 63), some (vI x1), some (vI x2), some (vI x3), some (vI x4), u5, u6, u7, u8] [] (s, g_rho) (some (vI o.1), (o.2, g_rho)) := by
  intro n
  induction n with
  | zero => intro _ _ _ _ _ _ _ _ _ _ h; cases h
  | succ n ih =>
    intro x1 x2 x3 x4 u5 u6 u7 u8 s o h
    refine iRR.of 401 ?_
    refine iRT.ite h (fun h => ?_) (fun h => ?_)
    · cases h
      exact iRT.ret
    · exact iRT.go 2 (f245_63_at15_ok L N d (fun a0 a1 a2 a3 b0 b1 b2 b3 s o h => ih a0 a1 a2 a3 s o h) N _ _ _ _ _ _ _ h) (fun _ _ => rfl)
set_option maxHeartbeats 100000 in
theorem f245_63_ok (L N d : Nat) (x1 : Int) (x2 : Int) (s : gI) {o : Int × gI} (h : f245 N x1 x2 s = some o) : iEE L (d + 5) 245 [vR 63, vI x1, vI x2] (s, g_rho) (some (vI o.1), (o.2, g_rho)) := by
  refine iEE.of (wr := false) (d := d + 4) (md := gm_245) rfl rfl rfl (iRR.of 5 ?_)
  exact iRT.go 4 (f245_63_at5_ok L N d N _ _ _ _ _ _ h) (fun _ _ => rfl)
-- GutterNineModel.hoses
set_option maxHeartbeats 100000 in
theorem f247_63_ok (L N d : Nat) (x1 : Int) (x2 : Int) (s : gI) {o : Int × gI} (h : f247 N x1 x2 s = some o) : iEE L (d + 6) 247 [vR 63, vI x1, vI x2] (s, g_rho) (some (vI o.1), (o.2, g_rho)) := by
  refine iEE.of (wr := false) (d := d + 5) (md := gm_247) rfl rfl rfl (iRR.of 401 ?_)
  delta f247 at h
  obtain ⟨i3, s2, h1, h⟩ := i_o2_inv h
  refine iRT.call (f245_63_ok L N (d + 0) _ _ _ h1) ?_
  cases h
  exact iRT.ret
-- GutterNineModel.hose
set_option maxHeartbeats 100000 in
theorem f249_63_ok (L N d : Nat) (x1 : Int) (s : gI) {o : Int × gI} (h : f249 N x1 s = some o) : iEE L (d + 7) 249 [vR 63, vI x1] (s, g_rho) (some (vI o.1), (o.2, g_rho)) := by
  refine iEE.of (wr := false) (d := d + 6) (md := gm_249) rfl rfl rfl (iRR.of 401 ?_)
  delta f249 at h
  obtain ⟨i3, s2, h1, h⟩ := i_o2_inv h
  refine iRT.call (f248_63_ok L N (d + 4) _ _ h1) ?_
  refine iRT.ite h (fun h => ?_) (fun h => ?_)
  · cases h
    exact iRT.ret
  · obtain ⟨s4, h1, h⟩ := i_o1_inv h
    refine iRT.call (f217_63_ok L N (d + 4)  _ h1) ?_
    obtain ⟨i6, s5, h1, h⟩ := i_o2_inv h
    refine iRT.call (f247_63_ok L N (d + 0) _ _ _ h1) ?_
    cases h
    exact iRT.ret
-- GutterNineModel.broom
set_option maxHeartbeats 100000 in
theorem f250_63_at24_ok (L N d : Nat) : ∀ (n : Nat) (x1 : Int) (x2 : Int) (s : gI) (o : Int × gI), f250_at24 N n x1 x2 s = some o → iRR false L (d + 2) kj250 k250_24 [some (vR 63), some (vI x1), some (vI x2)] [] (s, g_rho) (some (vI o.1), (o.2, g_rho)) := by
  intro n
  induction n with
  | zero => intro _ _ _ _ h; cases h
  | succ n ih =>
    intro x1 x2 s o h
    refine iRR.of 401 ?_
    obtain ⟨i2, s1, h1, h⟩ := i_o2_inv h
    refine iRT.call (f221_63_ok L N (d + 1)  _ h1) ?_
    refine iRT.ite h (fun h => ?_) (fun h => ?_)
    · cases h
      exact iRT.ret
    · refine iRT.ck h fun h => ?_
      refine iRT.ite h (fun h => ?_) (fun h => ?_)
      · refine iRT.ov h fun h => ?_
        exact iRT.go 1 (ih _ _ _ _ h) (fun _ _ => rfl)
      · refine iRT.ck h fun h => ?_
        refine iRT.dv h fun h => ?_
        replace h := (ick_inv h).2.2
        obtain ⟨i5, s4, h1, h⟩ := i_o2_inv h
        refine iRT.call (f244_ok L N (d + 1) _ _ _ h1) ?_
        refine iRT.ck h fun h => ?_
        refine iRT.dv h fun h => ?_
        replace h := (ick_inv h).2.2
        obtain ⟨i7, s6, h1, h⟩ := i_o2_inv h
        refine iRT.call (f244_ok L N (d + 1) _ _ _ h1) ?_
        refine iRT.ov h fun h => ?_
        replace h := (ick_inv h).2.2
        refine iRT.ite h (fun h => ?_) (fun h => ?_)
        · refine iRT.ov h fun h => ?_
          exact iRT.go 1 (ih _ _ _ _ h) (fun _ _ => rfl)
        · refine iRT.ck h fun h => ?_
          refine iRT.ov h fun h => ?_
          exact iRT.go 1 (ih _ _ _ _ h) (fun _ _ => rfl)
set_option maxHeartbeats 100000 in
theorem f250_63_ok (L N d : Nat) (s : gI) {o : Int × gI} (h : f250 N  s = some o) : iEE L (d + 3) 250 [vR 63] (s, g_rho) (some (vI o.1), (o.2, g_rho)) := by
  refine iEE.of (wr := false) (d := d + 2) (md := gm_250) rfl rfl rfl (iRR.of 401 ?_)
  replace h := (ick_inv h).2.2
  refine iRT.ite h (fun h => ?_) (fun h => ?_)
  · obtain ⟨s2, h1, h⟩ := i_o1_inv h
    refine iRT.call (f217_63_ok L N (d + 0)  _ h1) ?_
    exact iRT.go 4 (f250_63_at24_ok L N d N _ _ _ _ h) (fun _ _ => rfl)
  · cases h
    exact iRT.ret
-- GutterNineModel.blows
set_option maxHeartbeats 100000 in
theorem f251_63_at173_ok (L N d : Nat) {r_at5 : Int → Int → Int → Int → gI → Option (Int × gI)} (h_at5 : ∀ x1 x2 x3 x4 u5 u6 u7 s o, r_at5 x1 x2 x3 x4 s = some o → iRR false L (d + 5) kj251 k251_5 [some (vR 63), some (vI x1), some (vI x2), some (vI x3), some (vI x4), u5, u6, u7] [] (s, g_rho) (some (vI o.1), (o.2, g_rho))) (x1 : Int) (x2 : Int) (x4 : Int) (z0 : Int) (z1 : Int) {u3 : Option iV} {u5 : Option iV} {u6 : Option iV} {u7 : Option iV} (s : gI) {o : Int × gI} (h : f251_at173 N r_at5 x1 x2 x4 z0 z1 s = some o) : iRR false L (d + 5) kj251 k251_173 [some (vR 63), some (vI x1), some (vI x2), u3, some (vI x4), u5, u6, u7] [vI z0, vI z1] (s, g_rho) (some (vI o.1), (o.2, g_rho)) := by
  refine iRR.of 5 ?_
  refine iRT.ov h fun h => ?_
  refine iRT.ov h fun h => ?_
  exact iRT.go 1 (h_at5 _ _ _ _ _ _ _ _ _ h) (fun _ _ => rfl)
set_option maxHeartbeats 100000 in
theorem f251_63_at153_ok (L N d : Nat) {r_at5 : Int → Int → Int → Int → gI → Option (Int × gI)} (h_at5 : ∀ x1 x2 x3 x4 u5 u6 u7 s o, r_at5 x1 x2 x3 x4 s = some o → iRR false L (d + 5) kj251 k251_5 [some (vR 63), some (vI x1), some (vI x2), some (vI x3), some (vI x4), u5, u6, u7] [] (s, g_rho) (some (vI o.1), (o.2, g_rho))) (x1 : Int) (x2 : Int) (x3 : Int) (x4 : Int) (x5 : Int) {u6 : Option iV} {u7 : Option iV} (s : gI) {o : Int × gI} (h : f251_at153 N r_at5 x1 x2 x3 x4 x5 s = some o) : iRR false L (d + 5) kj251 k251_153 [some (vR 63), some (vI x1), some (vI x2), some (vI x3), some (vI x4), some (vI x5), u6, u7] [] (s, g_rho) (some (vI o.1), (o.2, g_rho)) := by
  refine iRR.of 12 ?_
  refine iRT.ov h fun h => ?_
  refine iRT.ck h fun h => ?_
  refine iRT.ite h (fun h => ?_) (fun h => ?_)
  · exact iRT.go 1 (f251_63_at173_ok L N d h_at5 _ _ _ _ _ _ h) (fun _ _ => rfl)
  · exact iRT.go 2 (f251_63_at173_ok L N d h_at5 _ _ _ _ _ _ h) (fun _ _ => rfl)
set_option maxHeartbeats 100000 in
theorem f251_63_at128_ok (L N d : Nat) {r_at5 : Int → Int → Int → Int → gI → Option (Int × gI)} (h_at5 : ∀ x1 x2 x3 x4 u5 u6 u7 s o, r_at5 x1 x2 x3 x4 s = some o → iRR false L (d + 5) kj251 k251_5 [some (vR 63), some (vI x1), some (vI x2), some (vI x3), some (vI x4), u5, u6, u7] [] (s, g_rho) (some (vI o.1), (o.2, g_rho))) (x1 : Int) (x2 : Int) (x3 : Int) (x4 : Int) (x5 : Int) (z0 : Int) {u6 : Option iV} {u7 : Option iV} (s : gI) {o : Int × gI} (h : f251_at128 N r_at5 x1 x2 x3 x4 x5 z0 s = some o) : iRR false L (d + 5) kj251 k251_128 [some (vR 63), some (vI x1), some (vI x2), some (vI x3), some (vI x4), some (vI x5), u6, u7] [vI z0] (s, g_rho) (some (vI o.1), (o.2, g_rho)) := by
  refine iRR.of 15 ?_
  refine iRT.ite h (fun h => ?_) (fun h => ?_)
  · exact iRT.go 0 (f251_63_at153_ok L N d h_at5 _ _ _ _ _ _ h) (fun _ _ => rfl)
  · refine iRT.ov h fun h => ?_
    refine iRT.ck h fun h => ?_
    obtain ⟨s2, h1, h⟩ := i_o1_inv h
    refine iRT.call (f232_63_ok L N (d + 0) _ _ _ h1) ?_
    exact iRT.go 0 (f251_63_at153_ok L N d h_at5 _ _ _ _ _ _ h) (fun _ _ => rfl)
set_option maxHeartbeats 100000 in
theorem f251_63_at120_ok (L N d : Nat) {r_at5 : Int → Int → Int → Int → gI → Option (Int × gI)} (h_at5 : ∀ x1 x2 x3 x4 u5 u6 u7 s o, r_at5 x1 x2 x3 x4 s = some o → iRR false L (d + 5) kj251 k251_5 [some (vR 63), some (vI x1), some (vI x2), some (vI x3), some (vI x4), u5, u6, u7] [] (s, g_rho) (some (vI o.1), (o.2, g_rho))) (x1 : Int) (x2 : Int) (x3 : Int) (x4 : Int) (x5 : Int) (z0 : Int) (z1 : Int) (z2 : Int) (z3 : Int) (z4 : Int) {u6 : Option iV} {u7 : Option iV} (s : gI) {o : Int × gI} (h : f251_at120 N r_at5 x1 x2 x3 x4 x5 z0 z1 z2 z3 z4 s = some o) : iRR false L (d + 5) kj251 k251_120 [some (vR 63), some (vI x1), some (vI x2), some (vI x3), some (vI x4), some (vI x5), u6, u7] [vI z0, vI z1, vI z2, vI z3, vI z4, vR 63] (s, g_rho) (some (vI o.1), (o.2, g_rho)) := by
  refine iRR.of 4 ?_
  refine iRT.ov h fun h => ?_
  obtain ⟨i2, s1, h1, h⟩ := i_o2_inv h
  refine iRT.call (f228_63_ok L N (d + 2) _ _ _ _ _ h1) ?_
  exact iRT.go 1 (f251_63_at128_ok L N d h_at5 _ _ _ _ _ _ _ h) (fun _ _ => rfl)
set_option maxHeartbeats 100000 in
theorem f251_63_at100_ok (L N d : Nat) {r_at5 : Int → Int → Int → Int → gI → Option (Int × gI)} (h_at5 : ∀ x1 x2 x3 x4 u5 u6 u7 s o, r_at5 x1 x2 x3 x4 s = some o → iRR false L (d + 5) kj251 k251_5 [some (vR 63), some (vI x1), some (vI x2), some (vI x3), some (vI x4), u5, u6, u7] [] (s, g_rho) (some (vI o.1), (o.2, g_rho))) (x1 : Int) (x2 : Int) (x3 : Int) (x4 : Int) (x5 : Int) (z0 : Int) (z1 : Int) (z2 : Int) (z3 : Int) {u6 : Option iV} {u7 : Option iV} (s : gI) {o : Int × gI} (h : f251_at100 N r_at5 x1 x2 x3 x4 x5 z0 z1 z2 z3 s = some o) : iRR false L (d + 5) kj251 k251_100 [some (vR 63), some (vI x1), some (vI x2), some (vI x3), some (vI x4), some (vI x5), u6, u7] [vI z0, vI z1, vI z2, vI z3, vR 63] (s, g_rho) (some (vI o.1), (o.2, g_rho)) := by
  refine iRR.of 14 ?_
  refine iRT.ov h fun h => ?_
  refine iRT.dv h fun h => ?_
  refine iRT.ite h (fun h => ?_) (fun h => ?_)
  · exact iRT.go 1 (f251_63_at120_ok L N d h_at5 _ _ _ _ _ _ _ _ _ _ _ h) (fun _ _ => rfl)
  · refine iRT.ov h fun h => ?_
    refine iRT.ov h fun h => ?_
    exact iRT.go 1 (f251_63_at120_ok L N d h_at5 _ _ _ _ _ _ _ _ _ _ _ h) (fun _ _ => rfl)
set_option maxHeartbeats 100000 in
theorem f251_63_at70_ok (L N d : Nat) {r_at5 : Int → Int → Int → Int → gI → Option (Int × gI)} (h_at5 : ∀ x1 x2 x3 x4 u5 u6 u7 s o, r_at5 x1 x2 x3 x4 s = some o → iRR false L (d + 5) kj251 k251_5 [some (vR 63), some (vI x1), some (vI x2), some (vI x3), some (vI x4), u5, u6, u7] [] (s, g_rho) (some (vI o.1), (o.2, g_rho))) (x1 : Int) (x2 : Int) (x3 : Int) (x4 : Int) (x5 : Int) (z0 : Int) {u6 : Option iV} {u7 : Option iV} (s : gI) {o : Int × gI} (h : f251_at70 N r_at5 x1 x2 x3 x4 x5 z0 s = some o) : iRR false L (d + 5) kj251 k251_70 [some (vR 63), some (vI x1), some (vI x2), some (vI x3), some (vI x4), some (vI x5), u6, u7] [vI z0] (s, g_rho) (some (vI o.1), (o.2, g_rho)) := by
  refine iRR.of 18 ?_
  refine iRT.ite h (fun h => ?_) (fun h => ?_)
  · exact iRT.go 1 (f251_63_at128_ok L N d h_at5 _ _ _ _ _ _ _ h) (fun _ _ => rfl)
  · refine iRT.dv h fun h => ?_
    refine iRT.ite h (fun h => ?_) (fun h => ?_)
    · refine iRT.ov h fun h => ?_
      refine iRT.ov h fun h => ?_
      exact iRT.go 0 (f251_63_at100_ok L N d h_at5 _ _ _ _ _ _ _ _ _ _ h) (fun _ _ => rfl)
    · exact iRT.go 2 (f251_63_at100_ok L N d h_at5 _ _ _ _ _ _ _ _ _ _ h) (fun _ _ => rfl)
set_option maxHeartbeats 100000 in
theorem f251_63_at69_ok (L N d : Nat) {r_at5 : Int → Int → Int → Int → gI → Option (Int × gI)} (h_at5 : ∀ x1 x2 x3 x4 u5 u6 u7 s o, r_at5 x1 x2 x3 x4 s = some o → iRR false L (d + 5) kj251 k251_5 [some (vR 63), some (vI x1), some (vI x2), some (vI x3), some (vI x4), u5, u6, u7] [] (s, g_rho) (some (vI o.1), (o.2, g_rho))) (x1 : Int) (x2 : Int) (x3 : Int) (x4 : Int) (x5 : Int) {u6 : Option iV} {u7 : Option iV} (s : gI) {o : Int × gI} (h : f251_at69 N r_at5 x1 x2 x3 x4 x5 s = some o) : iRR false L (d + 5) kj251 k251_69 [some (vR 63), some (vI x1), some (vI x2), some (vI x3), some (vI x4), some (vI x5), u6, u7] [] (s, g_rho) (some (vI o.1), (o.2, g_rho)) := by
  refine iRR.of 2 ?_
  exact iRT.go 1 (f251_63_at70_ok L N d h_at5 _ _ _ _ _ _ _ h) (fun _ _ => rfl)
set_option maxHeartbeats 100000 in
theorem f251_63_at5_ok (L N d : Nat) : ∀ (n : Nat) (x1 : Int) (x2 : Int) (x3 : Int) (x4 : Int) {u5 u6 u7 : Option iV} (s : gI) (o : Int × gI), f251_at5 N n x1 x2 x3 x4 s = some o → iRR false L (d + 5) kj251 k251_5 [some (vR 63), some (vI x1), some (vI x2), some (vI x3), some (vI x4), u5, u6, u7] [] (s, g_rho) (some (vI o.1), (o.2, g_rho)) := by
  intro n
  induction n with
  | zero => intro _ _ _ _ _ _ _ _ _ h; cases h
  | succ n ih =>
    intro x1 x2 x3 x4 u5 u6 u7 s o h
    refine iRR.of 401 ?_
    obtain ⟨i2, s1, h1, h⟩ := i_o2_inv h
    refine iRT.call (f221_63_ok L N (d + 4)  _ h1) ?_
    refine iRT.ite h (fun h => ?_) (fun h => ?_)
    · cases h
      exact iRT.ret
    · refine iRT.ov h fun h => ?_
      refine iRT.ck h fun h => ?_
      obtain ⟨i5, s4, h1, h⟩ := i_o2_inv h
      refine iRT.call (f226_63_ok L N (d + 4) _ _ _ h1) ?_
      refine iRT.dv h fun h => ?_
      refine iRT.ite h (fun h => ?_) (fun h => ?_)
      · refine iRT.ite h (fun h => ?_) (fun h => ?_)
        · exact iRT.go 0 (f251_63_at69_ok L N d (fun a0 a1 a2 a3 b0 b1 b2 s o h => ih a0 a1 a2 a3 s o h) _ _ _ _ _ _ h) (fun _ _ => rfl)
        · obtain ⟨i7, s6, h1, h⟩ := i_o2_inv h
          refine iRT.call (f225_63_ok L N (d + 4) _ _ h1) ?_
          refine iRT.ite h (fun h => ?_) (fun h => ?_)
          · exact iRT.go 0 (f251_63_at69_ok L N d (fun a0 a1 a2 a3 b0 b1 b2 s o h => ih a0 a1 a2 a3 s o h) _ _ _ _ _ _ h) (fun _ _ => rfl)
          · obtain ⟨i9, s8, h1, h⟩ := i_o2_inv h
            refine iRT.call (f225_63_ok L N (d + 4) _ _ h1) ?_
            refine iRT.ite h (fun h => ?_) (fun h => ?_)
            · exact iRT.go 0 (f251_63_at69_ok L N d (fun a0 a1 a2 a3 b0 b1 b2 s o h => ih a0 a1 a2 a3 s o h) _ _ _ _ _ _ h) (fun _ _ => rfl)
            · exact iRT.go 2 (f251_63_at70_ok L N d (fun a0 a1 a2 a3 b0 b1 b2 s o h => ih a0 a1 a2 a3 s o h) _ _ _ _ _ _ _ h) (fun _ _ => rfl)
      · exact iRT.go 0 (f251_63_at69_ok L N d (fun a0 a1 a2 a3 b0 b1 b2 s o h => ih a0 a1 a2 a3 s o h) _ _ _ _ _ _ h) (fun _ _ => rfl)
set_option maxHeartbeats 100000 in
theorem f251_63_ok (L N d : Nat) (x1 : Int) (x2 : Int) (s : gI) {o : Int × gI} (h : f251 N x1 x2 s = some o) : iEE L (d + 6) 251 [vR 63, vI x1, vI x2] (s, g_rho) (some (vI o.1), (o.2, g_rho)) := by
  refine iEE.of (wr := false) (d := d + 5) (md := gm_251) rfl rfl rfl (iRR.of 5 ?_)
  exact iRT.go 4 (f251_63_at5_ok L N d N _ _ _ _ _ _ h) (fun _ _ => rfl)
-- GutterNineModel.gale
set_option maxHeartbeats 100000 in
theorem f252_63_ok (L N d : Nat) (x1 : Int) (s : gI) {o : Int × gI} (h : f252 N x1 s = some o) : iEE L (d + 7) 252 [vR 63, vI x1] (s, g_rho) (some (vI o.1), (o.2, g_rho)) := by
  refine iEE.of (wr := false) (d := d + 6) (md := gm_252) rfl rfl rfl (iRR.of 401 ?_)
  delta f252 at h
  obtain ⟨i3, s2, h1, h⟩ := i_o2_inv h
  refine iRT.call (f189_ok L N (d + 5) _ _ _ _ h1) ?_
  refine iRT.ite h (fun h => ?_) (fun h => ?_)
  · cases h
    exact iRT.ret
  · obtain ⟨s4, h1, h⟩ := i_o1_inv h
    refine iRT.call (f217_63_ok L N (d + 4)  _ h1) ?_
    obtain ⟨i6, s5, h1, h⟩ := i_o2_inv h
    refine iRT.call (f251_63_ok L N (d + 0) _ _ _ h1) ?_
    cases h
    exact iRT.ret
-- GutterNineModel.both
set_option maxHeartbeats 100000 in
theorem f214_ok (L N d : Nat) (x0 : Int) (x1 : Int) (x2 : Int) (s : gI) {o : Int × gI} (h : f214 N x0 x1 x2 s = some o) : iEE L (d + 1) 214 [vI x0, vI x1, vI x2] (s, g_rho) (some (vI o.1), (o.2, g_rho)) := by
  refine iEE.of (wr := true) (d := d + 0) (md := gm_214) rfl rfl rfl (iRR.of 401 ?_)
  rcases iRT.cs h with ⟨hx0, h⟩ | ⟨hx0, h⟩
  · refine iRT.swin hx0 (off := 39) (by decide) (by decide) (by decide) ?_
    cases h
    exact iRT.ret
  · skip
    rcases iRT.cs h with ⟨hx1, h⟩ | ⟨hx1, h⟩
    · refine iRT.swin hx1 (off := 43) (by decide) (by decide) (by decide) ?_
      cases h
      exact iRT.ret
    · skip
      rcases iRT.cs h with ⟨hx2, h⟩ | ⟨hx2, h⟩
      · refine iRT.swin hx2 (off := 47) (by decide) (by decide) (by decide) ?_
        cases h
        exact iRT.ret
      · skip
        rcases iRT.cs h with ⟨hx3, h⟩ | ⟨hx3, h⟩
        · refine iRT.swin hx3 (off := 51) (by decide) (by decide) (by decide) ?_
          refine iRT.ite h (fun h => ?_) (fun h => ?_)
          · cases h
            exact iRT.ret
          · cases h
            exact iRT.ret
        · skip
          rcases iRT.cs h with ⟨hx4, h⟩ | ⟨hx4, h⟩
          · refine iRT.swin hx4 (off := 62) (by decide) (by decide) (by decide) ?_
            refine iRT.ite h (fun h => ?_) (fun h => ?_)
            · cases h
              exact iRT.ret
            · cases h
              exact iRT.ret
          · skip
            rcases iRT.cs h with ⟨hx5, h⟩ | ⟨hx5, h⟩
            · refine iRT.swin hx5 (off := 73) (by decide) (by decide) (by decide) ?_
              refine iRT.ite h (fun h => ?_) (fun h => ?_)
              · cases h
                exact iRT.ret
              · refine iRT.ite h (fun h => ?_) (fun h => ?_)
                · cases h
                  exact iRT.ret
                · cases h
                  exact iRT.ret
            · skip
              refine iRT.swout (by omega) (by decide) ?_
              refine iRT.ite h (fun h => ?_) (fun h => ?_)
              · refine iRT.ite h (fun h => ?_) (fun h => ?_)
                · cases h
                  exact iRT.ret
                · cases h
                  exact iRT.ret
              · cases h
                exact iRT.ret
-- GutterNineModel.worthAt
set_option maxHeartbeats 100000 in
theorem f213_63_at64_ok (L N d : Nat) {r_at4 : Int → Int → gI → Option (Int × gI)} (h_at4 : ∀ x2 x3 u1 u4 s o, r_at4 x2 x3 s = some o → iRR false L (d + 1) kj213 k213_4 [some (vR 63), u1, some (vI x2), some (vI x3), u4] [] (s, g_rho) (some (vI o.1), (o.2, g_rho))) (x2 : Int) (x3 : Int) (z0 : Int) (z1 : Int) {u1 : Option iV} {u4 : Option iV} (s : gI) {o : Int × gI} (h : f213_at64 N r_at4 x2 x3 z0 z1 s = some o) : iRR false L (d + 1) kj213 k213_64 [some (vR 63), u1, some (vI x2), some (vI x3), u4] [vI z0, vI z1, vR 77] (s, g_rho) (some (vI o.1), (o.2, g_rho)) := by
  refine iRR.of 6 ?_
  refine iRT.ck h fun h => ?_
  refine iRT.ov h fun h => ?_
  refine iRT.ov h fun h => ?_
  exact iRT.go 1 (h_at4 _ _ _ _ _ _ h) (fun _ _ => rfl)
set_option maxHeartbeats 100000 in
theorem f213_63_at33_ok (L N d : Nat) {r_at4 : Int → Int → gI → Option (Int × gI)} (h_at4 : ∀ x2 x3 u1 u4 s o, r_at4 x2 x3 s = some o → iRR false L (d + 1) kj213 k213_4 [some (vR 63), u1, some (vI x2), some (vI x3), u4] [] (s, g_rho) (some (vI o.1), (o.2, g_rho))) (x2 : Int) (x3 : Int) (x4 : Int) {u1 : Option iV} (s : gI) {o : Int × gI} (h : f213_at33 N r_at4 x2 x3 x4 s = some o) : iRR false L (d + 1) kj213 k213_33 [some (vR 63), u1, some (vI x2), some (vI x3), some (vI x4)] [] (s, g_rho) (some (vI o.1), (o.2, g_rho)) := by
  refine iRR.of 14 ?_
  refine iRT.ite h (fun h => ?_) (fun h => ?_)
  · refine iRT.ck h fun h => ?_
    exact iRT.go 1 (f213_63_at64_ok L N d h_at4 _ _ _ _ _ h) (fun _ _ => rfl)
  · refine iRT.ck h fun h => ?_
    refine iRT.ck h fun h => ?_
    exact iRT.go 0 (f213_63_at64_ok L N d h_at4 _ _ _ _ _ h) (fun _ _ => rfl)
set_option maxHeartbeats 100000 in
theorem f213_63_at100_ok (L N d : Nat) {r_at4 : Int → Int → gI → Option (Int × gI)} (h_at4 : ∀ x2 x3 u1 u4 s o, r_at4 x2 x3 s = some o → iRR false L (d + 1) kj213 k213_4 [some (vR 63), u1, some (vI x2), some (vI x3), u4] [] (s, g_rho) (some (vI o.1), (o.2, g_rho))) (x2 : Int) (x3 : Int) (z0 : Int) (z1 : Int) {u1 : Option iV} {u4 : Option iV} (s : gI) {o : Int × gI} (h : f213_at100 N r_at4 x2 x3 z0 z1 s = some o) : iRR false L (d + 1) kj213 k213_100 [some (vR 63), u1, some (vI x2), some (vI x3), u4] [vI z0, vI z1, vR 77] (s, g_rho) (some (vI o.1), (o.2, g_rho)) := by
  refine iRR.of 5 ?_
  refine iRT.ck h fun h => ?_
  refine iRT.ov h fun h => ?_
  exact iRT.go 1 (h_at4 _ _ _ _ _ _ h) (fun _ _ => rfl)
set_option maxHeartbeats 100000 in
theorem f213_63_at4_ok (L N d : Nat) : ∀ (n : Nat) (x2 : Int) (x3 : Int) {u1 u4 : Option iV} (s : gI) (o : Int × gI), f213_at4 N n x2 x3 s = some o → iRR false L (d + 1) kj213 k213_4 [some (vR 63), u1, some (vI x2), some (vI x3), u4] [] (s, g_rho) (some (vI o.1), (o.2, g_rho)) := by
  intro n
  induction n with
  | zero => intro _ _ _ _ _ _ h; cases h
  | succ n ih =>
    intro x2 x3 u1 u4 s o h
    refine iRR.of 401 ?_
    refine iRT.ck h fun h => ?_
    refine iRT.ite h (fun h => ?_) (fun h => ?_)
    · replace h := (ick_inv h).2.2
      cases h
      exact iRT.ret
    · refine iRT.ck h fun h => ?_
      refine iRT.ite h (fun h => ?_) (fun h => ?_)
      · exact iRT.go 0 (f213_63_at33_ok L N d (fun a0 a1 b0 b1 s o h => ih a0 a1 s o h) _ _ _ _ h) (fun _ _ => rfl)
      · refine iRT.ite h (fun h => ?_) (fun h => ?_)
        · exact iRT.go 0 (f213_63_at33_ok L N d (fun a0 a1 b0 b1 s o h => ih a0 a1 s o h) _ _ _ _ h) (fun _ _ => rfl)
        · refine iRT.ite h (fun h => ?_) (fun h => ?_)
          · refine iRT.ov h fun h => ?_
            refine iRT.ov h fun h => ?_
            refine iRT.ck h fun h => ?_
            refine iRT.ite h (fun h => ?_) (fun h => ?_)
            · exact iRT.go 2 (f213_63_at100_ok L N d (fun a0 a1 b0 b1 s o h => ih a0 a1 s o h) _ _ _ _ _ h) (fun _ _ => rfl)
            · exact iRT.go 1 (f213_63_at100_ok L N d (fun a0 a1 b0 b1 s o h => ih a0 a1 s o h) _ _ _ _ _ h) (fun _ _ => rfl)
          · refine iRT.ov h fun h => ?_
            refine iRT.ov h fun h => ?_
            refine iRT.ov h fun h => ?_
            refine iRT.ck h fun h => ?_
            refine iRT.ck h fun h => ?_
            obtain ⟨i4, s3, h1, h⟩ := i_o2_inv h
            refine iRT.call (f214_ok L N (d + 0) _ _ _ _ h1) ?_
            refine iRT.ck h fun h => ?_
            refine iRT.ov h fun h => ?_
            exact iRT.go 1 (ih _ _ _ _ h) (fun _ _ => rfl)
set_option maxHeartbeats 100000 in
theorem f213_63_ok (L N d : Nat) (x1 : Int) (s : gI) {o : Int × gI} (h : f213 N x1 s = some o) : iEE L (d + 2) 213 [vR 63, vI x1] (s, g_rho) (some (vI o.1), (o.2, g_rho)) := by
  refine iEE.of (wr := false) (d := d + 1) (md := gm_213) rfl rfl rfl (iRR.of 5 ?_)
  exact iRT.go 4 (f213_63_at4_ok L N d N _ _ _ _ h) (fun _ _ => rfl)
-- GutterNineModel.isLost
set_option maxHeartbeats 100000 in
theorem f253_ok (L N d : Nat) (x0 : Int) (s : gI) {o : Int × gI} (h : f253 N x0 s = some o) : iEE L (d + 1) 253 [vI x0] (s, g_rho) (some (vI o.1), (o.2, g_rho)) := by
  refine iEE.of (wr := false) (d := d + 0) (md := gm_253) rfl rfl rfl (iRR.of 401 ?_)
  refine iRT.ite h (fun h => ?_) (fun h => ?_)
  · replace h := (ib1_inv h).2
    cases h
    exact iRT.ret
  · refine iRT.ite h (fun h => ?_) (fun h => ?_)
    · replace h := (ib1_inv h).2
      cases h
      exact iRT.ret
    · replace h := (ib1_inv h).2
      cases h
      exact iRT.ret
-- GutterNineModel.lawAt
set_option maxHeartbeats 100000 in
theorem f254_63_at142_ok (L N d : Nat) (z0 : Int) {u0 : Option iV} {u1 : Option iV} {u2 : Option iV} {u3 : Option iV} {u4 : Option iV} (s : gI) {o : Int × gI} (h : f254_at142 N z0 s = some o) : iRR false L (d + 2) kj254 k254_142 [u0, u1, u2, u3, u4] [vI z0] (s, g_rho) (some (vI o.1), (o.2, g_rho)) := by
  refine iRR.of 401 ?_
  refine iRT.ite h (fun h => ?_) (fun h => ?_)
  · refine iRT.ite h (fun h => ?_) (fun h => ?_)
    · cases h
      exact iRT.ret
    · cases h
      exact iRT.ret
  · cases h
    exact iRT.ret
set_option maxHeartbeats 100000 in
theorem f254_63_at98_ok (L N d : Nat) {r_at31 : Int → Int → Int → gI → Option (Int × gI)} (h_at31 : ∀ x1 x2 x3 u4 s o, r_at31 x1 x2 x3 s = some o → iRR false L (d + 2) kj254 k254_31 [some (vR 63), some (vI x1), some (vI x2), some (vI x3), u4] [] (s, g_rho) (some (vI o.1), (o.2, g_rho))) (x1 : Int) (x2 : Int) (x3 : Int) (z0 : Int) (z1 : Int) (z2 : Int) {u4 : Option iV} (s : gI) {o : Int × gI} (h : f254_at98 N r_at31 x1 x2 x3 z0 z1 z2 s = some o) : iRR false L (d + 2) kj254 k254_98 [some (vR 63), some (vI x1), some (vI x2), some (vI x3), u4] [vI z0, vI z1, vI z2, vR 76] (s, g_rho) (some (vI o.1), (o.2, g_rho)) := by
  refine iRR.of 5 ?_
  refine iRT.ov h fun h => ?_
  refine iRT.ck h fun h => ?_
  refine iRT.ov h fun h => ?_
  exact iRT.go 1 (h_at31 _ _ _ _ _ _ h) (fun _ _ => rfl)
set_option maxHeartbeats 100000 in
theorem f254_63_at65_ok (L N d : Nat) {r_at31 : Int → Int → Int → gI → Option (Int × gI)} (h_at31 : ∀ x1 x2 x3 u4 s o, r_at31 x1 x2 x3 s = some o → iRR false L (d + 2) kj254 k254_31 [some (vR 63), some (vI x1), some (vI x2), some (vI x3), u4] [] (s, g_rho) (some (vI o.1), (o.2, g_rho))) (x1 : Int) (x2 : Int) (x3 : Int) (z0 : Int) (z1 : Int) (z2 : Int) {u4 : Option iV} (s : gI) {o : Int × gI} (h : f254_at65 N r_at31 x1 x2 x3 z0 z1 z2 s = some o) : iRR false L (d + 2) kj254 k254_65 [some (vR 63), some (vI x1), some (vI x2), some (vI x3), u4] [vI z0, vI z1, vI z2, vR 76] (s, g_rho) (some (vI o.1), (o.2, g_rho)) := by
  refine iRR.of 21 ?_
  refine iRT.ov h fun h => ?_
  refine iRT.ck h fun h => ?_
  replace h := (ick_inv h).2.2
  refine iRT.ov h fun h => ?_
  refine iRT.ck h fun h => ?_
  obtain ⟨i3, s2, h1, h⟩ := i_o2_inv h
  refine iRT.call (f253_ok L N (d + 1) _ _ h1) ?_
  refine iRT.ite h (fun h => ?_) (fun h => ?_)
  · exact iRT.go 1 (f254_63_at98_ok L N d h_at31 _ _ _ _ _ _ _ h) (fun _ _ => rfl)
  · obtain ⟨i5, s4, h1, h⟩ := i_o2_inv h
    refine iRT.call (f226_63_ok L N (d + 1) _ _ _ h1) ?_
    exact iRT.go 1 (f254_63_at98_ok L N d h_at31 _ _ _ _ _ _ _ h) (fun _ _ => rfl)
set_option maxHeartbeats 100000 in
theorem f254_63_at31_ok (L N d : Nat) : ∀ (n : Nat) (x1 : Int) (x2 : Int) (x3 : Int) {u4 : Option iV} (s : gI) (o : Int × gI), f254_at31 N n x1 x2 x3 s = some o → iRR false L (d + 2) kj254 k254_31 [some (vR 63), some (vI x1), some (vI x2), some (vI x3), u4] [] (s, g_rho) (some (vI o.1), (o.2, g_rho)) := by
  intro n
  induction n with
  | zero => intro _ _ _ _ _ _ h; cases h
  | succ n ih =>
    intro x1 x2 x3 u4 s o h
    refine iRR.of 21 ?_
    obtain ⟨i2, s1, h1, h⟩ := i_o2_inv h
    refine iRT.call (f221_63_ok L N (d + 1)  _ h1) ?_
    refine iRT.ite h (fun h => ?_) (fun h => ?_)
    · refine iRT.ov h fun h => ?_
      refine iRT.ck h fun h => ?_
      refine iRT.ite h (fun h => ?_) (fun h => ?_)
      · obtain ⟨i5, s4, h1, h⟩ := i_o2_inv h
        refine iRT.call (f213_63_ok L N (d + 0) _ _ h1) ?_
        exact iRT.go 0 (f254_63_at142_ok L N d _ _ h) (fun _ _ => rfl)
      · refine iRT.ite h (fun h => ?_) (fun h => ?_)
        · replace h := (ick_inv h).2.2
          exact iRT.go 5 (f254_63_at142_ok L N d _ _ h) (fun _ _ => rfl)
        · exact iRT.go 2 (f254_63_at142_ok L N d _ _ h) (fun _ _ => rfl)
    · replace h := (ick_inv h).2.2
      refine iRT.ov h fun h => ?_
      refine iRT.ck h fun h => ?_
      obtain ⟨i7, s6, h1, h⟩ := i_o2_inv h
      refine iRT.call (f253_ok L N (d + 1) _ _ h1) ?_
      refine iRT.ite h (fun h => ?_) (fun h => ?_)
      · exact iRT.go 1 (f254_63_at65_ok L N d (fun a0 a1 a2 b0 s o h => ih a0 a1 a2 s o h) _ _ _ _ _ _ _ h) (fun _ _ => rfl)
      · exact iRT.go 2 (f254_63_at65_ok L N d (fun a0 a1 a2 b0 s o h => ih a0 a1 a2 s o h) _ _ _ _ _ _ _ h) (fun _ _ => rfl)
set_option maxHeartbeats 100000 in
theorem f254_63_ok (L N d : Nat) (x1 : Int) (x2 : Int) (s : gI) {o : Int × gI} (h : f254 N x1 x2 s = some o) : iEE L (d + 3) 254 [vR 63, vI x1, vI x2] (s, g_rho) (some (vI o.1), (o.2, g_rho)) := by
  refine iEE.of (wr := false) (d := d + 2) (md := gm_254) rfl rfl rfl (iRR.of 23 ?_)
  replace h := (ick_inv h).2.2
  replace h := (ick_inv h).2.2
  refine iRT.ov h fun h => ?_
  refine iRT.ck h fun h => ?_
  replace h := (ick_inv h).2.2
  exact iRT.go 3 (f254_63_at31_ok L N d N _ _ _ _ _ h) (fun _ _ => rfl)
-- GutterNineModel.passes
set_option maxHeartbeats 100000 in
theorem f255_63_at200_ok (L N d : Nat) (x1 : Int) {u2 : Option iV} {u3 : Option iV} {u4 : Option iV} (s : gI) {o : gI} (h : f255_at200 N x1 s = some o) : iRR false L (d + 3) kj255 k255_200 [some (vR 63), some (vI x1), u2, u3, u4] [] (s, g_rho) (none, (o, g_rho)) := by
  refine iRR.of 401 ?_
  refine iRT.ov h fun h => ?_
  refine iRT.ck h fun h => ?_
  refine iRT.ov h fun h => ?_
  refine iRT.ck h fun h => ?_
  cases h
  exact iRT.ret
set_option maxHeartbeats 100000 in
theorem f255_63_at147_ok (L N d : Nat) : ∀ (n : Nat) (x1 : Int) (x4 : Int) {u2 u3 : Option iV} (s : gI) (o : gI), f255_at147 N n x1 x4 s = some o → iRR false L (d + 3) kj255 k255_147 [some (vR 63), some (vI x1), u2, u3, some (vI x4)] [] (s, g_rho) (none, (o, g_rho)) := by
  intro n
  induction n with
  | zero => intro _ _ _ _ _ _ h; cases h
  | succ n ih =>
    intro x1 x4 u2 u3 s o h
    refine iRR.of 27 ?_
    obtain ⟨i2, s1, h1, h⟩ := i_o2_inv h
    refine iRT.call (f221_63_ok L N (d + 2)  _ h1) ?_
    refine iRT.ite h (fun h => ?_) (fun h => ?_)
    · exact iRT.go 0 (f255_63_at200_ok L N d _ _ h) (fun _ _ => rfl)
    · refine iRT.ov h fun h => ?_
      refine iRT.ov h fun h => ?_
      refine iRT.ck h fun h => ?_
      obtain ⟨i4, s3, h1, h⟩ := i_o2_inv h
      refine iRT.call (f253_ok L N (d + 2) _ _ h1) ?_
      refine iRT.ite h (fun h => ?_) (fun h => ?_)
      · refine iRT.ov h fun h => ?_
        refine iRT.ck h fun h => ?_
        refine iRT.ck h fun h => ?_
        refine iRT.ov h fun h => ?_
        exact iRT.go 1 (ih _ _ _ _ h) (fun _ _ => rfl)
      · refine iRT.ck h fun h => ?_
        refine iRT.ov h fun h => ?_
        exact iRT.go 1 (ih _ _ _ _ h) (fun _ _ => rfl)
set_option maxHeartbeats 100000 in
theorem f255_63_at96_ok (L N d : Nat) (x1 : Int) (x3 : Int) (z0 : Int) (z1 : Int) (z2 : Int) {u2 : Option iV} {u4 : Option iV} (s : gI) {o : gI} (h : f255_at96 N x1 x3 z0 z1 z2 s = some o) : iRR false L (d + 3) kj255 k255_96 [some (vR 63), some (vI x1), u2, some (vI x3), u4] [vI z0, vI z1, vI z2, vR 78] (s, g_rho) (none, (o, g_rho)) := by
  refine iRR.of 35 ?_
  refine iRT.ov h fun h => ?_
  refine iRT.ck h fun h => ?_
  refine iRT.ite h (fun h => ?_) (fun h => ?_)
  · exact iRT.go 0 (f255_63_at200_ok L N d _ _ h) (fun _ _ => rfl)
  · refine iRT.ov h fun h => ?_
    refine iRT.ck h fun h => ?_
    replace h := (ick_inv h).2.2
    refine iRT.ov h fun h => ?_
    refine iRT.dv h fun h => ?_
    refine iRT.ite h (fun h => ?_) (fun h => ?_)
    · refine iRT.ov h fun h => ?_
      refine iRT.ck h fun h => ?_
      obtain ⟨i3, s2, h1, h⟩ := i_o2_inv h
      refine iRT.call (f254_63_ok L N (d + 0) _ _ _ h1) ?_
      refine iRT.ov h fun h => ?_
      refine iRT.ck h fun h => ?_
      exact iRT.go 2 (f255_63_at147_ok L N d N _ _ _ _ h) (fun _ _ => rfl)
    · exact iRT.go 0 (f255_63_at200_ok L N d _ _ h) (fun _ _ => rfl)
set_option maxHeartbeats 100000 in
theorem f255_63_at60_ok (L N d : Nat) {r_at7 : Int → Int → Int → Int → gI → Option (gI)} (h_at7 : ∀ x1 x2 x3 x4 s o, r_at7 x1 x2 x3 x4 s = some o → iRR false L (d + 3) kj255 k255_7 [some (vR 63), some (vI x1), some (vI x2), some (vI x3), some (vI x4)] [] (s, g_rho) (none, (o, g_rho))) (x1 : Int) (x2 : Int) (x4 : Int) {u3 : Option iV} (s : gI) {o : gI} (h : f255_at60 N r_at7 x1 x2 x4 s = some o) : iRR false L (d + 3) kj255 k255_60 [some (vR 63), some (vI x1), some (vI x2), u3, some (vI x4)] [] (s, g_rho) (none, (o, g_rho)) := by
  refine iRR.of 6 ?_
  refine iRT.ov h fun h => ?_
  exact iRT.go 1 (h_at7 _ _ _ _ _ _ h) (fun _ _ => rfl)
set_option maxHeartbeats 100000 in
theorem f255_63_at40_ok (L N d : Nat) {r_at7 : Int → Int → Int → Int → gI → Option (gI)} (h_at7 : ∀ x1 x2 x3 x4 s o, r_at7 x1 x2 x3 x4 s = some o → iRR false L (d + 3) kj255 k255_7 [some (vR 63), some (vI x1), some (vI x2), some (vI x3), some (vI x4)] [] (s, g_rho) (none, (o, g_rho))) (x1 : Int) (x3 : Int) (x4 : Int) (z0 : Int) {u2 : Option iV} (s : gI) {o : gI} (h : f255_at40 N r_at7 x1 x3 x4 z0 s = some o) : iRR false L (d + 3) kj255 k255_40 [some (vR 63), some (vI x1), u2, some (vI x3), some (vI x4)] [vI z0] (s, g_rho) (none, (o, g_rho)) := by
  refine iRR.of 16 ?_
  refine iRT.ite h (fun h => ?_) (fun h => ?_)
  · refine iRT.ov h fun h => ?_
    refine iRT.ck h fun h => ?_
    obtain ⟨i2, s1, h1, h⟩ := i_o2_inv h
    refine iRT.call (f253_ok L N (d + 2) _ _ h1) ?_
    refine iRT.ite h (fun h => ?_) (fun h => ?_)
    · refine iRT.ov h fun h => ?_
      exact iRT.go 1 (h_at7 _ _ _ _ _ _ h) (fun _ _ => rfl)
    · exact iRT.go 0 (f255_63_at60_ok L N d h_at7 _ _ _ _ h) (fun _ _ => rfl)
  · exact iRT.go 0 (f255_63_at60_ok L N d h_at7 _ _ _ _ h) (fun _ _ => rfl)
set_option maxHeartbeats 100000 in
theorem f255_63_at35_ok (L N d : Nat) {r_at7 : Int → Int → Int → Int → gI → Option (gI)} (h_at7 : ∀ x1 x2 x3 x4 s o, r_at7 x1 x2 x3 x4 s = some o → iRR false L (d + 3) kj255 k255_7 [some (vR 63), some (vI x1), some (vI x2), some (vI x3), some (vI x4)] [] (s, g_rho) (none, (o, g_rho))) (x1 : Int) (x3 : Int) (x4 : Int) {u2 : Option iV} (s : gI) {o : gI} (h : f255_at35 N r_at7 x1 x3 x4 s = some o) : iRR false L (d + 3) kj255 k255_35 [some (vR 63), some (vI x1), u2, some (vI x3), some (vI x4)] [] (s, g_rho) (none, (o, g_rho)) := by
  refine iRR.of 3 ?_
  exact iRT.go 2 (f255_63_at40_ok L N d h_at7 _ _ _ _ _ h) (fun _ _ => rfl)
set_option maxHeartbeats 100000 in
theorem f255_63_at7_ok (L N d : Nat) : ∀ (n : Nat) (x1 : Int) (x2 : Int) (x3 : Int) (x4 : Int) (s : gI) (o : gI), f255_at7 N n x1 x2 x3 x4 s = some o → iRR false L (d + 3) kj255 k255_7 [some (vR 63), some (vI x1), some (vI x2), some (vI x3), some (vI x4)] [] (s, g_rho) (none, (o, g_rho)) := by
  intro n
  induction n with
  | zero => intro _ _ _ _ _ _ h; cases h
  | succ n ih =>
    intro x1 x2 x3 x4 s o h
    refine iRR.of 19 ?_
    obtain ⟨i2, s1, h1, h⟩ := i_o2_inv h
    refine iRT.call (f221_63_ok L N (d + 2)  _ h1) ?_
    refine iRT.ite h (fun h => ?_) (fun h => ?_)
    · refine iRT.ov h fun h => ?_
      refine iRT.ck h fun h => ?_
      refine iRT.ite h (fun h => ?_) (fun h => ?_)
      · exact iRT.go 1 (f255_63_at96_ok L N d _ _ _ _ _ _ h) (fun _ _ => rfl)
      · obtain ⟨i4, s3, h1, h⟩ := i_o2_inv h
        refine iRT.call (f254_63_ok L N (d + 0) _ _ _ h1) ?_
        exact iRT.go 1 (f255_63_at96_ok L N d _ _ _ _ _ _ h) (fun _ _ => rfl)
    · refine iRT.ite h (fun h => ?_) (fun h => ?_)
      · refine iRT.ov h fun h => ?_
        refine iRT.ck h fun h => ?_
        refine iRT.ite h (fun h => ?_) (fun h => ?_)
        · exact iRT.go 1 (f255_63_at40_ok L N d (fun a0 a1 a2 a3  s o h => ih a0 a1 a2 a3 s o h) _ _ _ _ _ h) (fun _ _ => rfl)
        · exact iRT.go 0 (f255_63_at35_ok L N d (fun a0 a1 a2 a3  s o h => ih a0 a1 a2 a3 s o h) _ _ _ _ h) (fun _ _ => rfl)
      · exact iRT.go 0 (f255_63_at35_ok L N d (fun a0 a1 a2 a3  s o h => ih a0 a1 a2 a3 s o h) _ _ _ _ h) (fun _ _ => rfl)
set_option maxHeartbeats 100000 in
theorem f255_63_ok (L N d : Nat) (x1 : Int) (s : gI) {o : gI} (h : f255 N x1 s = some o) : iEE L (d + 4) 255 [vR 63, vI x1] (s, g_rho) (none, (o, g_rho)) := by
  refine iEE.of (wr := false) (d := d + 3) (md := gm_255) rfl rfl rfl (iRR.of 7 ?_)
  exact iRT.go 6 (f255_63_at7_ok L N d N _ _ _ _ _ _ h) (fun _ _ => rfl)

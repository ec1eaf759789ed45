/-! A YARD read: the line shot. -/
def sh7 (t : gI) (M : Int → Int) (v : gI) : Prop := (∀ a : Nat, a ≠ 63 → a ≠ 71 → v.1 a = t.1 a) ∧ v.2 = t.2 ∧ (∀ j, j ≠ 7 → j ≠ 8 → v.1 63 j = t.1 63 j) ∧ v.1 71 = M
noncomputable def shT3 (i6 i15 : Int) (s14 : gI) : Option gI :=
        ick (i6 + (3 : Int)) 140 <|
        let s16 : gI := (iw s14 71 (i6 + (3 : Int)) i15)
        ick (72 : Int) 140 <|
        iov ((s16.1 71 (72 : Int)) + (1 : Int)) <|
        ick (72 : Int) 140 <|
        let s17 : gI := (iw s16 71 (72 : Int) ((s16.1 71 (72 : Int)) + (1 : Int)))
        some s17
noncomputable def shT2 (N : Nat) (i6 i12 : Int) (s11 : gI) : Option gI :=
        ick (i6 + (2 : Int)) 140 <|
        let s13 : gI := (iw s11 71 (i6 + (2 : Int)) i12)
        iov (i6 + (3 : Int)) <|
        i_o2 (f191 N (9 : Int) (1 : Int) (99 : Int) s13) fun i15 s14 => shT3 i6 i15 s14
noncomputable def shT1 (N : Nat) (i6 i9 : Int) (s8 : gI) : Option gI :=
        ick (i6 + (1 : Int)) 140 <|
        let s10 : gI := (iw s8 71 (i6 + (1 : Int)) i9)
        iov (i6 + (2 : Int)) <|
        i_o2 (f191 N (8 : Int) (1 : Int) (12 : Int) s10) fun i12 s11 => shT2 N i6 i12 s11
section YARDT
variable {N : Nat} {s t u v v1 : gI} {F G G0 A B C T H H2 P V O K W M m m2 X U l g : Int → Int} {n e st lo hi c zn br w k d cc cc2 p q y x z : Int} {r i i2 lc a b ww : Nat}
theorem ic1_iw (h : a ≠ 1) : ic (iw t a x y) 1 G = iw (ic t 1 G) a x y := by
  rw [iw_ic (a := a), iw_ic (a := a), ic_ne h, ic_comm h]
theorem sh7.rf : sh7 t (t.1 71) t := ⟨fun _ _ _ => rfl, rfl, fun _ _ _ => rfl, rfl⟩
theorem sh7.wr (h : sh7 t M v) : sh7 t M (iw v 63 7 x) := ⟨fun a q q2 => by rw [iw_ne q]; exact h.1 a q q2, by rw [iw_2]; exact h.2.1, fun j q q2 => by rw [iw_at, zup_ne q]; exact h.2.2.1 j q q2, by rw [iw_ne (by decide)]; exact h.2.2.2⟩
theorem sh7.be (h : sh7 t M v) : sh7 t M (iw v 63 8 x) := ⟨fun a q q2 => by rw [iw_ne q]; exact h.1 a q q2, by rw [iw_2]; exact h.2.1, fun j q q2 => by rw [iw_at, zup_ne q2]; exact h.2.2.1 j q q2, by rw [iw_ne (by decide)]; exact h.2.2.2⟩
theorem sh7.me (h : sh7 t M v) : sh7 t (zup M x y) (iw v 71 x y) := ⟨fun a q q2 => by rw [iw_ne q2]; exact h.1 a q q2, by rw [iw_2]; exact h.2.1, fun j q q2 => by rw [iw_ne (by decide)]; exact h.2.2.1 j q q2, by rw [iw_at, h.2.2.2]⟩
theorem sh7.Z (h : sh7 t M v) (hM : ∀ j, j < 70 → M j = t.1 71 j) : frZ t v := ⟨fun a q q2 _ _ _ => h.1 a q q2, fun a _ => by rw [h.2.1], fun j hj => by rw [h.2.2.2]; exact hM j hj, fun j _ => ⟨by rw [h.1 72 (by decide) (by decide)], by rw [h.1 73 (by decide) (by decide)]⟩, fun j q q2 _ _ _ => h.2.2.1 j q q2⟩
theorem mAt.me (h : mAt F n i t) : mAt F n i (iw t 71 x y) := h.of (by rw [iw_ne (by decide)]) (by rw [iw_ne (by decide)]) rfl rfl (by rw [iw_ne (by decide)]) (by rw [iw_ne (by decide)])
theorem shT3_ok (c0 : 0 ≤ c) (c5 : c ≤ 5) (h : t.1 71 72 = c) (he : e = 108 + 4 * c) : shT3 e x t = some (iw (iw t 71 (e + 3) x) 71 72 (c + 1)) := by
  subst he
  unfold shT3
  rw [ick_ok (by omega) (by omega)]
  try dsimp only
  rw [iw_at, zup_ne (by omega), h, ick_ok (by decide) (by decide), iov_ok (by omega) (by omega), ick_ok (by decide) (by decide)]
theorem shT2_bad (hb : mBad z t) (c0 : 0 ≤ c) (c5 : c ≤ 5) (h : t.1 71 72 = c) (he : e = 108 + 4 * c) : ∃ v, shT2 N e x t = some v ∧ frZ t v ∧ mBad z v := by
  unfold shT2
  rw [ick_ok (by omega) (by omega)]
  try dsimp only
  rw [iov_ok (by omega) (by omega), b_takeAfter hb.w1, i_o2_some, shT3_ok c0 c5 (by rw [iw_at, zup_ne (by omega)]; exact h) he]
  exact ⟨_, rfl, (frZ.w1 (by omega)).tr ((frZ.w1 (by omega)).tr (frZ.w1 (by decide))), hb.w1.w1.w1⟩
theorem shT1_bad (hb : mBad z t) (c0 : 0 ≤ c) (c5 : c ≤ 5) (h : t.1 71 72 = c) (he : e = 108 + 4 * c) : ∃ v, shT1 N e x t = some v ∧ frZ t v ∧ mBad z v := by
  unfold shT1
  rw [ick_ok (by omega) (by omega)]
  try dsimp only
  rw [iov_ok (by omega) (by omega), b_takeAfter hb.w1, i_o2_some]
  have h0 : (iw t 71 (e + 1) x).1 71 72 = c := by rw [iw_at, zup_ne (by omega)]; exact h
  obtain ⟨v, h1, h2, h3⟩ := shT2_bad (N := N) (x := 0) hb.w1 c0 c5 h0 he
  exact ⟨v, h1, (frZ.w1 (by omega)).tr h2, h3⟩
/-- a FAULT on both sides -/
theorem LO_flt {t3 t5 s3 : gI} (hsp : spY s3) (z0 : 0 < z) (h7 : s3.1 1 7 = z) (f0 : frY s s3) (f1 : frZ t t3) (f2 : frZ t3 t5) (hb : mBad z t5) : LO F n i s t 0 s3 t5 := ⟨f0, f1.tr f2, hsp, Or.inr ⟨rfl, by rw [h7]; exact z0, Or.inl (by rw [h7]; exact hb)⟩⟩
/-- shot .. -/
theorem y_shot (hN : 5000 ≤ N) (hT : tpF F n) (hL : LSt F n i s t) (hw : tK F n (tP F n i) ≠ 0) : ∃ b s2 t2, f125 N s = some (b, s2) ∧ f206 N t = some t2 ∧ LO F n i s t b s2 t2 := by
  obtain ⟨hc, hm, hY, hcd, hsp⟩ := id hL
  obtain ⟨hYP, hYT, ⟨p1, p2, p3⟩, hYL, hW0, hW1, hYN, hTl⟩ := id hY
  have i1 := (mAt_i hT hm).1
  unfold f125 f206
  try dsimp only
  rw [ick_ok (by decide) (by decide), p1]
  by_cases g6 : s.1 47 8 = 6
  · rw [if_neg (by omega), if_pos g6, c_fail hT hc (by decide) (by decide), i_o2_some, ib1_ok (Or.inl rfl), m_wrong hT hm (by decide) (by decide), i_o1_some]
    exact ⟨_, _, _, rfl, rfl, LO_bad hT hm hsp (by decide) (zup_same _ _ _) (frY.ce (Or.inl rfl))⟩
  rw [if_pos (by omega), if_neg g6]
  obtain ⟨G0, a1, a2, -⟩ := c_next1 hN hT hc
  have at1 : ∀ (j : Nat) (G : Int → Int), atC F n (tP F n j) G → cAt F n j (ic s 1 G) := fun j G h => ⟨by rw [ic_ne (by decide)]; exact hc.1, by rw [ic_at]; exact h⟩
  have hc1 := at1 (i + 1) G0 a2
  have hm1 := mAt_up hm hw
  have v1 : sh7 t (t.1 71) (iw t 63 7 ((i : Int) + 1)) := sh7.rf.wr
  rw [a1, i_o1_some, hm.2.1, iov_ok (by omega) (by omega)]
  try dsimp only
  generalize iw t 63 7 ((i : Int) + 1) = t1 at hm1 v1
  have rg1 := tP_rg (F := F) hT.1.1 (i + 1)
  have rg2 := tP_rg (F := F) hT.1.1 (i + 2)
  have rg3 := tP_rg (F := F) hT.1.1 (i + 3)
  have i2 := (mAt_i hT hm1).1
  -- left or right
  have side : ∃ (x3 sd : Int), (sd = 0 ∨ sd = 1) ∧ ((sd = 0 ∧ x3 = 1) ∨ (sd = 1 ∧ x3 = 0)) ∧ tK F n (tP F n (i + 1)) = 2 ∧ (i_o2 (f101 N 1058 4 (ic s 1 G0)) fun i4 s3 => if i4 = 0 then i_o2 (f101 N 1060 5 s3) fun i6 s5 => if i6 = 0 then i_o2 (f104 N (1 : Int) s5) fun i8 s7 => ib1 i8 <| some (i8, s7) else f125_at62 N (s.1 47 8) i4 s5 else f125_at62 N (s.1 47 8) i4 s3) = f125_at62 N (s.1 47 8) x3 (ic s 1 G0) ∧ f192 N 6 2 t1 = some (sd, t1) ∨ ((i_o2 (f101 N 1058 4 (ic s 1 G0)) fun i4 s3 => if i4 = 0 then i_o2 (f101 N 1060 5 s3) fun i6 s5 => if i6 = 0 then i_o2 (f104 N (1 : Int) s5) fun i8 s7 => ib1 i8 <| some (i8, s7) else f125_at62 N (s.1 47 8) i4 s5 else f125_at62 N (s.1 47 8) i4 s3) = some (0, ic s 1 (zup G0 7 (1 + 16 * tP F n (i + 1)))) ∧ f192 N 6 2 t1 = some (-1, t1)) := by
    obtain ⟨w, w1, w2⟩ := m_wordHere (N := N) (a := 6) (b := 2) hN hT hm1 (by decide)
    have w1 : f192 N 6 2 t1 = some (w, t1) := w1
    rw [c_isWord hN hT hc1 wd_58, i_o2_some]
    by_cases g : isW F n (tP F n (i + 1)) 6
    · rw [if_pos g, if_neg (by decide)]
      refine ⟨1, 0, Or.inl ⟨Or.inl rfl, Or.inl ⟨rfl, rfl⟩, g.1, rfl, ?_⟩⟩
      rcases w2 with ⟨h1, h2⟩ | ⟨k, h1, h2, h3⟩
      · exact absurd g (h2 0 (by decide))
      · have := isW_inj (by omega) (by decide) h3 g
        rw [w1, h1, show k = 0 by omega]
        rfl
    rw [if_neg g, if_pos rfl, c_isWord hN hT hc1 wd_60, i_o2_some]
    by_cases g2 : isW F n (tP F n (i + 1)) 7
    · rw [if_pos g2, if_neg (by decide)]
      refine ⟨0, 1, Or.inl ⟨Or.inr rfl, Or.inr ⟨rfl, rfl⟩, g2.1, rfl, ?_⟩⟩
      rcases w2 with ⟨h1, h2⟩ | ⟨k, h1, h2, h3⟩
      · exact absurd g2 (h2 1 (by decide))
      · have := isW_inj (by omega) (by decide) h3 g2
        rw [w1, h1, show k = 1 by omega]
        rfl
    · rw [if_neg g2, if_pos rfl, c_fail hT hc1 (by decide) (by decide), i_o2_some, ib1_ok (Or.inl rfl), ic_ic, ic_at]
      refine ⟨0, 0, Or.inr ⟨rfl, ?_⟩⟩
      rcases w2 with ⟨h1, h2⟩ | ⟨k, h1, h2, h3⟩
      · rw [w1, h1]
      · rcases (by omega : k = 0 ∨ k = 1) with q | q <;> subst q
        · exact absurd h3 g
        · exact absurd h3 g2
  obtain ⟨x3, sd, ⟨sd01, sx, k1, e1, e2⟩ | ⟨e1, e2⟩⟩ := side
  rotate_left
  · rw [e1, e2, i_o2_some, if_neg (by decide), m_wrong hT hm1 (by decide) (by decide), i_o1_some]
    exact ⟨_, _, _, rfl, rfl, LO_flt (spY_1 hsp) (by omega) (by rw [ic_at, zup_same]) (frY.ce (Or.inl rfl)) (v1.Z (fun _ _ => rfl)) (frZ.wr (Or.inr (Or.inl rfl))) (mBad_of hT hm1 (by decide))⟩
  have hm2 := mAt_up hm1 (by omega)
  have v2 : sh7 t (t.1 71) (iw t1 63 7 (((i + 1 : Nat) : Int) + 1)) := v1.wr
  rw [e1, e2, i_o2_some, if_pos (by omega), hm1.2.1, iov_ok (by omega) (by omega)]
  try dsimp only
  clear e1 e2 v1
  generalize iw t1 63 7 (((i + 1 : Nat) : Int) + 1) = t2 at hm2 v2
  rw [iov_ok (by omega) (by omega), iov_ok (by omega) (by omega), ick_ok (by omega) (by omega), iov_ok (by omega) (by omega)]
  generalize he6 : 108 + 4 * s.1 47 8 = e6
  obtain ⟨G1, b1, b2, -⟩ := c_next1 hN hT hc1
  have hc2 := at1 (i + 2) G1 (by rw [ic_ic] at b1; exact b2)
  have hm3 : mAt F n (i + 2) (iw t2 71 e6 sd) := hm2.me
  have v3 : sh7 t (zup (t.1 71) e6 sd) (iw t2 71 e6 sd) := v2.me
  unfold f125_at62
  rw [b1, i_o1_some, ic_ic]
  clear v2 hm2 b1
  generalize iw t2 71 e6 sd = t3 at hm3 v3
  have c72 : ∀ (u : gI) (M : Int → Int), sh7 t M u → M 72 = t.1 71 72 → u.1 71 72 = s.1 47 8 := fun u M h1 h2 => by rw [h1.2.2.2, h2]; exact p1
  have lowM : ∀ (M : Int → Int) (y : Int), (∀ j, j < 70 → M j = t.1 71 j) → ∀ x, 70 ≤ x → ∀ j, j < 70 → zup M x y j = t.1 71 j := fun M y h x hx j hj => by rw [zup_ne (by omega)]; exact h j hj
  show ∃ b s2 t2, _ ∧ (i_o2 (f190 N (0 : Int) (8 : Int) t3) fun i9 s8 => shT1 N e6 i9 s8) = some t2 ∧ _
  rw [m_takeNum hT hm3]
  rcases c_takeNum (lo := 0) (hi := 8) hN hT hc2 with ⟨q1, G2, d1, d2, d3, -⟩ | ⟨q1, d1⟩
  rotate_left
  · have np := nWhy_pos (F := F) (n := n) (st := tP F n (i + 2))
    have hb := mBad_of hT hm3 np
    rw [d1, i_o2_some, if_pos rfl, ib1_ok (Or.inl rfl), if_neg q1, i_o2_some, ic_ic]
    obtain ⟨v, x1, x2, x3⟩ := shT1_bad (N := N) (x := 0) hb p2.1 (by omega) (by rw [iw_ne (by decide)]; exact c72 _ _ v3 (zup_ne (by omega))) he6.symm
    exact ⟨_, _, _, rfl, x1, LO_flt (spY_1 hsp) (by omega) (by rw [ic_at, zup_same]) (frY.ce (Or.inl rfl)) (v3.be.Z (lowM _ _ (fun _ _ => rfl) _ (by omega))) x2 x3⟩
  have hm4 := mAt_up hm3 (by have := q1.1; omega)
  have v4 := v3.wr (x := ((i + 2 : Nat) : Int) + 1)
  have vr := q1.2
  rw [d1, i_o2_some, if_neg (by decide), if_pos q1, i_o2_some, ic_ic, ic_at, d3]
  clear v3
  generalize iw t3 63 7 (((i + 2 : Nat) : Int) + 1) = t4 at hm4 v4
  generalize hV1 : tV F n (tP F n (i + 2)) = V1 at vr
  unfold shT1
  rw [ick_ok (by omega) (by omega)]
  try dsimp only
  rw [iov_ok (show -2147483648 ≤ e6 + 2 by omega) (by omega)]
  have hm5 : mAt F n (i + 3) (iw t4 71 (e6 + 1) V1) := hm4.me
  have v5 := v4.me (x := e6 + 1) (y := V1)
  clear v4 hm4
  generalize iw t4 71 (e6 + 1) V1 = t5 at hm5 v5
  -- what the class has of it
  have asd : ∃ A1, A1 = (if sd = 0 then -V1 else V1) ∧ (if x3 = 0 then f125_at111 N (s.1 47 8) V1 (s.1 47 8) (ic s 1 G2) else iov (-V1) <| f125_at111 N (s.1 47 8) (-V1) (s.1 47 8) (ic s 1 G2)) = f125_at111 N (s.1 47 8) A1 (s.1 47 8) (ic s 1 G2) := by
    refine ⟨_, rfl, ?_⟩
    rcases sx with ⟨h1, h2⟩ | ⟨h1, h2⟩
    · rw [if_neg (by omega), if_pos h1, iov_ok (by omega) (by omega)]
    · rw [if_pos h2, if_neg (by omega)]
  obtain ⟨A1, hA1, eA⟩ := asd
  rw [eA]
  clear eA
  unfold f125_at111
  rw [ick_ok p2.1 (by omega)]
  try dsimp only
  have at2 : ∀ (j : Nat) (G : Int → Int), atC F n (tP F n j) G → cAt F n j (iw (ic s 1 G) 54 (s.1 47 8) A1) := fun j G h => ⟨by rw [iw_ne (by decide), ic_ne (by decide)]; exact hc.1, by rw [iw_ne (by decide), ic_at]; exact h⟩
  have hc5 := at2 (i + 3) G2 d2
  have m2 := m_takeAfter (N := N) (x := 8) (ww := 8) (lo := 1) (hi := 12) hT hm5 (by decide) rfl
  obtain ⟨ma1, ma2, ma3⟩ := m2
  have sp3 : ∀ G, spY (iw (ic s 1 G) 54 (s.1 47 8) A1) := fun G => spY_cg (spY_1 (G := G) hsp) (iw_ne (by decide)) (iw_ne (by decide)) (iw_ne (by decide))
  have fY3 : ∀ G, frY s (iw (ic s 1 G) 54 (s.1 47 8) A1) := fun G => (frY.ce (Or.inl rfl)).tr (frY.wr (by omega))
  have low5 : ∀ j, j < 70 → zup (zup (t.1 71) e6 sd) (e6 + 1) V1 j = t.1 71 j := lowM _ _ (lowM _ _ (fun _ _ => rfl) _ (by omega)) _ (by omega)
  have c5 : t5.1 71 72 = s.1 47 8 := c72 _ _ v5 (by rw [zup_ne (by omega), zup_ne (by omega)])
  rcases c_takeAfter (lo := 1) (hi := 12) hN hT hc5 wd_62 with ⟨q2, cE⟩ | ⟨q2, q3, G3, g7, cE⟩ | ⟨q2, q3, G3, g3, g6', cE⟩
  · have hb := mBad_of (z := 1) hT hm5 (by decide)
    rw [cE, ma1 q2, i_o2_some, ic1_iw (by decide), ic_ic]
    obtain ⟨v, x1, x2, x3⟩ := shT2_bad (N := N) (x := 0) hb p2.1 (by omega) (by rw [iw_ne (by decide)]; exact c5) he6.symm
    exact ⟨_, _, _, rfl, x1, LO_flt (sp3 _) (by omega) (by rw [iw_ne (by decide), ic_at, zup_same]) (fY3 _) (v5.be.Z low5) x2 x3⟩
  · obtain ⟨e4, hm6⟩ := ma3 q2 q3
    have np := nWhy_pos (F := F) (n := n) (st := tP F n (i + 3 + 1))
    have rg4 := tP_rg (F := F) hT.1.1 (i + 3 + 1)
    have hb := mBad_of hT hm6 np
    rw [cE, e4, i_o2_some, ic1_iw (by decide), ic_ic]
    obtain ⟨v, x1, x2, x3⟩ := shT2_bad (N := N) (x := 0) hb p2.1 (by omega) (by rw [iw_ne (by decide), iw_ne (by decide)]; exact c5) he6.symm
    exact ⟨_, _, _, rfl, x1, LO_flt (sp3 _) (by omega) (by rw [iw_ne (by decide), ic_at, g7]) (fY3 _) (v5.wr.be.Z low5) x2 x3⟩
  obtain ⟨e4, hm6⟩ := ma2 q2 q3
  have vr2 := q3.2
  rw [cE, e4, i_o2_some, ick_ok p2.1 (by omega), ic1_iw (by decide), ic_ic, iw_ne (show (1 : Nat) ≠ 54 by decide), ic_at, g6']
  clear cE e4 ma1 ma2 ma3
  generalize hV2 : tV F n (tP F n (i + 3 + 1)) = V2 at vr2
  have v6 := v5.wr (x := ((i + 3 : Nat) : Int) + 2)
  generalize iw t5 63 7 (((i + 3 : Nat) : Int) + 2) = t6 at hm6 v6
  unfold shT2
  rw [ick_ok (by omega) (by omega)]
  try dsimp only
  rw [iov_ok (show -2147483648 ≤ e6 + 3 by omega) (by omega)]
  have hm7 : mAt F n (i + 5) (iw t6 71 (e6 + 2) V2) := hm6.me
  have v7 := v6.me (x := e6 + 2) (y := V2)
  clear v5 v6 hm6 hm5
  generalize iw t6 71 (e6 + 2) V2 = t7 at hm7 v7
  have hc7 : cAt F n (i + 5) (iw (iw (ic s 1 G3) 54 (s.1 47 8) A1) 55 (s.1 47 8) V2) := ⟨by rw [iw_ne (by decide), iw_ne (by decide), ic_ne (by decide)]; exact hc.1, by rw [iw_ne (by decide), iw_ne (by decide), ic_at]; exact g3⟩
  obtain ⟨ma1, ma2, ma3⟩ := m_takeAfter (N := N) (x := 9) (ww := 9) (lo := 1) (hi := 99) hT hm7 (by decide) rfl
  have sp4 : ∀ G, spY (iw (iw (ic s 1 G) 54 (s.1 47 8) A1) 55 (s.1 47 8) V2) := fun G => spY_cg (sp3 G) (iw_ne (by decide)) (iw_ne (by decide)) (iw_ne (by decide))
  have fY4 : ∀ G, frY s (iw (iw (ic s 1 G) 54 (s.1 47 8) A1) 55 (s.1 47 8) V2) := fun G => (fY3 G).tr (frY.wr (by omega))
  have low7 : ∀ j, j < 70 → zup (zup (zup (t.1 71) e6 sd) (e6 + 1) V1) (e6 + 2) V2 j = t.1 71 j := lowM _ _ low5 _ (by omega)
  have c7 : t7.1 71 72 = s.1 47 8 := c72 _ _ v7 (by rw [zup_ne (by omega), zup_ne (by omega), zup_ne (by omega)])
  have i7 := (mAt_i hT hm7).1
  have rg5 := tP_rg (F := F) hT.1.1 (i + 5)
  have rg6 := tP_rg (F := F) hT.1.1 (i + 5 + 1)
  rcases c_takeAfter (lo := 1) (hi := 99) hN hT hc7 wd_64 with ⟨q4, cE⟩ | ⟨q4, q5, G4, g7, cE⟩ | ⟨q4, q5, G4, g4, g6', cE⟩
  · have hb := mBad_of (z := 1) hT hm7 (by decide)
    rw [cE, ma1 q4, i_o2_some, ic1_iw (by decide), ic1_iw (by decide), ic_ic]
    rw [shT3_ok p2.1 (by omega) (by rw [iw_ne (by decide)]; exact c7) he6.symm]
    exact ⟨_, _, _, rfl, rfl, LO_flt (sp4 _) (by omega) (by rw [iw_ne (by decide), iw_ne (by decide), ic_at, zup_same]) (fY4 _) (v7.be.Z low7) ((frZ.w1 (by omega)).tr (frZ.w1 (by decide))) hb.w1.w1⟩
  · obtain ⟨e4, hm8⟩ := ma3 q4 q5
    have np := nWhy_pos (F := F) (n := n) (st := tP F n (i + 5 + 1))
    have hb := mBad_of hT hm8 np
    rw [cE, e4, i_o2_some, ic1_iw (by decide), ic1_iw (by decide), ic_ic]
    rw [shT3_ok p2.1 (by omega) (by rw [iw_ne (by decide), iw_ne (by decide)]; exact c7) he6.symm]
    exact ⟨_, _, _, rfl, rfl, LO_flt (sp4 _) (by omega) (by rw [iw_ne (by decide), iw_ne (by decide), ic_at, g7]) (fY4 _) (v7.wr.be.Z low7) ((frZ.w1 (by omega)).tr (frZ.w1 (by decide))) hb.w1.w1⟩
  obtain ⟨e4, hm8⟩ := ma2 q4 q5
  have vr3 := q5.2
  rw [cE, e4, i_o2_some, ick_ok p2.1 (by omega), ic1_iw (by decide), ic1_iw (by decide), ic_ic, iw_ne (show (1 : Nat) ≠ 55 by decide), iw_ne (show (1 : Nat) ≠ 54 by decide), ic_at, g6']
  rw [shT3_ok p2.1 (by omega) (by rw [iw_ne (by decide)]; exact c7) he6.symm]
  generalize hV3 : tV F n (tP F n (i + 5 + 1)) = V3 at vr3
  have e47 : (iw (iw (iw (ic s 1 G4) 54 (s.1 47 8) A1) 55 (s.1 47 8) V2) 56 (s.1 47 8) V3).1 47 8 = s.1 47 8 := by rw [iw_ne (by decide), iw_ne (by decide), iw_ne (by decide), ic_ne (by decide)]
  rw [e47, iov_ok (by omega) (by omega), ib1_ok (Or.inr rfl)]
  have v8 := ((v7.wr (x := ((i + 5 : Nat) : Int) + 2)).me (x := e6 + 3) (y := V3)).me (x := 72) (y := s.1 47 8 + 1)
  have hm9 : mAt F n (i + 7) (iw (iw (iw t7 63 7 (((i + 5 : Nat) : Int) + 2)) 71 (e6 + 3) V3) 71 72 (s.1 47 8 + 1)) := hm8.me.me
  generalize iw (iw (iw t7 63 7 (((i + 5 : Nat) : Int) + 2)) 71 (e6 + 3) V3) 71 72 (s.1 47 8 + 1) = t9 at v8 hm9
  generalize hs2 : iw (iw (iw (iw (ic s 1 G4) 54 (s.1 47 8) A1) 55 (s.1 47 8) V2) 56 (s.1 47 8) V3) 47 8 (s.1 47 8 + 1) = s2
  have s47 : s2.1 47 = zup (s.1 47) 8 (s.1 47 8 + 1) := by rw [← hs2, iw_at, iw_ne (by decide), iw_ne (by decide), iw_ne (by decide), ic_ne (by decide)]
  have s54 : s2.1 54 = zup (s.1 54) (s.1 47 8) A1 := by rw [← hs2, iw_ne (by decide), iw_ne (by decide), iw_ne (by decide), iw_at, ic_ne (by decide)]
  have s55 : s2.1 55 = zup (s.1 55) (s.1 47 8) V2 := by rw [← hs2, iw_ne (by decide), iw_ne (by decide), iw_at, iw_ne (by decide), ic_ne (by decide)]
  have s56 : s2.1 56 = zup (s.1 56) (s.1 47 8) V3 := by rw [← hs2, iw_ne (by decide), iw_at, iw_ne (by decide), iw_ne (by decide), ic_ne (by decide)]
  have sne : ∀ a : Nat, a ≠ 1 → a ≠ 47 → a ≠ 54 → a ≠ 55 → a ≠ 56 → s2.1 a = s.1 a := fun a b1 b2 b3 b4 b5 => by rw [← hs2, iw_ne b2, iw_ne b5, iw_ne b4, iw_ne b3, ic_ne b1]
  have s1 : s2.1 1 = G4 := by rw [← hs2, iw_ne (by decide), iw_ne (by decide), iw_ne (by decide), iw_ne (by decide), ic_at]
  have sl : s2.2 = s.2 := by rw [← hs2]; rfl
  have fY : frY s s2 := by rw [← hs2]; exact ((fY4 G4).tr (frY.wr (by omega))).tr (frY.wr (by omega))
  clear hs2
  have low9 : ∀ j, j < 70 → zup (zup (zup (zup (zup (t.1 71) e6 sd) (e6 + 1) V1) (e6 + 2) V2) (e6 + 3) V3) 72 (s.1 47 8 + 1) j = t.1 71 j := lowM _ _ (lowM _ _ low7 _ (by omega)) _ (by omega)
  have sp2 : spY s2 := spY_cg hsp (sne 48 (by decide) (by decide) (by decide) (by decide) (by decide)) (sne 50 (by decide) (by decide) (by decide) (by decide) (by decide)) (sne 52 (by decide) (by decide) (by decide) (by decide) (by decide))
  have zne : ∀ a : Nat, a ≠ 63 → a ≠ 71 → t9.1 a = t.1 a := v8.1
  refine ⟨1, s2, t9, rfl, rfl, fY, v8.Z low9, sp2, Or.inl ⟨rfl, i + 7, by omega, ⟨by rw [sne 2 (by decide) (by decide) (by decide) (by decide) (by decide)]; exact hc.1, by rw [s1]; exact g4⟩, hm9, ?_, by rw [v8.2.2.1 15 (by decide) (by decide)]; omega, sp2⟩⟩
  have far : ∀ j : Int, j ≠ 72 → (j < e6 ∨ e6 + 3 < j) → zup (zup (zup (zup (zup (t.1 71) e6 sd) (e6 + 1) V1) (e6 + 2) V2) (e6 + 3) V3) 72 (s.1 47 8 + 1) j = t.1 71 j := fun j q1 q2 => by rw [zup_ne q1, zup_ne (by omega), zup_ne (by omega), zup_ne (by omega), zup_ne (by omega)]
  unfold YR
  rw [s47, s54, s55, s56, sl, v8.2.2.2, v8.2.1, zne 72 (by decide) (by decide), zne 73 (by decide) (by decide), zne 75 (by decide) (by decide), v8.2.2.1 15 (by decide) (by decide), v8.2.2.1 18 (by decide) (by decide), v8.2.2.1 19 (by decide) (by decide)]
  rw [sne 48 (by decide) (by decide) (by decide) (by decide) (by decide), sne 50 (by decide) (by decide) (by decide) (by decide) (by decide), sne 51 (by decide) (by decide) (by decide) (by decide) (by decide), sne 52 (by decide) (by decide) (by decide) (by decide) (by decide), sne 57 (by decide) (by decide) (by decide) (by decide) (by decide), sne 58 (by decide) (by decide) (by decide) (by decide) (by decide), sne 60 (by decide) (by decide) (by decide) (by decide) (by decide), sne 61 (by decide) (by decide) (by decide) (by decide) (by decide), sne 3 (by decide) (by decide) (by decide) (by decide) (by decide)]
  refine ⟨yP_cg hYP (zup_ne (by decide)) (fun j hj => far j (by omega) (by omega)), yT_cg hYT (zup_ne (by decide)) (by rw [zup_ne (by decide)]; exact Int.le_refl _) (fun j hj => far j (by omega) (by omega)), ⟨?_, ?_, fun a a0 a1 => ?_⟩, yL_cg hYL (zup_ne (by decide)) (zup_ne (by decide)) (zup_ne (by decide)) (zup_ne (by decide)) (zup_ne (by decide)) (fun j j0 j1 => far j (by omega) (by omega)), yW_cg hW0 (far _ (by decide) (by omega)) (Int.le_refl _), yW_cg hW1 (far _ (by decide) (by omega)) (Int.le_refl _), yN_cg hYN (zup_ne (by decide)) (zup_ne (by decide)), hTl⟩
  · rw [zup_same, zup_same]
  · rw [zup_same]; omega
  · rw [zup_same] at a1
    by_cases q : a = s.1 47 8
    · have x0 : 108 + 4 * a = e6 := by omega
      rw [x0, q, zup_same, zup_same, zup_same]
      have y0 : zup (zup (zup (zup (zup (t.1 71) e6 sd) (e6 + 1) V1) (e6 + 2) V2) (e6 + 3) V3) 72 (s.1 47 8 + 1) e6 = sd := by rw [zup_ne (by omega), zup_ne (by omega), zup_ne (by omega), zup_ne (by omega), zup_same]
      have y1 : zup (zup (zup (zup (zup (t.1 71) e6 sd) (e6 + 1) V1) (e6 + 2) V2) (e6 + 3) V3) 72 (s.1 47 8 + 1) (e6 + 1) = V1 := by rw [zup_ne (by omega), zup_ne (by omega), zup_ne (by omega), zup_same]
      have y2 : zup (zup (zup (zup (zup (t.1 71) e6 sd) (e6 + 1) V1) (e6 + 2) V2) (e6 + 3) V3) 72 (s.1 47 8 + 1) (e6 + 2) = V2 := by rw [zup_ne (by omega), zup_ne (by omega), zup_same]
      have y3 : zup (zup (zup (zup (zup (t.1 71) e6 sd) (e6 + 1) V1) (e6 + 2) V2) (e6 + 3) V3) 72 (s.1 47 8 + 1) (e6 + 3) = V3 := by rw [zup_ne (by omega), zup_same]
      rw [y0, y1, y2, y3]
      exact ⟨by omega, vr, hA1, rfl, vr2, rfl, vr3⟩
    · rw [far _ (by omega) (by omega), far _ (by omega) (by omega), far _ (by omega) (by omega), far _ (by omega) (by omega), zup_ne q, zup_ne q, zup_ne q]
      exact p3 a a0 (by omega)
end YARDT

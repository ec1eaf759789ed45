/-! A YARD read: the line thing. -/
def mv7 (t v : gI) : Prop := (∀ a : Nat, a ≠ 63 → v.1 a = t.1 a) ∧ v.2 = t.2 ∧ ∀ j, j ≠ 7 → v.1 63 j = t.1 63 j
section YARDS
variable {N : Nat} {s t u v v1 : gI} {F G G0 A B C T H H2 P V O K W m m2 X U l g : Int → Int} {n e st lo hi c zn br w k d cc cc2 p q y x z : Int} {r i i2 lc a b ww : Nat}
theorem mv7.rf : mv7 t t := ⟨fun _ _ => rfl, rfl, fun _ _ => rfl⟩
theorem mv7.wr (h : mv7 t v) : mv7 t (iw v 63 7 x) := ⟨fun a q => by rw [iw_ne q]; exact h.1 a q, by rw [iw_2]; exact h.2.1, fun j q => by rw [iw_at, zup_ne q]; exact h.2.2 j q⟩
theorem mv7.Z (h : mv7 t v) : frZ t v := ⟨fun a q _ _ _ _ => h.1 a q, fun a _ => by rw [h.2.1], fun j _ => by rw [h.1 71 (by decide)], fun j _ => ⟨by rw [h.1 72 (by decide)], by rw [h.1 73 (by decide)]⟩, fun j q _ _ _ _ => h.2.2 j q⟩
theorem x136_bad (hb : mBad z t) {x1 x2 x3 : Int} (x0 : 0 ≤ x1) (x7 : x1 ≤ 7) (h71 : t.1 71 71 = x1) : ∃ v, f205_at136 N x1 x2 x3 0 (t.1 63 7) t = some v ∧ frZ t v ∧ mBad z v := by
  obtain ⟨b1, b2, b3, b4⟩ := id hb
  unfold f205_at136
  rw [iov_ok (by omega) (by omega)]
  try dsimp only
  have hb2 : mBad z (iw (iw (iw t 63 7 (t.1 63 7 + 0)) 71 (84 + 3 * x1) x2) 71 (84 + 3 * x1 + 1) x3) := mBad.w1 (mBad.w1 (hb.of (by rw [iw_at, zup_same]; omega) (by rw [iw_at, zup_ne (by decide)])))
  rw [iov_ok (by omega) (by omega), iov_ok (by omega) (by omega), ick_ok (by omega) (by omega), iov_ok (by omega) (by omega), ick_ok (by omega) (by omega), iov_ok (by omega) (by omega), b_takeAfter hb2, i_o2_some, ick_ok (by omega) (by omega), ick_ok (by decide) (by decide)]
  try dsimp only
  rw [iw_at, zup_ne (by omega), iw_at, zup_ne (by omega), iw_at, zup_ne (by omega), iw_ne (by decide), h71, iov_ok (by omega) (by omega), ick_ok (by decide) (by decide)]
  exact ⟨_, rfl, (((frZ.wr (Or.inl rfl)).tr (frZ.w1 (by omega))).tr (frZ.w1 (by omega))).tr ((frZ.w1 (by omega)).tr (frZ.w1 (by decide))), hb2.w1.w1⟩
theorem x119_bad (hb : mBad z t) {x1 x2 x3 : Int} (x0 : 0 ≤ x1) (x7 : x1 ≤ 7) (h71 : t.1 71 71 = x1) : ∃ v, f205_at119 N x1 x2 x3 t = some v ∧ frZ t v ∧ mBad z v := by
  unfold f205_at119
  rw [hb.1, if_neg (by have := hb.2.1; omega)]
  exact x136_bad hb x0 x7 h71
theorem x89_bad (hb : mBad z t) {x1 x2 : Int} (x0 : 0 ≤ x1) (x7 : x1 ≤ 7) (h71 : t.1 71 71 = x1) : ∃ v, f205_at89 N x1 x2 t = some v ∧ frZ t v ∧ mBad z v := by
  unfold f205_at89 f205_at104
  rw [hb.1, if_neg (by have := hb.2.1; omega), m_within, if_pos (by decide), i_o2_some, if_neg (by decide)]
  exact x119_bad hb x0 x7 h71
/-- thing .. -/
theorem y_thing (hN : 5000 ≤ N) (hT : tpF F n) (hL : LSt F n i s t) (hw : tK F n (tP F n i) ≠ 0) : ∃ b s2 t2, f124 N s = some (b, s2) ∧ f205 N t = some t2 ∧ LO F n i s t b s2 t2 := by
  obtain ⟨hc, hm, hY, hcd, hsp⟩ := id hL
  obtain ⟨hYP, ⟨p1, p2, p3, p4⟩, hYS, hYL, hW0, hW1, hYN, hTl⟩ := id hY
  have i1 := (mAt_i hT hm).1
  have h12 := hYN.1
  have hp4 := hYP.2.1
  unfold f124 f205
  try dsimp only
  rw [ick_ok (by decide) (by decide), p1]
  try dsimp only
  by_cases g8 : s.1 47 3 = 8
  · rw [if_neg (by omega), if_pos g8, c_fail hT hc (by decide) (by decide), i_o2_some, ib1_ok (Or.inl rfl), m_wrong hT hm (by decide) (by decide), i_o1_some]
    exact ⟨_, _, _, rfl, rfl, LO_bad hT hm hsp (by decide) (zup_same _ _ _) (frY.ce (Or.inl rfl))⟩
  rw [if_pos (by omega), if_neg g8]
  obtain ⟨G0, a1, a2, -⟩ := c_next1 hN hT hc
  have at1 : ∀ (j : Nat) (G : Int → Int), atC F n (tP F n j) G → cAt F n j (ic s 1 G) := fun j G h => ⟨by rw [ic_ne (by decide)]; exact hc.1, by rw [ic_at]; exact h⟩
  have hc1 := at1 (i + 1) G0 a2
  have hm1 := mAt_up hm hw
  rw [a1, i_o1_some, c_packed hN hT hc1, i_o2_some]
  -- a FAULT on both sides
  have flt : ∀ (j : Nat) (z : Int) (G : Int → Int) (t3 t5 : gI), 0 < z → G 7 = z + 16 * tP F n j → frZ t t3 → frZ t3 t5 → mBad (z + 16 * tP F n j) t5 → LO F n i s t 0 (ic s 1 G) t5 := fun j z G t3 t5 z0 h7 f1 f2 hb => ⟨frY.ce (Or.inl rfl), f1.tr f2, spY_1 hsp, Or.inr ⟨rfl, by rw [ic_at, h7]; exact hb.2.1, Or.inl (by rw [ic_at, h7]; exact hb)⟩⟩
  rcases y_newName hN hT hL hc1 hm1 (by omega) 100 with ⟨z, hz, e1, e2⟩ | ⟨k2, fr, G2, e1, e3, e2⟩
  · have hb := mBad_of (z := z) hT hm1 (by omega)
    have rg := tP_rg (F := F) hT.1.1 (i + 1)
    rw [e1, i_o2_some, if_pos rfl, ib1_ok (Or.inl rfl), e2, i_o1_some, hb.1, if_neg (by omega)]
    unfold f205_at44
    rw [if_neg (by decide), b_wrong hb, i_o1_some]
    exact ⟨_, _, _, rfl, rfl, flt (i + 1) z _ _ _ (by omega) (zup_same _ _ _) ((frZ.wr (Or.inl rfl)).tr (frZ.wr (Or.inr (Or.inl rfl)))) frZ.rf hb⟩
  have hc2 := at1 (i + 2) G2 e3
  have hm2 : mAt F n (i + 2) (tNm F n i 100 t) := tNm_at hT hm1 (by omega)
  have x71 : (tNm F n i 100 t).1 71 = t.1 71 := tNm_71
  have x72 : (tNm F n i 100 t).1 72 = t.1 72 := tNm_72
  have x73 : (tNm F n i 100 t).1 73 = t.1 73 := tNm_73
  have x75 : (tNm F n i 100 t).1 75 = zup (t.1 75) (t.1 63 18) 100 := tNm_75
  have x74 : (tNm F n i 100 t).2 74 = zup (t.2 74) (t.1 63 18) (tV F n (tP F n (i + 1))) := tNm_74
  have x18 : (tNm F n i 100 t).1 63 18 = t.1 63 18 + 1 := tNm_18
  have x63 : ∀ z : Int, z ≠ 7 → z ≠ 18 → (tNm F n i 100 t).1 63 z = t.1 63 z := fun z b1 b2 => tNm_63 b1 b2
  have xfr : frZ t (tNm F n i 100 t) := tNm_fr
  rw [e1, i_o2_some, if_neg (by decide), e2, i_o1_some]
  generalize tNm F n i 100 t = t3 at hm2 x71 x72 x73 x75 x74 x18 x63 xfr
  have i2 := (mAt_i hT hm2).1
  have rg2 := tP_rg (F := F) hT.1.1 (i + 2)
  have kr := kd_rg (F := F) (n := n) (st := tP F n (i + 2))
  rw [hm2.2.2.1, if_pos (by decide), m_kindHere hN hT hm2, i_o2_some, c_kindHere hN hT hc2, i_o2_some]
  unfold f205_at44
  by_cases gk : kdW F n (tP F n (i + 2)) = -1
  · rw [if_pos gk, if_neg (by omega), c_fail hT hc2 (by decide) (by decide), i_o2_some, ib1_ok (Or.inl rfl), m_wrong hT hm2 (by decide) (by decide), i_o1_some, ic_ic]
    exact ⟨_, _, _, rfl, rfl, flt (i + 2) 1 _ _ _ (by decide) (zup_same _ _ _) xfr (frZ.wr (Or.inr (Or.inl rfl))) (mBad_of hT hm2 (by decide))⟩
  rw [if_neg gk, if_pos (by omega), hm2.2.1, iov_ok (by omega) (by omega)]
  try dsimp only
  obtain ⟨G3, b1, b2, -⟩ := c_next1 hN hT hc2
  have kt := kd_tok gk
  have hm3 := mAt_up hm2 (by omega)
  rw [b1, i_o1_some, ic_ic]
  have hc3 := at1 (i + 3) G3 b2
  have v3 : mv7 t3 (iw t3 63 7 (((i + 2 : Nat) : Int) + 1)) := mv7.wr mv7.rf
  generalize iw t3 63 7 (((i + 2 : Nat) : Int) + 1) = t4 at hm3 v3
  have hm3 : mAt F n (i + 3) t4 := hm3
  have i3 := (mAt_i hT hm3).1
  have mw := m_takeWord (N := N) (w := 3) hT hm3 (by decide)
  have mw : f188 N 3 t4 = _ := mw
  have h7 : ∀ v : gI, mv7 t3 v → v.1 71 71 = s.1 47 3 := fun v h => by rw [h.1 71 (by decide), x71, p1]
  rw [mw, i_o1_some]
  rcases c_takeWord hN hT hc3 wd_54 with ⟨q3, G4, c1, c2, -⟩ | ⟨q3, c1⟩
  rotate_left
  · have hb := mBad_of (z := 1) hT hm3 (by decide)
    rw [c1, i_o2_some, if_pos rfl, ib1_ok (Or.inl rfl), if_neg q3, hb.1, if_neg (by have := hb.2.1; omega), ic_ic]
    obtain ⟨t5, d1, d2, d3⟩ := x89_bad (N := N) (x2 := kdW F n (tP F n (i + 2))) hb p2.1 (by omega) (by rw [iw_ne (by decide)]; exact h7 _ v3)
    rw [d1]
    exact ⟨_, _, _, rfl, rfl, flt (i + 3) 1 _ _ _ (by decide) (zup_same _ _ _) (xfr.tr (v3.Z.tr (frZ.wr (Or.inr (Or.inl rfl))))) d2 d3⟩
  rw [c1, i_o2_some, if_neg (by decide), if_pos q3, ic_ic]
  have hc4 := at1 (i + 4) G4 c2
  have hm4 := mAt_up hm3 (by have := q3.1; omega)
  have v4 : mv7 t3 (iw t4 63 7 (((i + 3 : Nat) : Int) + 1)) := v3.wr
  generalize iw t4 63 7 (((i + 3 : Nat) : Int) + 1) = t5 at hm4 v4
  have hm4 : mAt F n (i + 4) t5 := hm4
  have i4 := (mAt_i hT hm4).1
  rw [hm4.2.2.1, if_pos rfl, c_packed hN hT hc4, i_o2_some]
  obtain ⟨mn1, mn2⟩ := m_nmD (N := N) hN hT hm4
  unfold f130
  rcases c_nmD hN hT hc4 with ⟨hnm, en⟩ | ⟨hnm, en⟩
  rotate_left
  · have hb := mBad_of (z := 1) hT hm4 (by decide)
    obtain ⟨f, f1, -⟩ := c_pn_lp (N := N) (s := ic s 1 G4) (y := pkW F n (tP F n (i + 4))) (by rw [ic_ne (by decide)]; exact hp4) (s.1 47 0).toNat N 0 (by decide) (by rw [ic_ne (by decide)]; omega) (by omega)
    have f1 : f117 N (pkW F n (tP F n (i + 4))) (ic s 1 G4) = some (f, ic s 1 G4) := f1
    rw [f1, i_o2_some, en, i_o2_some, if_pos rfl, c_fail hT hc4 (by decide) (by decide), i_o2_some, ib1_ok (Or.inl rfl), i_o2_some, if_pos rfl, ib1_ok (Or.inl rfl), mn2 hnm, i_o2_some, if_pos rfl, m_wrong hT hm4 (by decide) (by decide), i_o1_some, ic_ic]
    obtain ⟨t6, d1, d2, d3⟩ := x89_bad (N := N) (x2 := kdW F n (tP F n (i + 2))) hb p2.1 (by omega) (by rw [iw_ne (by decide)]; exact h7 _ v4)
    rw [d1]
    exact ⟨_, _, _, rfl, rfl, flt (i + 4) 1 _ _ _ (by decide) (zup_same _ _ _) (xfr.tr (v4.Z.tr (frZ.wr (Or.inr (Or.inl rfl))))) d2 d3⟩
  have k4 := hnm.1
  -- whose it is
  have nm2 : yN ((iwl (iw s 47 3 (s.1 47 3 + 1)) 53 (s.1 47 3) (pkW F n (tP F n (i + 1)))).1 47) ((iwl (iw s 47 3 (s.1 47 3 + 1)) 53 (s.1 47 3) (pkW F n (tP F n (i + 1)))).2 49) ((iwl (iw s 47 3 (s.1 47 3 + 1)) 53 (s.1 47 3) (pkW F n (tP F n (i + 1)))).2 53) (t5.1 63 18) (t5.2 74) (t5.1 75) := by
    rw [iwl_1, iw_at, iwl_ne (by decide), iw_2, iwl_at, iw_2, v4.2.2 18 (by decide), x18, v4.2.1, x74, v4.1 75 (by decide), x75]
    exact yN_thing hYN hp4.1 p2.1 (PV_tok k2) fr
  obtain ⟨x, b, f, u1, -, u3, u4⟩ := y_find (N := N) hN hT hm4 k4 (by rw [iwl_1, iw_at, zup_ne (by decide)]; exact hp4) (by rw [iwl_1, iw_at, zup_same]; omega) nm2
  have u1 := u1 (ic s 1 G4) (by rw [ic_ne (by decide), iwl_1, iw_at, zup_ne (by decide)]) (by rw [iwl_ne (by decide), iw_2, ic_l])
  rw [u1, i_o2_some, en, i_o2_some, if_neg (show ¬ (1 : Int) = 0 by decide), mn1 hnm, i_o2_some, if_neg (show ¬ (1 : Int) = 0 by decide)]
  unfold f205_at89 f205_at104
  rw [hm4.2.2.1, if_pos (show (0 : Int) ≤ 0 by decide), u3, i_o2_some, m_within, i_o2_some]
  have u5 : (0 ≤ f ∧ f < s.1 47 0 ∧ x = f) ∨ (x = -1 ∧ ¬ (0 ≤ f ∧ f ≤ 3)) := by
    rcases u4 with ⟨q1, q2, -⟩ | ⟨q1, q2, q3, -⟩ | ⟨q1, q2, -⟩
    · exact Or.inr ⟨q2, by omega⟩
    · rw [iwl_1, iw_at, zup_ne (by decide)] at q2
      exact Or.inl ⟨q1, q2, q3⟩
    · exact Or.inr ⟨q2, by omega⟩
  rcases u5 with ⟨f0, f4, fx⟩ | ⟨fx, f4⟩
  rotate_left
  · have hb := mBad_of (z := 2) hT hm4 (by decide)
    rw [if_pos fx, if_neg f4, if_pos rfl, c_fail hT hc4 (by decide) (by decide), i_o2_some, ib1_ok (Or.inl rfl), i_o2_some, if_pos rfl, ib1_ok (Or.inl rfl), m_wrong hT hm4 (by decide) (by decide), i_o1_some, ic_ic]
    obtain ⟨t6, d1, d2, d3⟩ := x119_bad (N := N) (x2 := kdW F n (tP F n (i + 2))) (x3 := f) hb p2.1 (by omega) (by rw [iw_ne (by decide)]; exact h7 _ v4)
    rw [d1]
    exact ⟨_, _, _, rfl, rfl, flt (i + 4) 2 _ _ _ (by decide) (zup_same _ _ _) (xfr.tr (v4.Z.tr (frZ.wr (Or.inr (Or.inl rfl))))) d2 d3⟩
  subst fx
  obtain ⟨G5, l1, l2, -⟩ := c_next1 hN hT hc4
  rw [if_neg (show ¬ x = -1 by omega), l1, i_o1_some, ib1_ok (Or.inr rfl), i_o2_some, if_neg (by decide), if_pos (show 0 ≤ x ∧ x ≤ 3 by omega), if_neg (by decide), ic_ic]
  have hc5 := at1 (i + 5) G5 l2
  unfold f205_at119 f205_at136
  have hm5 := mAt_up hm4 (by omega)
  rw [hm4.2.2.1, if_pos (by decide), hm4.2.1, iov_ok (by omega) (by omega)]
  try dsimp only
  have v5 : mv7 t3 (iw t5 63 7 (((i + 4 : Nat) : Int) + 1)) := v4.wr
  generalize iw t5 63 7 (((i + 4 : Nat) : Int) + 1) = t6 at hm5 v5
  have hm5 : mAt F n (i + 5) t6 := hm5
  rw [iov_ok (by omega) (by omega), iov_ok (by omega) (by omega), ick_ok (by omega) (by omega), iov_ok (by omega) (by omega), ick_ok (by omega) (by omega), iov_ok (by omega) (by omega)]
  have hm6 : mAt F n (i + 5) (iw (iw t6 71 (84 + 3 * s.1 47 3) (kdW F n (tP F n (i + 2)))) 71 (84 + 3 * s.1 47 3 + 1) x) := hm5.of (by rw [iw_ne (by decide), iw_ne (by decide)]) (by rw [iw_ne (by decide), iw_ne (by decide)]) rfl rfl (by rw [iw_ne (by decide), iw_ne (by decide)]) (by rw [iw_ne (by decide), iw_ne (by decide)])
  have y71 : (iw (iw t6 71 (84 + 3 * s.1 47 3) (kdW F n (tP F n (i + 2)))) 71 (84 + 3 * s.1 47 3 + 1) x).1 71 = zup (zup (t.1 71) (84 + 3 * s.1 47 3) (kdW F n (tP F n (i + 2)))) (84 + 3 * s.1 47 3 + 1) x := by rw [iw_at, iw_at, v5.1 71 (by decide), x71]
  have yne : ∀ a : Nat, a ≠ 71 → (iw (iw t6 71 (84 + 3 * s.1 47 3) (kdW F n (tP F n (i + 2)))) 71 (84 + 3 * s.1 47 3 + 1) x).1 a = t6.1 a := fun a q => by rw [iw_ne q, iw_ne q]
  have yl : (iw (iw t6 71 (84 + 3 * s.1 47 3) (kdW F n (tP F n (i + 2)))) 71 (84 + 3 * s.1 47 3 + 1) x).2 = t6.2 := rfl
  have fr6 : frZ t (iw (iw t6 71 (84 + 3 * s.1 47 3) (kdW F n (tP F n (i + 2)))) 71 (84 + 3 * s.1 47 3 + 1) x) := xfr.tr (v5.Z.tr ((frZ.w1 (by omega)).tr (frZ.w1 (by omega))))
  generalize iw (iw t6 71 (84 + 3 * s.1 47 3) (kdW F n (tP F n (i + 2)))) 71 (84 + 3 * s.1 47 3 + 1) x = t7 at hm6 y71 yne yl fr6
  have i5 := (mAt_i hT hm6).1
  have rg5 := tP_rg (F := F) hT.1.1 (i + 5)
  have rg6 := tP_rg (F := F) hT.1.1 (i + 5 + 1)
  obtain ⟨ma1, ma2, ma3⟩ := m_takeAfter (N := N) (x := 4) (ww := 4) (lo := 0) (hi := 99) hT hm6 (by decide) rfl
  -- the row's end, once something is wrong
  have fin : ∀ (t8 : gI) (z : Int), mBad z t8 → t8.1 71 = t7.1 71 → (i_o2 (some ((0 : Int), t8)) fun i6 s5 => ick (84 + 3 * s.1 47 3 + (2 : Int)) 140 <| (fun s7 : gI => ick (71 : Int) 140 <| iov ((s7.1 71 (71 : Int)) + (1 : Int)) <| ick (71 : Int) 140 <| some (iw s7 71 (71 : Int) ((s7.1 71 (71 : Int)) + (1 : Int)))) (iw s5 71 (84 + 3 * s.1 47 3 + (2 : Int)) i6)) = some (iw (iw t8 71 (84 + 3 * s.1 47 3 + 2) 0) 71 71 (s.1 47 3 + 1)) := fun t8 z hb h71 => by
    rw [i_o2_some, ick_ok (by omega) (by omega)]
    try dsimp only
    rw [iw_at, zup_ne (by omega), h71, y71, zup_ne (by omega), zup_ne (by omega), p1, ick_ok (by decide) (by decide), iov_ok (by omega) (by omega), ick_ok (by decide) (by decide)]
  rcases c_takeAfter (lo := 0) (hi := 99) hN hT hc5 wd_56 with ⟨q1, cE⟩ | ⟨q1, q2, G6, g7, cE⟩ | ⟨q1, q2, G6, g3, g6, cE⟩
  · have hb := mBad_of (z := 1) hT hm6 (by decide)
    rw [cE, ma1 q1]
    refine ⟨_, _, _, rfl, fin _ _ hb (iw_ne (by decide)), ?_⟩
    rw [ic_ic]
    exact flt (i + 5) 1 _ _ _ (by decide) (zup_same _ _ _) (fr6.tr (frZ.wr (Or.inr (Or.inl rfl)))) ((frZ.w1 (by omega)).tr (frZ.w1 (by decide))) hb.w1.w1
  · obtain ⟨e4, hm7⟩ := ma3 q1 q2
    have np := nWhy_pos (F := F) (n := n) (st := tP F n (i + 5 + 1))
    have hb := mBad_of (z := nWhy F n (tP F n (i + 5 + 1))) hT hm7 np
    rw [cE, e4]
    refine ⟨_, _, _, rfl, fin _ _ hb (by rw [iw_ne (by decide), iw_ne (by decide)]), ?_⟩
    rw [ic_ic]
    exact flt (i + 5 + 1) _ _ _ _ np g7 ((fr6.tr (frZ.wr (Or.inl rfl))).tr (frZ.wr (Or.inr (Or.inl rfl)))) ((frZ.w1 (by omega)).tr (frZ.w1 (by decide))) hb.w1.w1
  · obtain ⟨e4, hm7⟩ := ma2 q1 q2
    have n99 := q2.2
    rw [cE, e4, i_o2_some, ick_ok (by omega) (by omega), ick_ok (by omega) (by omega), ick_ok (by omega) (by omega), ick_ok (by omega) (by omega)]
    try dsimp only
    rw [ick_ok (by omega) (by omega)]
    have f71 : (iw t7 63 7 (((i + 5 : Nat) : Int) + 2)).1 71 = t7.1 71 := iw_ne (by decide)
    rw [iw_at, zup_ne (by omega), f71, y71, zup_ne (by omega), zup_ne (by omega), p1, ick_ok (by decide) (by decide), iov_ok (show -2147483648 ≤ s.1 47 3 + 1 by omega) (by omega), ick_ok (by decide) (by decide)]
    rw [ic_ic]
    have e16 : (iw (iw (iwl (ic s 1 G6) 53 (s.1 47 3) (pkW F n (tP F n (i + 1)))) 50 (s.1 47 3) (kdW F n (tP F n (i + 2)))) 51 (s.1 47 3) x).1 1 6 = tV F n (tP F n (i + 5 + 1)) := by rw [iw_ne (by decide), iw_ne (by decide), iwl_1, ic_at, g6]
    have e473 : (iw (iw (iw (iwl (ic s 1 G6) 53 (s.1 47 3) (pkW F n (tP F n (i + 1)))) 50 (s.1 47 3) (kdW F n (tP F n (i + 2)))) 51 (s.1 47 3) x) 52 (s.1 47 3) (tV F n (tP F n (i + 5 + 1)))).1 47 3 = s.1 47 3 := by rw [iw_ne (by decide), iw_ne (by decide), iw_ne (by decide), iwl_1, ic_ne (by decide)]
    rw [e16, e473, iov_ok (by omega) (by omega), ib1_ok (Or.inr rfl)]
    generalize hs2 : iw (iw (iw (iw (iwl (ic s 1 G6) 53 (s.1 47 3) (pkW F n (tP F n (i + 1)))) 50 (s.1 47 3) (kdW F n (tP F n (i + 2)))) 51 (s.1 47 3) x) 52 (s.1 47 3) (tV F n (tP F n (i + 5 + 1)))) 47 3 (s.1 47 3 + 1) = s2
    generalize ht2 : iw (iw (iw t7 63 7 (((i + 5 : Nat) : Int) + 2)) 71 (84 + 3 * s.1 47 3 + 2) (tV F n (tP F n (i + 5 + 1)))) 71 71 (s.1 47 3 + 1) = t2
    have s47 : s2.1 47 = zup (s.1 47) 3 (s.1 47 3 + 1) := by rw [← hs2, iw_at, iw_ne (by decide), iw_ne (by decide), iw_ne (by decide), iwl_1, ic_ne (by decide)]
    have s50 : s2.1 50 = zup (s.1 50) (s.1 47 3) (kdW F n (tP F n (i + 2))) := by rw [← hs2, iw_ne (by decide), iw_ne (by decide), iw_ne (by decide), iw_at, iwl_1, ic_ne (by decide)]
    have s51 : s2.1 51 = zup (s.1 51) (s.1 47 3) x := by rw [← hs2, iw_ne (by decide), iw_ne (by decide), iw_at, iw_ne (by decide), iwl_1, ic_ne (by decide)]
    have s52 : s2.1 52 = zup (s.1 52) (s.1 47 3) (tV F n (tP F n (i + 5 + 1))) := by rw [← hs2, iw_ne (by decide), iw_at, iw_ne (by decide), iw_ne (by decide), iwl_1, ic_ne (by decide)]
    have sne : ∀ a : Nat, a ≠ 1 → a ≠ 47 → a ≠ 50 → a ≠ 51 → a ≠ 52 → s2.1 a = s.1 a := fun a b1 b2 b3 b4 b5 => by rw [← hs2, iw_ne b2, iw_ne b5, iw_ne b4, iw_ne b3, iwl_1, ic_ne b1]
    have s1 : s2.1 1 = G6 := by rw [← hs2, iw_ne (by decide), iw_ne (by decide), iw_ne (by decide), iw_ne (by decide), iwl_1, ic_at]
    have l53 : s2.2 53 = zup (s.2 53) (s.1 47 3) (pkW F n (tP F n (i + 1))) := by rw [← hs2, iw_2, iw_2, iw_2, iw_2, iwl_at, ic_l]
    have l49 : s2.2 49 = s.2 49 := by rw [← hs2, iw_2, iw_2, iw_2, iw_2, iwl_ne (by decide), ic_l]
    have fY : frY s s2 := by rw [← hs2]; exact ((frY.ce (Or.inl rfl)).tr (frY.wl (Or.inr rfl))).tr (((frY.wr (by omega)).tr (frY.wr (by omega))).tr ((frY.wr (by omega)).tr (frY.wr (by omega))))
    have fZ : frZ t t2 := by rw [← ht2]; exact (fr6.tr (frZ.wr (Or.inl rfl))).tr ((frZ.w1 (by omega)).tr (frZ.w1 (by decide)))
    have z71 : t2.1 71 = zup (zup (zup (zup (t.1 71) (84 + 3 * s.1 47 3) (kdW F n (tP F n (i + 2)))) (84 + 3 * s.1 47 3 + 1) x) (84 + 3 * s.1 47 3 + 2) (tV F n (tP F n (i + 5 + 1)))) 71 (s.1 47 3 + 1) := by rw [← ht2, iw_at, iw_at, f71, y71]
    have zne : ∀ a : Nat, a ≠ 71 → a ≠ 63 → t2.1 a = t3.1 a := fun a b1 b2 => by rw [← ht2, iw_ne b1, iw_ne b1, iw_ne b2, yne a b1, v5.1 a b2]
    have z74 : t2.2 74 = zup (t.2 74) (t.1 63 18) (tV F n (tP F n (i + 1))) := by rw [← ht2, iw_2, iw_2, iw_2, yl, v5.2.1, x74]
    have z63 : ∀ z : Int, z ≠ 7 → t2.1 63 z = t3.1 63 z := fun z b1 => by rw [← ht2, iw_ne (by decide), iw_ne (by decide), iw_at, zup_ne b1, yne 63 (by decide), v5.2.2 z b1]
    have hm8 : mAt F n (i + 7) t2 := by
      rw [← ht2]
      exact hm7.of (by rw [iw_ne (by decide), iw_ne (by decide)]) (by rw [iw_ne (by decide), iw_ne (by decide)]) rfl rfl (by rw [iw_ne (by decide), iw_ne (by decide)]) (by rw [iw_ne (by decide), iw_ne (by decide)])
    have sp2 : spY s2 := by
      unfold spY
      rw [s50, s52, sne 48 (by decide) (by decide) (by decide) (by decide) (by decide)]
      refine ⟨hsp.1, fun a a0 a1 => ?_⟩
      by_cases q : a = s.1 47 3
      · rw [q, zup_same, zup_same]; exact ⟨⟨by omega, by omega⟩, n99⟩
      · rw [zup_ne q, zup_ne q]; exact hsp.2 a a0 a1
    refine ⟨1, s2, t2, rfl, rfl, fY, fZ, sp2, Or.inl ⟨rfl, i + 7, by omega, ⟨by rw [sne 2 (by decide) (by decide) (by decide) (by decide) (by decide)]; exact hc.1, by rw [s1]; exact g3⟩, hm8, ?_, by rw [z63 15 (by decide), x63 15 (by decide) (by decide)]; omega, sp2⟩⟩
    unfold YR
    rw [s47, s50, s51, s52, l49, l53, z71, zne 72 (by decide) (by decide), x72, zne 73 (by decide) (by decide), x73, zne 75 (by decide) (by decide), x75, z74, z63 18 (by decide), x18, z63 15 (by decide), x63 15 (by decide) (by decide), z63 19 (by decide), x63 19 (by decide) (by decide)]
    rw [sne 48 (by decide) (by decide) (by decide) (by decide) (by decide), sne 54 (by decide) (by decide) (by decide) (by decide) (by decide), sne 55 (by decide) (by decide) (by decide) (by decide) (by decide), sne 56 (by decide) (by decide) (by decide) (by decide) (by decide), sne 57 (by decide) (by decide) (by decide) (by decide) (by decide), sne 58 (by decide) (by decide) (by decide) (by decide) (by decide), sne 60 (by decide) (by decide) (by decide) (by decide) (by decide), sne 61 (by decide) (by decide) (by decide) (by decide) (by decide), sne 3 (by decide) (by decide) (by decide) (by decide) (by decide)]
    have far : ∀ j : Int, j ≠ 71 → (j < 84 + 3 * s.1 47 3 ∨ 84 + 3 * s.1 47 3 + 2 < j) → zup (zup (zup (zup (t.1 71) (84 + 3 * s.1 47 3) (kdW F n (tP F n (i + 2)))) (84 + 3 * s.1 47 3 + 1) x) (84 + 3 * s.1 47 3 + 2) (tV F n (tP F n (i + 5 + 1)))) 71 (s.1 47 3 + 1) j = t.1 71 j := fun j q1 q2 => by rw [zup_ne q1, zup_ne (by omega), zup_ne (by omega), zup_ne (by omega)]
    refine ⟨yP_cg hYP (zup_ne (by decide)) (fun j hj => far j (by omega) (by omega)), ⟨?_, ?_, fun a a0 a1 => ?_, fun a a0 a1 => ?_⟩, yS_cg hYS (zup_ne (by decide)) (fun j hj => far j (by omega) (by omega)), yL_cg hYL (zup_ne (by decide)) (zup_ne (by decide)) (zup_ne (by decide)) (zup_ne (by decide)) (zup_ne (by decide)) (fun j j0 j1 => far j (by omega) (by omega)), yW_cg hW0 (far _ (by decide) (by omega)) (Int.le_refl _), yW_cg hW1 (far _ (by decide) (by omega)) (Int.le_refl _), yN_thing hYN hp4.1 p2.1 (PV_tok k2) fr, hTl⟩
    · rw [zup_same, zup_same]
    · rw [zup_same]; omega
    · rw [zup_same] at a1
      rw [zup_ne (show (0 : Int) ≠ 3 by decide)]
      by_cases q : a = s.1 47 3
      · rw [q]
        rw [zup_same, zup_same, zup_same]
        refine ⟨?_, ?_, by omega, ?_⟩
        · rw [zup_ne (by omega), zup_ne (by omega), zup_ne (by omega), zup_same]
        · rw [zup_ne (by omega), zup_ne (by omega), zup_same]
        · rw [zup_ne (by omega), zup_same]
      · rw [far _ (by omega) (by omega), far _ (by omega) (by omega), far _ (by omega) (by omega), zup_ne q, zup_ne q, zup_ne q]
        exact p3 a a0 (by omega)
    · by_cases q : a = s.1 47 3
      · rw [q, zup_ne (by omega), zup_same]
        exact n99
      · rw [far _ (by omega) (by omega)]
        exact p4 a a0 a1
end YARDS

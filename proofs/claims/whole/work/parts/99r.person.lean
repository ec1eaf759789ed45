/-! A YARD read: what a line changes; a new NAME; the line person. -/
section YARDR
variable {N : Nat} {s t u v v1 : gI} {F G G0 A B C T H H2 P V O K W m m2 X U l g : Int → Int} {n e st lo hi c zn br w k d cc cc2 p q y x z : Int} {r i i2 lc a b ww : Nat}
theorem yP_cg (h : yP H A m) (h0 : H2 0 = H 0) (hm : ∀ j, j = 70 ∨ (80 ≤ j ∧ j < 84) → m2 j = m j) : yP H2 A m2 := by
  obtain ⟨a1, a2, a3⟩ := h
  refine ⟨by rw [hm 70 (by omega), h0]; exact a1, by rw [h0]; exact a2, fun p p0 p1 => ?_⟩
  rw [h0] at p1
  rw [hm (80 + p) (by omega)]
  exact a3 p p0 p1
theorem yT_cg (h : yT H K O W m) (h3 : H2 3 = H 3) (h0 : H 0 ≤ H2 0) (hm : ∀ j, j = 71 ∨ (84 ≤ j ∧ j < 108) → m2 j = m j) : yT H2 K O W m2 := by
  obtain ⟨a1, a2, a3, a4⟩ := h
  refine ⟨by rw [hm 71 (by omega), h3]; exact a1, by rw [h3]; exact a2, fun j j0 j1 => ?_, fun j j0 j1 => ?_⟩
  · rw [h3] at j1
    obtain ⟨b1, b2, b3, b4⟩ := a3 j j0 j1
    rw [hm (84 + 3 * j) (by omega), hm (84 + 3 * j + 1) (by omega), hm (84 + 3 * j + 2) (by omega)]
    exact ⟨b1, b2, by omega, b4⟩
  · rw [hm (84 + 3 * j + 2) (by omega)]
    exact a4 j j0 j1
theorem yS_cg (h : yS H A U X m) (h8 : H2 8 = H 8) (hm : ∀ j, j = 72 ∨ (108 ≤ j ∧ j < 132) → m2 j = m j) : yS H2 A U X m2 := by
  obtain ⟨a1, a2, a3⟩ := h
  refine ⟨by rw [hm 72 (by omega), h8]; exact a1, by rw [h8]; exact a2, fun j j0 j1 => ?_⟩
  rw [h8] at j1
  rw [hm (108 + 4 * j) (by omega), hm (108 + 4 * j + 1) (by omega), hm (108 + 4 * j + 2) (by omega), hm (108 + 4 * j + 3) (by omega)]
  exact a3 j j0 j1
theorem yL_cg (h : yL H m) (h12 : H2 12 = H 12) (h13 : H2 13 = H 13) (h14 : H2 14 = H 14) (h15 : H2 15 = H 15) (h16 : H2 16 = H 16) (hm : ∀ j, 73 ≤ j → j ≤ 77 → m2 j = m j) : yL H2 m2 := by
  unfold yL
  rw [h12, h13, h14, h15, h16, hm 73 (by omega) (by omega), hm 74 (by omega) (by omega), hm 75 (by omega) (by omega), hm 76 (by omega) (by omega), hm 77 (by omega) (by omega)]
  exact h
theorem yW_cg (h : yW w l C m O g cc) (hm : m2 (78 + w) = m (78 + w)) (hc : cc ≤ cc2) : yW w l C m2 O g cc2 := by
  unfold yW at h ⊢
  rw [hm]
  rcases h with h | ⟨a1, a2, a3, a4, a5⟩
  · exact Or.inl h
  · exact Or.inr ⟨a1, a2, a3, by omega, a5⟩
theorem yN_cg (h : yN H P T k V O) (h0 : H2 0 = H 0) (h3 : H2 3 = H 3) : yN H2 P T k V O := by
  unfold yN
  rw [h0, h3]
  exact h
theorem yN_person (hy : yN H P T k V O) (h0 : 0 ≤ H 0) (h3 : 0 ≤ H 3) (pv : PV p z) (fr : ∀ q, 0 ≤ q → q < k → V q ≠ z) : yN (zup H 0 (H 0 + 1)) (zup P (H 0) p) T (k + 1) (zup V k z) (zup O k (H 0)) := by
  obtain ⟨y1, y2, y3, y4, y5⟩ := hy
  unfold yN
  rw [zup_same, zup_ne (show (3 : Int) ≠ 0 by decide)]
  refine ⟨by omega, fun a a0 a1 => ?_, fun j j0 j1 => ?_, fun q q0 q1 => ?_, fun q r q0 qr r1 => ?_⟩
  · by_cases g : a = H 0
    · subst g
      refine ⟨k, by omega, by omega, zup_same _ _ _, ?_⟩
      rw [zup_same, zup_same]
      exact pv
    · obtain ⟨q, q0, q1, q2, q3⟩ := y2 a a0 (by omega)
      refine ⟨q, q0, by omega, by rw [zup_ne (by omega)]; exact q2, ?_⟩
      rw [zup_ne g, zup_ne (by omega)]
      exact q3
  · obtain ⟨q, q0, q1, q2, q3⟩ := y3 j j0 j1
    refine ⟨q, q0, by omega, by rw [zup_ne (by omega)]; exact q2, ?_⟩
    rw [zup_ne (by omega)]
    exact q3
  · by_cases g : q = k
    · subst g
      refine Or.inl ⟨H 0, h0, by omega, zup_same _ _ _, ?_⟩
      rw [zup_same, zup_same]
      exact pv
    · rw [zup_ne g, zup_ne g]
      rcases y4 q q0 (by omega) with ⟨a, a0, a1, a2, a3⟩ | h
      · refine Or.inl ⟨a, a0, by omega, a2, ?_⟩
        rw [zup_ne (by omega)]
        exact a3
      · exact Or.inr h
  · by_cases g : r = k
    · subst g
      rw [zup_same, zup_ne (by omega)]
      exact fr q q0 qr
    · rw [zup_ne g, zup_ne (by omega)]
      exact y5 q r q0 qr (by omega)
theorem yN_thing (hy : yN H P T k V O) (h0 : 0 ≤ H 0) (h3 : 0 ≤ H 3) (pv : PV p z) (fr : ∀ q, 0 ≤ q → q < k → V q ≠ z) : yN (zup H 3 (H 3 + 1)) P (zup T (H 3) p) (k + 1) (zup V k z) (zup O k 100) := by
  obtain ⟨y1, y2, y3, y4, y5⟩ := hy
  unfold yN
  rw [zup_same, zup_ne (show (0 : Int) ≠ 3 by decide)]
  refine ⟨by omega, fun a a0 a1 => ?_, fun j j0 j1 => ?_, fun q q0 q1 => ?_, fun q r q0 qr r1 => ?_⟩
  · obtain ⟨q, q0, q1, q2, q3⟩ := y2 a a0 a1
    refine ⟨q, q0, by omega, by rw [zup_ne (by omega)]; exact q2, ?_⟩
    rw [zup_ne (by omega)]
    exact q3
  · by_cases g : j = H 3
    · subst g
      refine ⟨k, by omega, by omega, zup_same _ _ _, ?_⟩
      rw [zup_same, zup_same]
      exact pv
    · obtain ⟨q, q0, q1, q2, q3⟩ := y3 j j0 (by omega)
      refine ⟨q, q0, by omega, by rw [zup_ne (by omega)]; exact q2, ?_⟩
      rw [zup_ne g, zup_ne (by omega)]
      exact q3
  · by_cases g : q = k
    · subst g
      refine Or.inr ⟨H 3, h3, by omega, zup_same _ _ _, ?_⟩
      rw [zup_same, zup_same]
      exact pv
    · rw [zup_ne g, zup_ne g]
      rcases y4 q q0 (by omega) with h | ⟨a, a0, a1, a2, a3⟩
      · exact Or.inl h
      · refine Or.inr ⟨a, a0, by omega, a2, ?_⟩
        rw [zup_ne (by omega)]
        exact a3
  · by_cases g : r = k
    · subst g
      rw [zup_same, zup_ne (by omega)]
      exact fr q q0 qr
    · rw [zup_ne g, zup_ne (by omega)]
      exact y5 q r q0 qr (by omega)
/-- the reference behind a new NAME -/
def tNm (F : Int → Int) (n : Int) (i : Nat) (x : Int) (t : gI) : gI := iw (iw (iw (iwl (iw t 63 7 ((i : Int) + 1)) 74 (t.1 63 18) (tV F n (tP F n (i + 1)))) 75 (t.1 63 18) x) 63 18 (t.1 63 18 + 1)) 63 7 ((i : Int) + 2)
theorem tNm_71 : (tNm F n i x t).1 71 = t.1 71 := by
  unfold tNm
  rw [iw_ne (by decide), iw_ne (by decide), iw_ne (by decide), iwl_1, iw_ne (by decide)]
theorem tNm_72 : (tNm F n i x t).1 72 = t.1 72 := by
  unfold tNm
  rw [iw_ne (by decide), iw_ne (by decide), iw_ne (by decide), iwl_1, iw_ne (by decide)]
theorem tNm_73 : (tNm F n i x t).1 73 = t.1 73 := by
  unfold tNm
  rw [iw_ne (by decide), iw_ne (by decide), iw_ne (by decide), iwl_1, iw_ne (by decide)]
theorem tNm_75 : (tNm F n i x t).1 75 = zup (t.1 75) (t.1 63 18) x := by
  unfold tNm
  rw [iw_ne (by decide), iw_ne (by decide), iw_at, iwl_1, iw_ne (by decide)]
theorem tNm_74 : (tNm F n i x t).2 74 = zup (t.2 74) (t.1 63 18) (tV F n (tP F n (i + 1))) := by
  unfold tNm
  rw [iw_2, iw_2, iw_2, iwl_at, iw_2]
theorem tNm_18 : (tNm F n i x t).1 63 18 = t.1 63 18 + 1 := by
  unfold tNm
  rw [iw_at, zup_ne (by decide), iw_at, zup_same]
theorem tNm_63 (h7 : z ≠ 7) (h18 : z ≠ 18) : (tNm F n i x t).1 63 z = t.1 63 z := by
  unfold tNm
  rw [iw_at, zup_ne h7, iw_at, zup_ne h18, iw_ne (by decide), iwl_1, iw_at, zup_ne h7]
theorem tNm_fr : frZ t (tNm F n i x t) := (((frZ.wr (Or.inl rfl)).tr frZ.wl).tr frZ.w5).tr ((frZ.wr (Or.inr (Or.inr (Or.inr (Or.inl rfl))))).tr (frZ.wr (Or.inl rfl)))
theorem tNm_at (hT : tpF F n) (hm : mAt F n (i + 1) (iw t 63 7 ((i : Int) + 1))) (k : tK F n (tP F n (i + 1)) ≠ 0) : mAt F n (i + 2) (tNm F n i x t) := by
  have h : mAt F n (i + 1) (iw (iw (iwl (iw t 63 7 ((i : Int) + 1)) 74 (t.1 63 18) (tV F n (tP F n (i + 1)))) 75 (t.1 63 18) x) 63 18 (t.1 63 18 + 1)) := hm.of (by rw [iw_ne (by decide), iw_ne (by decide), iwl_1]) (by rw [iw_ne (by decide), iw_ne (by decide), iwl_1]) (by rw [iw_2, iw_2, iwl_ne (by decide)]) (by rw [iw_2, iw_2, iwl_ne (by decide)]) (by rw [iw_at, zup_ne (by decide), iw_ne (by decide), iwl_1]) (by rw [iw_at, zup_ne (by decide), iw_ne (by decide), iwl_1])
  have := mAt_up h k
  rw [show ((i + 1 : Nat) : Int) + 1 = (i : Int) + 2 by omega] at this
  exact this
/-- a new NAME on both sides -/
theorem y_newName (hN : 5000 ≤ N) (hT : tpF F n) (hL : LSt F n i s t) (hc : cAt F n (i + 1) (ic s 1 G0)) (hm : mAt F n (i + 1) (iw t 63 7 ((i : Int) + 1))) (h12 : t.1 63 18 < 12) (x : Int) :
    (∃ z, (z = 1 ∨ z = 3) ∧ f129 N (ic s 1 G0) = some (0, ic s 1 (zup G0 7 (z + 16 * tP F n (i + 1)))) ∧ f203 N x t = some (iw (iw t 63 7 ((i : Int) + 1)) 63 8 (z + 16 * tP F n (i + 1)))) ∨
    (tK F n (tP F n (i + 1)) = 2 ∧ (∀ q, 0 ≤ q → q < t.1 63 18 → t.2 74 q ≠ tV F n (tP F n (i + 1))) ∧ ∃ G2, f129 N (ic s 1 G0) = some (1, ic s 1 G2) ∧ atC F n (tP F n (i + 2)) G2 ∧ f203 N x t = some (tNm F n i x t)) := by
  obtain ⟨hc0, hm0, hY, hcd, hsp⟩ := hL
  obtain ⟨⟨p1, p2, p3⟩, ⟨t1, t2, t3⟩, -, -, -, -, hYN, -⟩ := id hY
  have i1 := (mAt_i hT hm).1
  have i0 := hm0.2.1
  have h18 := hYN.1
  have rg := tP_rg (F := F) hT.1.1 (i + 1)
  unfold f129 f203
  rw [i0, iov_ok (by omega) (by omega)]
  try dsimp only
  obtain ⟨mn1, mn2⟩ := m_nmD (N := N) hN hT hm
  have bad : ∀ z : Int, 0 < z → f203_at37 N x (iw (iw t 63 7 ((i : Int) + 1)) 63 8 (z + 16 * tP F n (i + 1))) = some (iw (iw t 63 7 ((i : Int) + 1)) 63 8 (z + 16 * tP F n (i + 1))) := fun z z0 => by
    unfold f203_at37
    rw [iw_at, zup_same, if_neg (by omega)]
  rcases c_nmD hN hT hc with ⟨h, e1⟩ | ⟨h, e1⟩
  rotate_left
  · refine Or.inl ⟨1, Or.inl rfl, ?_, ?_⟩
    · rw [e1, i_o2_some, if_pos rfl, c_fail hT hc (by decide) (by decide), i_o2_some, ib1_ok (Or.inl rfl), ic_ic, ic_at]
    · rw [mn2 h, i_o2_some, if_pos rfl, m_wrong hT hm (by decide) (by decide), i_o1_some]
      exact bad 1 (by decide)
  have k2 := h.1
  have yN1 : yN ((ic s 1 G0).1 47) ((ic s 1 G0).2 49) ((ic s 1 G0).2 53) ((iw t 63 7 ((i : Int) + 1)).1 63 18) ((iw t 63 7 ((i : Int) + 1)).2 74) ((iw t 63 7 ((i : Int) + 1)).1 75) := by
    rw [ic_ne (by decide), iw_at, zup_ne (by decide), iw_ne (by decide)]
    exact hYN
  obtain ⟨xx, b, f, c1, c2, m1, m2⟩ := y_find (N := N) (s := ic s 1 G0) hN hT hm k2 (by rw [ic_ne (by decide)]; exact p2) (by rw [ic_ne (by decide)]; exact t2) yN1
  rw [e1, i_o2_some, if_neg (by decide), c_packed hN hT hc, i_o2_some, c2 _ rfl rfl, i_o2_some, mn1 h, i_o2_some, if_neg (show ¬ (1 : Int) = 0 by decide), m1, i_o2_some]
  have known : b = 1 → 0 ≤ f → (∃ z, (z = 1 ∨ z = 3) ∧ (if b = 0 then i_o1 (f97 N (ic s 1 G0)) fun s7 => ib1 (1 : Int) (some ((1 : Int), s7)) else i_o2 (f104 N (3 : Int) (ic s 1 G0)) fun i9 s8 => ib1 i9 (some (i9, s8))) = some (0, ic s 1 (zup G0 7 (z + 16 * tP F n (i + 1)))) ∧ (if f < 0 then f203_at37 N x (iw t 63 7 ((i : Int) + 1)) else i_o1 (f182 N (3 : Int) (iw t 63 7 ((i : Int) + 1))) fun s6 => f203_at37 N x s6) = some (iw (iw t 63 7 ((i : Int) + 1)) 63 8 (z + 16 * tP F n (i + 1)))) := fun b1 f0 => by
    refine ⟨3, Or.inr rfl, ?_, ?_⟩
    · rw [if_neg (by omega), c_fail hT hc (by decide) (by decide), i_o2_some, ib1_ok (Or.inl rfl), ic_ic, ic_at]
    · rw [if_neg (by omega), m_wrong hT hm (by decide) (by decide), i_o1_some]
      exact bad 3 (by decide)
  rcases m2 with ⟨f1, -, b0, fr⟩ | ⟨f1, f2, -, b1⟩ | ⟨f1, -, b1⟩
  · refine Or.inr ⟨k2, fun q q0 q1 => ?_, ?_⟩
    · have := fr q q0 (by rw [iw_at, zup_ne (by decide)]; exact q1)
      exact this
    · obtain ⟨G2, a1, a2, -⟩ := c_next1 hN hT hc
      refine ⟨G2, ?_, a2, ?_⟩
      · rw [if_pos b0, a1, i_o1_some, ib1_ok (Or.inr rfl), ic_ic]
      · have e7 : (iw t 63 7 ((i : Int) + 1)).1 63 7 = (i : Int) + 1 := by rw [iw_at, zup_same]
        have e8 : (iw t 63 7 ((i : Int) + 1)).1 63 8 = 0 := by rw [iw_at, zup_ne (by decide)]; exact hm0.2.2.1
        have e18 : (iw t 63 7 ((i : Int) + 1)).1 63 18 = t.1 63 18 := by rw [iw_at, zup_ne (by decide)]
        have ev : (iw t 63 7 ((i : Int) + 1)).2 67 ((i : Int) + 1) = tV F n (tP F n (i + 1)) := by
          have := (mAt_k hT hm).2.2 (by omega)
          rw [show ((i + 1 : Nat) : Int) = (i : Int) + 1 by omega] at this
          exact this
        rw [if_pos (by omega)]
        unfold f203_at37 tNm
        rw [e8, if_pos rfl, e7, ick_ok (by omega) (by omega), e18, ick_ok (by omega) (by omega), ev]
        try dsimp only
        rw [iwl_1, e18, ick_ok (by omega) (by omega), iw_ne (by decide), iwl_1, e18, iov_ok (by omega) (by omega), iw_at, zup_ne (by decide), iw_ne (by decide), iwl_1, e7, iov_ok (by omega) (by omega), show (i : Int) + 1 + 1 = (i : Int) + 2 by omega]
  · exact Or.inl (known b1 f1)
  · exact Or.inl (known b1 (by omega))
theorem LSt_tok (hL : LSt F n i s t) : s.1 1 1 = n ∧ s.1 2 = F := ⟨hL.1.2.1, hL.1.1⟩
/-- person .. -/
theorem y_person (hN : 5000 ≤ N) (hT : tpF F n) (hL : LSt F n i s t) (hw : tK F n (tP F n i) ≠ 0) : ∃ b s2 t2, f123 N s = some (b, s2) ∧ f204 N t = some t2 ∧ LO F n i s t b s2 t2 := by
  obtain ⟨hc, hm, hY, hcd, hsp⟩ := id hL
  obtain ⟨⟨p1, p2, p3⟩, hYT, hYS, hYL, hW0, hW1, hYN, hTl⟩ := id hY
  have i1 := (mAt_i hT hm).1
  have h12 := hYN.1
  have t8 := hYT.2.1
  unfold f123 f204
  try dsimp only
  rw [ick_ok (by decide) (by decide), p1]
  try dsimp only
  by_cases g4 : s.1 47 0 = 4
  · rw [if_neg (by omega), if_pos g4, c_fail hT hc (by decide) (by decide), i_o2_some, ib1_ok (Or.inl rfl), m_wrong hT hm (by decide) (by decide), i_o1_some]
    exact ⟨_, _, _, rfl, rfl, LO_bad hT hm hsp (by decide) (zup_same _ _ _) (frY.ce (Or.inl rfl))⟩
  rw [if_pos (by omega), if_neg g4]
  obtain ⟨G0, a1, a2, -⟩ := c_next1 hN hT hc
  have hc1 : cAt F n (i + 1) (ic s 1 G0) := ⟨by rw [ic_ne (by decide)]; exact hc.1, by rw [ic_at]; exact a2⟩
  have hm1 := mAt_up hm hw
  rw [a1, i_o1_some, c_packed hN hT hc1, i_o2_some]
  -- what the reference does of the rest, once something is wrong
  have tail : ∀ (t3 : gI) (z : Int), mBad z t3 → t3.1 71 = t.1 71 → (iov ((80 : Int) + s.1 47 0) <| i_o2 (f191 N (1 : Int) (0 : Int) (10 : Int) t3) fun i4 s3 => ick ((80 : Int) + s.1 47 0) 140 <| (fun s5 : gI => ick (70 : Int) 140 <| iov ((s5.1 71 (70 : Int)) + (1 : Int)) <| ick (70 : Int) 140 <| some (iw s5 71 (70 : Int) ((s5.1 71 (70 : Int)) + (1 : Int)))) (iw s3 71 ((80 : Int) + s.1 47 0) i4)) = some (iw (iw t3 71 ((80 : Int) + s.1 47 0) 0) 71 70 (s.1 47 0 + 1)) := fun t3 z hb h71 => by
    rw [iov_ok (by omega) (by omega), b_takeAfter hb, i_o2_some, ick_ok (by omega) (by omega)]
    try dsimp only
    rw [iw_at, zup_ne (by omega), h71, p1, ick_ok (by decide) (by decide), iov_ok (by omega) (by omega), ick_ok (by decide) (by decide)]
  rcases y_newName hN hT hL hc1 hm1 (by omega) (s.1 47 0) with ⟨z, hz, e1, e2⟩ | ⟨k2, fr, G2, e1, e3, e2⟩
  · have hb := mBad_of (z := z) hT hm1 (by omega)
    have rg := tP_rg (F := F) hT.1.1 (i + 1)
    rw [e1, i_o2_some, if_pos rfl, ib1_ok (Or.inl rfl), e2, i_o1_some]
    refine ⟨_, _, _, rfl, tail _ _ hb (by rw [iw_ne (by decide), iw_ne (by decide)]), frY.ce (Or.inl rfl), ((frZ.wr (Or.inl rfl)).tr (frZ.wr (Or.inr (Or.inl rfl)))).tr ((frZ.w1 (by omega)).tr (frZ.w1 (by omega))), spY_1 hsp, Or.inr ⟨rfl, ?_, Or.inl ?_⟩⟩
    · rw [ic_at, zup_same]; omega
    · rw [ic_at, zup_same]
      exact hb.w1.w1
  rw [e1, i_o2_some, if_neg (by decide), e2, i_o1_some]
  have hc2 : cAt F n (i + 2) (ic s 1 G2) := ⟨by rw [ic_ne (by decide)]; exact hc.1, by rw [ic_at]; exact e3⟩
  have hm2 : mAt F n (i + 2) (tNm F n i (s.1 47 0) t) := tNm_at hT hm1 (by omega)
  have i2 := (mAt_i hT hm2).1
  have rg2 := tP_rg (F := F) hT.1.1 (i + 2)
  have rg3 := tP_rg (F := F) hT.1.1 (i + 2 + 1)
  obtain ⟨ma1, ma2, ma3⟩ := m_takeAfter (N := N) (x := 1) (ww := 1) (lo := 0) (hi := 10) hT hm2 (by decide) rfl
  rcases c_takeAfter (lo := 0) (hi := 10) hN hT hc2 wd_52 with ⟨q1, cE⟩ | ⟨q1, q2, G3, g7, cE⟩ | ⟨q1, q2, G3, g3, g6, cE⟩
  · have hb := mBad_of (z := 1) hT hm2 (by decide)
    have e4 := ma1 q1
    rw [cE]
    rw [iov_ok (by omega) (by omega), e4, i_o2_some, ick_ok (by omega) (by omega)]
    try dsimp only
    rw [iw_at, zup_ne (by omega), iw_ne (show (71 : Nat) ≠ 63 by decide), tNm_71, p1, ick_ok (by decide) (by decide), iov_ok (by omega) (by omega), ick_ok (by decide) (by decide)]
    refine ⟨_, _, _, rfl, rfl, by rw [ic_ic]; exact frY.ce (Or.inl rfl), (tNm_fr.tr (frZ.wr (Or.inr (Or.inl rfl)))).tr ((frZ.w1 (by omega)).tr (frZ.w1 (by omega))), by rw [ic_ic]; exact spY_1 hsp, Or.inr ⟨rfl, ?_, Or.inl ?_⟩⟩
    · rw [ic_at, zup_same]; omega
    · rw [ic_at, zup_same]
      exact hb.w1.w1
  · obtain ⟨e4, hm3⟩ := ma3 q1 q2
    have np := nWhy_pos (F := F) (n := n) (st := tP F n (i + 2 + 1))
    have hb := mBad_of (z := nWhy F n (tP F n (i + 2 + 1))) hT hm3 np
    rw [cE]
    rw [iov_ok (by omega) (by omega), e4, i_o2_some, ick_ok (by omega) (by omega)]
    try dsimp only
    rw [iw_at, zup_ne (by omega), iw_ne (show (71 : Nat) ≠ 63 by decide), iw_ne (show (71 : Nat) ≠ 63 by decide), tNm_71, p1, ick_ok (by decide) (by decide), iov_ok (by omega) (by omega), ick_ok (by decide) (by decide)]
    refine ⟨_, _, _, rfl, rfl, by rw [ic_ic]; exact frY.ce (Or.inl rfl), ((tNm_fr.tr (frZ.wr (Or.inl rfl))).tr (frZ.wr (Or.inr (Or.inl rfl)))).tr ((frZ.w1 (by omega)).tr (frZ.w1 (by omega))), by rw [ic_ic]; exact spY_1 hsp, Or.inr ⟨rfl, ?_, Or.inl ?_⟩⟩
    · rw [ic_at, g7]; omega
    · rw [ic_at, g7]
      exact hb.w1.w1
  · obtain ⟨e4, hm3⟩ := ma2 q1 q2
    rw [cE]
    rw [iov_ok (show -2147483648 ≤ (80 : Int) + s.1 47 0 by omega) (by omega), e4, i_o2_some, ick_ok (by omega) (by omega), ick_ok (by omega) (by omega), ick_ok (by omega) (by omega)]
    try dsimp only
    have n10 := q2.2
    have e71 : (iw (tNm F n i (s.1 47 0) t) 63 7 (((i + 2 : Nat) : Int) + 2)).1 71 = t.1 71 := by rw [iw_ne (by decide), tNm_71]
    rw [iw_at, zup_ne (by omega), e71, p1, ick_ok (by decide) (by decide), iov_ok (show -2147483648 ≤ s.1 47 0 + 1 by omega) (by omega), ick_ok (by decide) (by decide)]
    rw [ic_ic, iwl_1, ic_at, g6, iw_ne (by decide), iwl_1, ic_ne (by decide), iov_ok (by omega) (by omega), ib1_ok (Or.inr rfl)]
    generalize hs2 : iw (iw (iwl (ic s 1 G3) 49 (s.1 47 0) (pkW F n (tP F n (i + 1)))) 48 (s.1 47 0) (tV F n (tP F n (i + 2 + 1)))) 47 0 (s.1 47 0 + 1) = s2
    generalize ht2 : iw (iw (iw (tNm F n i (s.1 47 0) t) 63 7 (((i + 2 : Nat) : Int) + 2)) 71 (80 + s.1 47 0) (tV F n (tP F n (i + 2 + 1)))) 71 70 (s.1 47 0 + 1) = t2
    have s47 : s2.1 47 = zup (s.1 47) 0 (s.1 47 0 + 1) := by rw [← hs2, iw_at, iw_ne (by decide), iwl_1, ic_ne (by decide)]
    have s48 : s2.1 48 = zup (s.1 48) (s.1 47 0) (tV F n (tP F n (i + 2 + 1))) := by rw [← hs2, iw_ne (by decide), iw_at, iwl_1, ic_ne (by decide)]
    have sne : ∀ a : Nat, a ≠ 1 → a ≠ 47 → a ≠ 48 → s2.1 a = s.1 a := fun a b1 b2 b3 => by rw [← hs2, iw_ne b2, iw_ne b3, iwl_1, ic_ne b1]
    have s1 : s2.1 1 = G3 := by rw [← hs2, iw_ne (by decide), iw_ne (by decide), iwl_1, ic_at]
    have l49 : s2.2 49 = zup (s.2 49) (s.1 47 0) (pkW F n (tP F n (i + 1))) := by rw [← hs2, iw_2, iw_2, iwl_at, ic_l]
    have l53 : s2.2 53 = s.2 53 := by rw [← hs2, iw_2, iw_2, iwl_ne (by decide), ic_l]
    have fY : frY s s2 := by rw [← hs2]; exact ((frY.ce (Or.inl rfl)).tr (frY.wl (Or.inl rfl))).tr ((frY.wr (by omega)).tr (frY.wr (by omega)))
    have fZ : frZ t t2 := by rw [← ht2]; exact (tNm_fr.tr (frZ.wr (Or.inl rfl))).tr ((frZ.w1 (by omega)).tr (frZ.w1 (by omega)))
    have u71 : t2.1 71 = zup (zup (t.1 71) (80 + s.1 47 0) (tV F n (tP F n (i + 2 + 1)))) 70 (s.1 47 0 + 1) := by rw [← ht2, iw_at, iw_at, e71]
    have u72 : t2.1 72 = t.1 72 := by rw [← ht2, iw_ne (by decide), iw_ne (by decide), iw_ne (by decide), tNm_72]
    have u73 : t2.1 73 = t.1 73 := by rw [← ht2, iw_ne (by decide), iw_ne (by decide), iw_ne (by decide), tNm_73]
    have u75 : t2.1 75 = zup (t.1 75) (t.1 63 18) (s.1 47 0) := by rw [← ht2, iw_ne (by decide), iw_ne (by decide), iw_ne (by decide), tNm_75]
    have u74 : t2.2 74 = zup (t.2 74) (t.1 63 18) (tV F n (tP F n (i + 1))) := by rw [← ht2, iw_2, iw_2, iw_2, tNm_74]
    have u18 : t2.1 63 18 = t.1 63 18 + 1 := by rw [← ht2, iw_ne (by decide), iw_ne (by decide), iw_at, zup_ne (by decide), tNm_18]
    have u63 : ∀ z : Int, z ≠ 7 → z ≠ 18 → t2.1 63 z = t.1 63 z := fun z b1 b2 => by rw [← ht2, iw_ne (by decide), iw_ne (by decide), iw_at, zup_ne b1, tNm_63 b1 b2]
    have hm4 : mAt F n (i + 4) t2 := by
      rw [← ht2]
      exact hm3.of (by rw [iw_ne (by decide), iw_ne (by decide)]) (by rw [iw_ne (by decide), iw_ne (by decide)]) rfl rfl (by rw [iw_ne (by decide), iw_ne (by decide)]) (by rw [iw_ne (by decide), iw_ne (by decide)])
    have sp2 : spY s2 := by
      unfold spY
      rw [s48, sne 50 (by decide) (by decide) (by decide), sne 52 (by decide) (by decide) (by decide)]
      refine ⟨fun a a0 a1 => ?_, hsp.2⟩
      by_cases q : a = s.1 47 0
      · rw [q, zup_same]; exact n10
      · rw [zup_ne q]; exact hsp.1 a a0 a1
    refine ⟨1, s2, t2, rfl, rfl, fY, fZ, sp2, Or.inl ⟨rfl, i + 4, by omega, ⟨by rw [sne 2 (by decide) (by decide) (by decide)]; exact hc.1, by rw [s1]; exact g3⟩, hm4, ?_, by rw [u63 15 (by decide) (by decide)]; omega, sp2⟩⟩
    unfold YR
    rw [s47, s48, l49, l53, u71, u72, u73, u75, u74, u18, u63 15 (by decide) (by decide), u63 19 (by decide) (by decide), sne 50 (by decide) (by decide) (by decide), sne 51 (by decide) (by decide) (by decide), sne 52 (by decide) (by decide) (by decide), sne 54 (by decide) (by decide) (by decide), sne 55 (by decide) (by decide) (by decide), sne 56 (by decide) (by decide) (by decide), sne 57 (by decide) (by decide) (by decide), sne 58 (by decide) (by decide) (by decide), sne 60 (by decide) (by decide) (by decide), sne 61 (by decide) (by decide) (by decide), sne 3 (by decide) (by decide) (by decide)]
    refine ⟨⟨?_, ?_, fun a a0 a1 => ?_⟩, yT_cg hYT (zup_ne (by decide)) (by rw [zup_same]; omega) (fun j hj => by rw [zup_ne (by omega), zup_ne (by omega)]), yS_cg hYS (zup_ne (by decide)) (fun j hj => by rw [zup_ne (by omega), zup_ne (by omega)]), yL_cg hYL (zup_ne (by decide)) (zup_ne (by decide)) (zup_ne (by decide)) (zup_ne (by decide)) (zup_ne (by decide)) (fun j j0 j1 => by rw [zup_ne (by omega), zup_ne (by omega)]), yW_cg hW0 (by rw [zup_ne (by omega), zup_ne (by omega)]) (Int.le_refl _), yW_cg hW1 (by rw [zup_ne (by omega), zup_ne (by omega)]) (Int.le_refl _), yN_person hYN p2.1 t8.1 (PV_tok k2) fr, hTl⟩
    · rw [zup_same, zup_same]
    · rw [zup_same]; omega
    · rw [zup_same] at a1
      rw [zup_ne (by omega)]
      by_cases q : a = s.1 47 0
      · rw [q, zup_same, zup_same]
      · rw [zup_ne (by omega), zup_ne q]
        exact p3 a a0 (by omega)
end YARDR

/-! A YARD read: the lines that stand once; the laws. -/
theorem once_bits : ∀ w : Fin 32, ∀ b : Fin 5, (i_and (w.val : Int) ((2 : Int) ^ b.val) = 0 ↔ ¬ i_and (i_shr (w.val : Int) (b.val : Int)) 1 = 1) ∧ i_or (w.val : Int) ((2 : Int) ^ b.val) = i_or (w.val : Int) (i_shl 1 (b.val : Int)) ∧ 0 ≤ i_or (w.val : Int) ((2 : Int) ^ b.val) ∧ i_or (w.val : Int) ((2 : Int) ^ b.val) ≤ 31 := by decide +kernel
section YARDU
variable {N : Nat} {s t u v v1 s1 t1 s2 t2 : gI} {F G G0 A B C T H H2 P V O O2 K W M m m2 X U l g g2 : Int → Int} {n e st lo hi c zn br w k d cc cc2 p q y x z : Int} {r i i2 lc a b ww : Nat} {L : List Int}
theorem LO.tr (f1 : frY s s1) (f2 : frZ t t1) (hi : i ≤ i2) (h : LO F n i2 s1 t1 z s2 t2) : LO F n i s t z s2 t2 := by
  obtain ⟨a1, a2, a3, a4⟩ := h
  refine ⟨f1.tr a1, f2.tr a2, a3, ?_⟩
  rcases a4 with ⟨b1, j, b2, b3⟩ | h
  · exact Or.inl ⟨b1, j, by omega, b3⟩
  · exact Or.inr h
theorem y_once (hN : 5000 ≤ N) (hT : tpF F n) (hL : LSt F n i s t) (hw : tK F n (tP F n i) ≠ 0) (hb : b < 5) (hx : x = (2 : Int) ^ b) (hy : y = (b : Int)) :
    (∃ s1 t1, f122 N x s = some (0, s1) ∧ f200 N y t = some (0, t1) ∧ LO F n i s t 0 s1 t1) ∨
    (∃ s1 t1, f122 N x s = some (1, s1) ∧ f200 N y t = some (1, t1) ∧ LSt F n (i + 1) s1 t1 ∧ frY s s1 ∧ frZ t t1 ∧ t1.1 63 15 = t.1 63 15) := by
  subst hx hy
  obtain ⟨hc, hm, hY, hcd, hsp⟩ := id hL
  obtain ⟨hYP, hYT, hYS, hYL, hW0, hW1, hYN, hTl⟩ := id hY
  have i1 := (mAt_i hT hm).1
  have ob := once_bits ⟨(s.1 3 2).toNat, by omega⟩ ⟨b, hb⟩
  have ew : (((s.1 3 2).toNat : Nat) : Int) = s.1 3 2 := by omega
  simp only [ew] at ob
  obtain ⟨o1, o2, o3, o4⟩ := ob
  have rg := tP_rg (F := F) hT.1.1 i
  unfold f122 f200
  rw [← hTl.1]
  by_cases g : i_and (s.1 3 2) ((2 : Int) ^ b) = 0
  · refine Or.inr ?_
    rw [if_pos g, if_neg (o1.mp g)]
    try dsimp only
    have hc1 : cAt F n i (iw s 3 2 (i_or (s.1 3 2) ((2 : Int) ^ b))) := ⟨by rw [iw_ne (by decide)]; exact hc.1, by rw [iw_ne (by decide)]; exact hc.2⟩
    obtain ⟨G0, a1, a2, -⟩ := c_next1 hN hT hc1
    rw [a1, i_o1_some, ib1_ok (Or.inr rfl)]
    unfold f200_at17 f200_at46
    try dsimp only
    have e8 : (iw t 63 19 (i_or (t.1 63 19) (i_shl 1 (b : Int)))).1 63 8 = 0 := by rw [iw_at, zup_ne (by decide)]; exact hm.2.2.1
    have e7 : (iw t 63 19 (i_or (t.1 63 19) (i_shl 1 (b : Int)))).1 63 7 = i := by rw [iw_at, zup_ne (by decide)]; exact hm.2.1
    rw [if_pos (by omega), e7, iov_ok (by omega) (by omega), iw_at (x := (i : Int) + 1), zup_ne (by decide), if_pos e8, ib1_ok (Or.inr rfl)]
    have hm1 : mAt F n i (iw t 63 19 (i_or (t.1 63 19) (i_shl 1 (b : Int)))) := hm.of (by rw [iw_ne (by decide)]) (by rw [iw_ne (by decide)]) rfl rfl (by rw [iw_at, zup_ne (by decide)]) (by rw [iw_at, zup_ne (by decide)])
    have hY1 : YR (iw s 3 2 (i_or (s.1 3 2) ((2 : Int) ^ b))) (iw t 63 19 (i_or (t.1 63 19) (i_shl 1 (b : Int)))) := by
      unfold YR
      rw [iw_ne (show (47 : Nat) ≠ 3 by decide), iw_ne (show (48 : Nat) ≠ 3 by decide), iw_ne (show (50 : Nat) ≠ 3 by decide), iw_ne (show (51 : Nat) ≠ 3 by decide), iw_ne (show (52 : Nat) ≠ 3 by decide), iw_ne (show (54 : Nat) ≠ 3 by decide), iw_ne (show (55 : Nat) ≠ 3 by decide), iw_ne (show (56 : Nat) ≠ 3 by decide), iw_ne (show (57 : Nat) ≠ 3 by decide), iw_ne (show (58 : Nat) ≠ 3 by decide), iw_ne (show (60 : Nat) ≠ 3 by decide), iw_ne (show (61 : Nat) ≠ 3 by decide)]
      rw [iw_ne (show (71 : Nat) ≠ 63 by decide), iw_ne (show (72 : Nat) ≠ 63 by decide), iw_ne (show (73 : Nat) ≠ 63 by decide), iw_ne (show (75 : Nat) ≠ 63 by decide), iw_2, iw_2, iw_at, iw_at, zup_ne (show (15 : Int) ≠ 19 by decide), zup_ne (show (18 : Int) ≠ 19 by decide), zup_same, zup_same, ← hTl.1, ← o2]
      exact ⟨hYP, hYT, hYS, hYL, hW0, hW1, hYN, rfl, o3, o4⟩
    have hL1 : LSt F n i (iw s 3 2 (i_or (s.1 3 2) ((2 : Int) ^ b))) (iw t 63 19 (i_or (t.1 63 19) (i_shl 1 (b : Int)))) := ⟨hc1, hm1, hY1, by rw [iw_at, zup_ne (by decide)]; exact hcd, spY_cg hsp (iw_ne (by decide)) (iw_ne (by decide)) (iw_ne (by decide))⟩
    have hm2 := mAt_up hm1 hw
    exact ⟨_, _, rfl, rfl, LSt_mv hL1 a2 (by omega) hm2, (frY.wr (Or.inr (Or.inl rfl))).tr (frY.ce (Or.inl rfl)), (frZ.wr (by omega)).tr (frZ.wr (Or.inl rfl)), by rw [iw_at, zup_ne (by decide), iw_at, zup_ne (by decide)]⟩
  · refine Or.inl ?_
    have g2 : i_and (i_shr (s.1 3 2) (b : Int)) 1 = 1 := Decidable.byContradiction fun h => g (o1.mpr h)
    rw [if_neg g, if_pos g2, c_fail hT hc (by decide) (by decide), i_o2_some, ib1_ok (Or.inl rfl), m_wrong hT hm (by decide) (by decide), i_o1_some]
    unfold f200_at17 f200_at46
    try dsimp only
    have hb := mBad_of (z := 3) hT hm (by decide)
    have hb1 : mBad (3 + 16 * tP F n i) (iw (iw t 63 8 (3 + 16 * tP F n i)) 63 19 (i_or ((iw t 63 8 (3 + 16 * tP F n i)).1 63 19) (i_shl 1 (b : Int)))) := hb.of (by rw [iw_at, zup_ne (by decide)]) (by rw [iw_at, zup_ne (by decide)])
    obtain ⟨x1, x2, x3, x4⟩ := id hb1
    rw [if_neg (by omega), iov_ok (by omega) (by omega), iw_at (i := 7), zup_ne (by decide), if_neg (by omega), ib1_ok (Or.inl rfl)]
    refine ⟨_, _, rfl, rfl, LO_flt (spY_1 hsp) x2 (by rw [ic_at, zup_same]) (frY.ce (Or.inl rfl)) (frZ.wr (by omega)) ((frZ.wr (by omega)).tr (frZ.wr (by omega))) (hb1.of ?_ ?_)⟩
    · rw [iw_at, zup_same]; omega
    · rw [iw_at, zup_ne (by decide)]
/-- net .. -/
theorem y_net (hN : 5000 ≤ N) (hT : tpF F n) (hL : LSt F n i s t) : ∃ b s2 t2, f126 N s = some (b, s2) ∧ (i_o2 (f190 N (0 : Int) (12 : Int) t) fun i33 s32 => ick (73 : Int) 140 <| some (iw s32 71 (73 : Int) i33)) = some t2 ∧ LO F n i s t b s2 t2 := by
  obtain ⟨hc, hm, hY, hcd, hsp⟩ := id hL
  obtain ⟨hYP, hYT, hYS, hYL, hW0, hW1, hYN, hTl⟩ := id hY
  have rg := tP_rg (F := F) hT.1.1 i
  unfold f126
  rw [m_takeNum hT hm]
  rcases c_takeNum (lo := 0) (hi := 12) hN hT hc with ⟨q1, G2, d1, d2, d3, -⟩ | ⟨q1, d1⟩
  rotate_left
  · have np := nWhy_pos (F := F) (n := n) (st := tP F n i)
    have hb := mBad_of hT hm np
    rw [d1, i_o2_some, if_pos rfl, ib1_ok (Or.inl rfl), if_neg q1, i_o2_some, ick_ok (by decide) (by decide)]
    exact ⟨_, _, _, rfl, rfl, LO_flt (spY_1 hsp) (by omega) (by rw [ic_at, zup_same]) (frY.ce (Or.inl rfl)) (frZ.wr (by omega)) (frZ.w1 (by decide)) hb.w1⟩
  have vr := q1.2
  have hm1 := mAt_up hm (by have := q1.1; omega)
  rw [d1, i_o2_some, if_neg (by decide), if_pos q1, i_o2_some, ick_ok (by decide) (by decide)]
  try dsimp only
  rw [ib1_ok (Or.inr rfl), ic_at, d3]
  generalize hV : tV F n (tP F n i) = V1 at vr
  have v1 := (sh7.wr (x := (i : Int) + 1) (sh7.rf (t := t))).me (x := 73) (y := V1)
  have hm2 : mAt F n (i + 1) (iw (iw t 63 7 ((i : Int) + 1)) 71 73 V1) := hm1.me
  generalize iw (iw t 63 7 ((i : Int) + 1)) 71 73 V1 = t2 at v1 hm2
  have lo : ∀ j, j ≠ 73 → zup (t.1 71) 73 V1 j = t.1 71 j := fun j h => zup_ne h
  have sp2 : spY (iw (ic s 1 G2) 47 12 V1) := spY_cg (spY_1 (G := G2) hsp) (iw_ne (by decide)) (iw_ne (by decide)) (iw_ne (by decide))
  refine ⟨1, _, _, rfl, rfl, (frY.ce (Or.inl rfl)).tr (frY.wr (by omega)), v1.Z (fun j hj => lo j (by omega)), sp2, Or.inl ⟨rfl, i + 1, by omega, ⟨by rw [iw_ne (by decide), ic_ne (by decide)]; exact hc.1, by rw [iw_ne (by decide), ic_at]; exact d2⟩, hm2, ?_, by rw [v1.2.2.1 15 (by decide) (by decide)]; omega, sp2⟩⟩
  have sne : ∀ a : Nat, a ≠ 1 → a ≠ 47 → (iw (ic s 1 G2) 47 12 V1).1 a = s.1 a := fun a b1 b2 => by rw [iw_ne b2, ic_ne b1]
  have s47 : (iw (ic s 1 G2) 47 12 V1).1 47 = zup (s.1 47) 12 V1 := by rw [iw_at, ic_ne (by decide)]
  have sl : (iw (ic s 1 G2) 47 12 V1).2 = s.2 := rfl
  generalize iw (ic s 1 G2) 47 12 V1 = s2 at sne s47 sl
  unfold YR
  rw [s47, sl, v1.2.2.2, v1.2.1, v1.1 72 (by decide) (by decide), v1.1 73 (by decide) (by decide), v1.1 75 (by decide) (by decide), v1.2.2.1 15 (by decide) (by decide), v1.2.2.1 18 (by decide) (by decide), v1.2.2.1 19 (by decide) (by decide)]
  rw [sne 48 (by decide) (by decide), sne 50 (by decide) (by decide), sne 51 (by decide) (by decide), sne 52 (by decide) (by decide), sne 54 (by decide) (by decide), sne 55 (by decide) (by decide), sne 56 (by decide) (by decide), sne 57 (by decide) (by decide), sne 58 (by decide) (by decide), sne 60 (by decide) (by decide), sne 61 (by decide) (by decide), sne 3 (by decide) (by decide)]
  obtain ⟨l1, l2, l3, l4, l5, l6, l7⟩ := hYL
  refine ⟨yP_cg hYP (zup_ne (by decide)) (fun j hj => lo j (by omega)), yT_cg hYT (zup_ne (by decide)) (by rw [zup_ne (by decide)]; exact Int.le_refl _) (fun j hj => lo j (by omega)), yS_cg hYS (zup_ne (by decide)) (fun j hj => lo j (by omega)), ?_, yW_cg hW0 (lo _ (by decide)) (Int.le_refl _), yW_cg hW1 (lo _ (by decide)) (Int.le_refl _), yN_cg hYN (zup_ne (by decide)) (zup_ne (by decide)), hTl⟩
  unfold yL
  rw [zup_same, zup_same, lo 74 (by decide), lo 75 (by decide), lo 76 (by decide), lo 77 (by decide), zup_ne (show (15 : Int) ≠ 12 by decide), zup_ne (show (13 : Int) ≠ 12 by decide), zup_ne (show (14 : Int) ≠ 12 by decide), zup_ne (show (16 : Int) ≠ 12 by decide)]
  exact ⟨rfl, by omega, l3, l4, l5, l6, l7⟩
/-- first .. -/
theorem y_first (hN : 5000 ≤ N) (hT : tpF F n) (hL : LSt F n i s t) : ∃ b s2 t2, f128 N s = some (b, s2) ∧ (i_o2 (f190 N (0 : Int) (6 : Int) t) fun i33 s32 => ick (77 : Int) 140 <| some (iw s32 71 (77 : Int) i33)) = some t2 ∧ LO F n i s t b s2 t2 := by
  obtain ⟨hc, hm, hY, hcd, hsp⟩ := id hL
  obtain ⟨hYP, hYT, hYS, hYL, hW0, hW1, hYN, hTl⟩ := id hY
  have rg := tP_rg (F := F) hT.1.1 i
  unfold f128
  rw [m_takeNum hT hm]
  rcases c_takeNum (lo := 0) (hi := 6) hN hT hc with ⟨q1, G2, d1, d2, d3, -⟩ | ⟨q1, d1⟩
  rotate_left
  · have np := nWhy_pos (F := F) (n := n) (st := tP F n i)
    have hb := mBad_of hT hm np
    rw [d1, i_o2_some, if_pos rfl, ib1_ok (Or.inl rfl), if_neg q1, i_o2_some, ick_ok (by decide) (by decide)]
    exact ⟨_, _, _, rfl, rfl, LO_flt (spY_1 hsp) (by omega) (by rw [ic_at, zup_same]) (frY.ce (Or.inl rfl)) (frZ.wr (by omega)) (frZ.w1 (by decide)) hb.w1⟩
  have vr := q1.2
  have hm1 := mAt_up hm (by have := q1.1; omega)
  rw [d1, i_o2_some, if_neg (by decide), if_pos q1, i_o2_some, ick_ok (by decide) (by decide)]
  try dsimp only
  rw [ib1_ok (Or.inr rfl), ic_at, d3]
  generalize hV : tV F n (tP F n i) = V1 at vr
  have v1 := (sh7.wr (x := (i : Int) + 1) (sh7.rf (t := t))).me (x := 77) (y := V1)
  have hm2 : mAt F n (i + 1) (iw (iw t 63 7 ((i : Int) + 1)) 71 77 V1) := hm1.me
  generalize iw (iw t 63 7 ((i : Int) + 1)) 71 77 V1 = t2 at v1 hm2
  have lo : ∀ j, j ≠ 77 → zup (t.1 71) 77 V1 j = t.1 71 j := fun j h => zup_ne h
  have sp2 : spY (iw (ic s 1 G2) 47 16 V1) := spY_cg (spY_1 (G := G2) hsp) (iw_ne (by decide)) (iw_ne (by decide)) (iw_ne (by decide))
  refine ⟨1, _, _, rfl, rfl, (frY.ce (Or.inl rfl)).tr (frY.wr (by omega)), v1.Z (fun j hj => lo j (by omega)), sp2, Or.inl ⟨rfl, i + 1, by omega, ⟨by rw [iw_ne (by decide), ic_ne (by decide)]; exact hc.1, by rw [iw_ne (by decide), ic_at]; exact d2⟩, hm2, ?_, by rw [v1.2.2.1 15 (by decide) (by decide)]; omega, sp2⟩⟩
  have sne : ∀ a : Nat, a ≠ 1 → a ≠ 47 → (iw (ic s 1 G2) 47 16 V1).1 a = s.1 a := fun a b1 b2 => by rw [iw_ne b2, ic_ne b1]
  have s47 : (iw (ic s 1 G2) 47 16 V1).1 47 = zup (s.1 47) 16 V1 := by rw [iw_at, ic_ne (by decide)]
  have sl : (iw (ic s 1 G2) 47 16 V1).2 = s.2 := rfl
  generalize iw (ic s 1 G2) 47 16 V1 = s2 at sne s47 sl
  unfold YR
  rw [s47, sl, v1.2.2.2, v1.2.1, v1.1 72 (by decide) (by decide), v1.1 73 (by decide) (by decide), v1.1 75 (by decide) (by decide), v1.2.2.1 15 (by decide) (by decide), v1.2.2.1 18 (by decide) (by decide), v1.2.2.1 19 (by decide) (by decide)]
  rw [sne 48 (by decide) (by decide), sne 50 (by decide) (by decide), sne 51 (by decide) (by decide), sne 52 (by decide) (by decide), sne 54 (by decide) (by decide), sne 55 (by decide) (by decide), sne 56 (by decide) (by decide), sne 57 (by decide) (by decide), sne 58 (by decide) (by decide), sne 60 (by decide) (by decide), sne 61 (by decide) (by decide), sne 3 (by decide) (by decide)]
  obtain ⟨l1, l2, l3, l4, l5, l6, l7⟩ := hYL
  refine ⟨yP_cg hYP (zup_ne (by decide)) (fun j hj => lo j (by omega)), yT_cg hYT (zup_ne (by decide)) (by rw [zup_ne (by decide)]; exact Int.le_refl _) (fun j hj => lo j (by omega)), yS_cg hYS (zup_ne (by decide)) (fun j hj => lo j (by omega)), ?_, yW_cg hW0 (lo _ (by decide)) (Int.le_refl _), yW_cg hW1 (lo _ (by decide)) (Int.le_refl _), yN_cg hYN (zup_ne (by decide)) (zup_ne (by decide)), hTl⟩
  unfold yL
  rw [zup_same, zup_same, lo 73 (by decide), lo 74 (by decide), lo 75 (by decide), lo 76 (by decide), zup_ne (show (15 : Int) ≠ 16 by decide), zup_ne (show (13 : Int) ≠ 16 by decide), zup_ne (show (14 : Int) ≠ 16 by decide), zup_ne (show (12 : Int) ≠ 16 by decide)]
  exact ⟨l1, l2, l3, l4, l5, rfl, by omega⟩
/-- window .. -/
theorem y_window (hN : 5000 ≤ N) (hT : tpF F n) (hL : LSt F n i s t) : ∃ b s2 t2, f127 N s = some (b, s2) ∧ (i_o2 (f190 N (0 : Int) (7 : Int) t) fun i22 s21 => ick (75 : Int) 140 <| i_o2 (f190 N (0 : Int) (7 : Int) (iw s21 71 (75 : Int) i22)) fun i25 s24 => ick (76 : Int) 140 <| i_o2 (f191 N (12 : Int) (0 : Int) (8 : Int) (iw s24 71 (76 : Int) i25)) fun i28 s27 => ick (74 : Int) 140 <| some (iw s27 71 (74 : Int) i28)) = some t2 ∧ LO F n i s t b s2 t2 := by
  obtain ⟨hc, hm, hY, hcd, hsp⟩ := id hL
  obtain ⟨hYP, hYT, hYS, hYL, hW0, hW1, hYN, hTl⟩ := id hY
  have rg := tP_rg (F := F) hT.1.1 i
  have rg1 := tP_rg (F := F) hT.1.1 (i + 1)
  have rg2 := tP_rg (F := F) hT.1.1 (i + 2)
  have rg3 := tP_rg (F := F) hT.1.1 (i + 2 + 1)
  unfold f127
  rw [m_takeNum hT hm]
  rcases c_takeNum (lo := 0) (hi := 7) hN hT hc with ⟨q1, G2, d1, d2, d3, -⟩ | ⟨q1, d1⟩
  rotate_left
  · have np := nWhy_pos (F := F) (n := n) (st := tP F n i)
    have hb := mBad_of hT hm np
    rw [d1, i_o2_some, if_pos rfl, ib1_ok (Or.inl rfl), if_neg q1, i_o2_some, ick_ok (by decide) (by decide), b_takeNum hb.w1, i_o2_some, ick_ok (by decide) (by decide), b_takeAfter hb.w1.w1, i_o2_some, ick_ok (by decide) (by decide)]
    exact ⟨_, _, _, rfl, rfl, LO_flt (spY_1 hsp) (by omega) (by rw [ic_at, zup_same]) (frY.ce (Or.inl rfl)) (frZ.wr (by omega)) ((frZ.w1 (by decide)).tr ((frZ.w1 (by decide)).tr (frZ.w1 (by decide)))) hb.w1.w1.w1⟩
  have vr := q1.2
  have hm1 := mAt_up hm (by have := q1.1; omega)
  rw [d1, i_o2_some, if_neg (by decide), if_pos q1, i_o2_some, ick_ok (by decide) (by decide)]
  try dsimp only
  rw [ic_at, d3]
  generalize hV : tV F n (tP F n i) = V1 at vr
  have v1 := (sh7.wr (x := (i : Int) + 1) (sh7.rf (t := t))).me (x := 75) (y := V1)
  have hm2 : mAt F n (i + 1) (iw (iw t 63 7 ((i : Int) + 1)) 71 75 V1) := hm1.me
  generalize iw (iw t 63 7 ((i : Int) + 1)) 71 75 V1 = t2 at v1 hm2
  clear hm1
  have hc2 : cAt F n (i + 1) (iw (ic s 1 G2) 47 13 V1) := ⟨by rw [iw_ne (by decide), ic_ne (by decide)]; exact hc.1, by rw [iw_ne (by decide), ic_at]; exact d2⟩
  have sp2 : ∀ G, spY (iw (ic s 1 G) 47 13 V1) := fun G => spY_cg (spY_1 (G := G) hsp) (iw_ne (by decide)) (iw_ne (by decide)) (iw_ne (by decide))
  have fY2 : ∀ G, frY s (iw (ic s 1 G) 47 13 V1) := fun G => (frY.ce (Or.inl rfl)).tr (frY.wr (by omega))
  rw [m_takeNum hT hm2]
  rcases c_takeNum (lo := 0) (hi := 7) hN hT hc2 with ⟨q2, G3, e1, e2, e3, -⟩ | ⟨q2, e1⟩
  rotate_left
  · have np := nWhy_pos (F := F) (n := n) (st := tP F n (i + 1))
    have hb := mBad_of hT hm2 np
    rw [e1, i_o2_some, if_pos rfl, ib1_ok (Or.inl rfl), if_neg q2, i_o2_some, ick_ok (by decide) (by decide), b_takeAfter hb.w1, i_o2_some, ick_ok (by decide) (by decide), ic1_iw (by decide), ic_ic]
    exact ⟨_, _, _, rfl, rfl, LO_flt (sp2 _) (by omega) (by rw [iw_ne (by decide), ic_at, zup_same]) (fY2 _) (v1.be.Z (fun j hj => zup_ne (by omega))) ((frZ.w1 (by decide)).tr (frZ.w1 (by decide))) hb.w1.w1⟩
  have vr2 := q2.2
  have hm3 := mAt_up hm2 (by have := q2.1; omega)
  rw [e1, i_o2_some, if_neg (by decide), if_pos q2, i_o2_some, ick_ok (by decide) (by decide), ic1_iw (by decide), ic_ic]
  try dsimp only
  rw [iw_ne (show (1 : Nat) ≠ 47 by decide), ic_at, e3]
  generalize hV2 : tV F n (tP F n (i + 1)) = V2 at vr2
  have v2 := (v1.wr (x := ((i + 1 : Nat) : Int) + 1)).me (x := 76) (y := V2)
  have hm4 : mAt F n (i + 2) (iw (iw t2 63 7 (((i + 1 : Nat) : Int) + 1)) 71 76 V2) := hm3.me
  generalize iw (iw t2 63 7 (((i + 1 : Nat) : Int) + 1)) 71 76 V2 = t4 at v2 hm4
  clear hm3 hm2 v1
  have hc4 : cAt F n (i + 2) (iw (iw (ic s 1 G3) 47 13 V1) 47 14 V2) := ⟨by rw [iw_ne (by decide), iw_ne (by decide), ic_ne (by decide)]; exact hc.1, by rw [iw_ne (by decide), iw_ne (by decide), ic_at]; exact e2⟩
  have sp4 : ∀ G, spY (iw (iw (ic s 1 G) 47 13 V1) 47 14 V2) := fun G => spY_cg (sp2 G) (iw_ne (by decide)) (iw_ne (by decide)) (iw_ne (by decide))
  have fY4 : ∀ G, frY s (iw (iw (ic s 1 G) 47 13 V1) 47 14 V2) := fun G => (fY2 G).tr (frY.wr (by omega))
  have low4 : ∀ j, j < 70 → zup (zup (t.1 71) 75 V1) 76 V2 j = t.1 71 j := fun j hj => by rw [zup_ne (by omega), zup_ne (by omega)]
  obtain ⟨ma1, ma2, ma3⟩ := m_takeAfter (N := N) (x := 12) (ww := 12) (lo := 0) (hi := 8) hT hm4 (by decide) rfl
  rcases c_takeAfter (lo := 0) (hi := 8) hN hT hc4 wd_66 with ⟨q3, cE⟩ | ⟨q3, q4, G4, g7, cE⟩ | ⟨q3, q4, G4, g4, g6, cE⟩
  · have hb := mBad_of (z := 1) hT hm4 (by decide)
    rw [cE, ma1 q3, i_o2_some, ick_ok (by decide) (by decide), ic1_iw (by decide), ic1_iw (by decide), ic_ic]
    exact ⟨_, _, _, rfl, rfl, LO_flt (sp4 _) (by omega) (by rw [iw_ne (by decide), iw_ne (by decide), ic_at, zup_same]) (fY4 _) (v2.be.Z low4) (frZ.w1 (by decide)) hb.w1⟩
  · obtain ⟨e4, hm8⟩ := ma3 q3 q4
    have np := nWhy_pos (F := F) (n := n) (st := tP F n (i + 2 + 1))
    have hb := mBad_of hT hm8 np
    rw [cE, e4, i_o2_some, ick_ok (by decide) (by decide), ic1_iw (by decide), ic1_iw (by decide), ic_ic]
    exact ⟨_, _, _, rfl, rfl, LO_flt (sp4 _) (by omega) (by rw [iw_ne (by decide), iw_ne (by decide), ic_at, g7]) (fY4 _) (v2.wr.be.Z low4) (frZ.w1 (by decide)) hb.w1⟩
  obtain ⟨e4, hm8⟩ := ma2 q3 q4
  have vr3 := q4.2
  rw [cE, e4, i_o2_some, ick_ok (by decide) (by decide), ic1_iw (by decide), ic1_iw (by decide), ic_ic, iw_ne (show (1 : Nat) ≠ 47 by decide), iw_ne (show (1 : Nat) ≠ 47 by decide), ic_at, g6, ib1_ok (Or.inr rfl)]
  generalize hV3 : tV F n (tP F n (i + 2 + 1)) = V3 at vr3
  have v5 := (v2.wr (x := ((i + 2 : Nat) : Int) + 2)).me (x := 74) (y := V3)
  have hm9 : mAt F n (i + 4) (iw (iw t4 63 7 (((i + 2 : Nat) : Int) + 2)) 71 74 V3) := hm8.me
  generalize iw (iw t4 63 7 (((i + 2 : Nat) : Int) + 2)) 71 74 V3 = t9 at v5 hm9
  have sp5 : spY (iw (iw (iw (ic s 1 G4) 47 13 V1) 47 14 V2) 47 15 V3) := spY_cg (sp4 G4) (iw_ne (by decide)) (iw_ne (by decide)) (iw_ne (by decide))
  have low5 : ∀ j, j < 70 → zup (zup (zup (t.1 71) 75 V1) 76 V2) 74 V3 j = t.1 71 j := fun j hj => by rw [zup_ne (by omega)]; exact low4 j hj
  refine ⟨1, _, _, rfl, rfl, (fY4 G4).tr (frY.wr (by omega)), v5.Z low5, sp5, Or.inl ⟨rfl, i + 4, by omega, ⟨by rw [iw_ne (by decide), iw_ne (by decide), iw_ne (by decide), ic_ne (by decide)]; exact hc.1, by rw [iw_ne (by decide), iw_ne (by decide), iw_ne (by decide), ic_at]; exact g4⟩, hm9, ?_, by rw [v5.2.2.1 15 (by decide) (by decide)]; omega, sp5⟩⟩
  have sne : ∀ a : Nat, a ≠ 1 → a ≠ 47 → (iw (iw (iw (ic s 1 G4) 47 13 V1) 47 14 V2) 47 15 V3).1 a = s.1 a := fun a b1 b2 => by rw [iw_ne b2, iw_ne b2, iw_ne b2, ic_ne b1]
  have s47 : (iw (iw (iw (ic s 1 G4) 47 13 V1) 47 14 V2) 47 15 V3).1 47 = zup (zup (zup (s.1 47) 13 V1) 14 V2) 15 V3 := by rw [iw_at, iw_at, iw_at, ic_ne (by decide)]
  have sl : (iw (iw (iw (ic s 1 G4) 47 13 V1) 47 14 V2) 47 15 V3).2 = s.2 := rfl
  clear sp2 fY2 sp4 fY4 sp5
  generalize iw (iw (iw (ic s 1 G4) 47 13 V1) 47 14 V2) 47 15 V3 = s2 at sne s47 sl
  have lo : ∀ j, (j < 74 ∨ 76 < j) → zup (zup (zup (t.1 71) 75 V1) 76 V2) 74 V3 j = t.1 71 j := fun j h => by rw [zup_ne (by omega), zup_ne (by omega), zup_ne (by omega)]
  have hH : ∀ j, (j < 13 ∨ 15 < j) → zup (zup (zup (s.1 47) 13 V1) 14 V2) 15 V3 j = s.1 47 j := fun j h => by rw [zup_ne (by omega), zup_ne (by omega), zup_ne (by omega)]
  unfold YR
  rw [s47, sl, v5.2.2.2, v5.2.1, v5.1 72 (by decide) (by decide), v5.1 73 (by decide) (by decide), v5.1 75 (by decide) (by decide), v5.2.2.1 15 (by decide) (by decide), v5.2.2.1 18 (by decide) (by decide), v5.2.2.1 19 (by decide) (by decide)]
  rw [sne 48 (by decide) (by decide), sne 50 (by decide) (by decide), sne 51 (by decide) (by decide), sne 52 (by decide) (by decide), sne 54 (by decide) (by decide), sne 55 (by decide) (by decide), sne 56 (by decide) (by decide), sne 57 (by decide) (by decide), sne 58 (by decide) (by decide), sne 60 (by decide) (by decide), sne 61 (by decide) (by decide), sne 3 (by decide) (by decide)]
  obtain ⟨l1, l2, l3, l4, l5, l6, l7⟩ := hYL
  refine ⟨yP_cg hYP (hH 0 (by decide)) (fun j hj => lo j (by omega)), yT_cg hYT (hH 3 (by decide)) (by rw [hH 0 (by decide)]; exact Int.le_refl _) (fun j hj => lo j (by omega)), yS_cg hYS (hH 8 (by decide)) (fun j hj => lo j (by omega)), ?_, yW_cg hW0 (lo _ (by decide)) (Int.le_refl _), yW_cg hW1 (lo _ (by decide)) (Int.le_refl _), yN_cg hYN (hH 0 (by decide)) (hH 3 (by decide)), hTl⟩
  unfold yL
  rw [lo 73 (by decide), lo 77 (by decide), hH 12 (by decide), hH 16 (by decide), zup_same, zup_same, zup_ne (show (75 : Int) ≠ 74 by decide), zup_ne (show (75 : Int) ≠ 76 by decide), zup_same, zup_ne (show (76 : Int) ≠ 74 by decide), zup_same, zup_ne (show (13 : Int) ≠ 15 by decide), zup_ne (show (13 : Int) ≠ 14 by decide), zup_same, zup_ne (show (14 : Int) ≠ 15 by decide), zup_same]
  exact ⟨l1, l2, rfl, by omega, fun _ => ⟨rfl, vr, rfl, vr2⟩, l6, l7⟩
theorem yW_fr (h : yW w l C m O g cc) (hm : m2 (78 + w) = m (78 + w)) (hc : cc ≤ cc2) (hO : ∀ j, j < 1100 + cc → O2 j = O j ∧ g2 j = g j) : yW w l C m2 O2 g2 cc2 := by
  unfold yW at h ⊢
  rw [hm]
  rcases h with h | ⟨a1, a2, a3, a4, a5, a6, a7⟩
  · exact Or.inl h
  · refine Or.inr ⟨a1, a2, a3, by omega, by rw [(hO _ (by omega)).1]; exact a5, fun j j0 j1 => ?_, a7⟩
    rw [(hO _ (by omega)).1, (hO _ (by omega)).2]
    exact a6 j j0 j1
/-- temper .. and damage .. -/
theorem y_law {i0 : Nat} (hN : 5000 ≤ N) (hT : tpF F n) (hL : LSt F n i s t) (hi0 : i0 < i) (hl : (lc = 57 ∧ w = 0) ∨ (lc = 60 ∧ w = 1)) (hcd : t.1 63 15 + 1 ≤ i) :
    ∃ b s2 t2, f29 N lc s = some (b, s2) ∧ (b = 0 ∨ b = 1) ∧ (i_o1 (f208 N (f212 N 7) (0 : Int) (iw t 71 ((78 : Int) + w) (t.1 63 15))) fun s6 => i_o1 (f207 N (0 : Int) (0 : Int) s6) fun s7 => some s7) = some t2 ∧ LO F n i0 s t b s2 t2 := by
  obtain ⟨hc, hm, hY, hcd0, hsp⟩ := id hL
  obtain ⟨hYP, hYT, hYS, hYL, hW0, hW1, hYN, hTl⟩ := id hY
  obtain ⟨⟨z, j, o2⟩, hr⟩ := run_ex (F := F) (n := n) hT.1.1 (n + 2).toNat [] [] 0 0 true i hm.2.2.2.1 (by omega)
  have hl2 : lc = 57 ∨ lc = 60 := by omega
  obtain ⟨v, a1, a2, a3, a4⟩ := c_read (N := N) (lc := lc) hN hT hl2 hr hm.2.2.2.1 (by omega) hc
  have hm1 : mAt F n i (iw t 71 ((78 : Int) + w) (t.1 63 15)) := hm.me
  have e15 : (iw t 71 ((78 : Int) + w) (t.1 63 15)).1 63 15 = t.1 63 15 := by rw [iw_ne (by decide)]
  obtain ⟨v2, b1, b2, b3, b4⟩ := m_lawRun (N := N) hN hT hm1 e15 hcd0.1 hcd hr
  have fY := a2.Y hl2
  have fZ : frZ t v2 := (frZ.w1 (by omega)).tr (b2.Z hcd0.1)
  have sne : ∀ a : Nat, a ≠ 1 → a ≠ 4 → a ≠ 5 → a ≠ lc → a ≠ lc + 1 → v.1 a = s.1 a := a2.1
  have sp2 : spY v := spY_cg hsp (sne 48 (by decide) (by decide) (by decide) (by omega) (by omega)) (sne 50 (by decide) (by decide) (by decide) (by omega) (by omega)) (sne 52 (by decide) (by decide) (by decide) (by omega) (by omega))
  refine ⟨_, v, v2, a1, by split <;> omega, b1, fY, fZ, sp2, ?_⟩
  rcases b4 with ⟨z0, c1, c2, c3, c4, c5, c6, c7⟩ | ⟨z0, c1⟩
  rotate_left
  · rw [if_neg (by omega)]
    refine Or.inr ⟨rfl, ?_⟩
    rw [a4 (by omega)]
    exact ⟨z0, c1⟩
  rw [if_pos z0]
  obtain ⟨d1, d2, d3, d4⟩ := a3 z0
  have m71 : v2.1 71 = zup (t.1 71) (78 + w) (t.1 63 15) := by rw [b2.1 71 (by decide) (by decide) (by decide), iw_at]
  have lo : ∀ j, j ≠ 78 + w → v2.1 71 j = t.1 71 j := fun j h => by rw [m71, zup_ne h]
  have hO : ∀ j, j < 1100 + t.1 63 15 → v2.1 72 j = t.1 72 j ∧ v2.1 73 j = t.1 73 j := fun j hj => by
    have := b2.2.2.1 j hj
    rw [iw_ne (by decide), iw_ne (by decide)] at this
    exact this
  have z63 : ∀ j, j ≠ 7 → j ≠ 8 → j ≠ 15 → v2.1 63 j = t.1 63 j := fun j q1 q2 q3 => by rw [b2.2.2.2 j q1 q2 q3, iw_ne (by decide)]
  have zl : v2.2 = t.2 := b2.2.1
  have i1 := (mAt_i hT c1).1
  -- the law just read
  have hnew : ∀ ll CC : Int → Int, ll = v.1 lc → CC = v.1 (lc + 1) → yW w ll CC (v2.1 71) (v2.1 72) (v2.1 73) (v2.1 63 15) := fun ll CC e1 e2 => by
    subst e1 e2
    unfold yW
    have em : v2.1 71 (78 + w) = t.1 63 15 := by rw [m71, zup_same]
    rw [em, d2, show (1100 : Int) + t.1 63 15 + (o2.length : Int) = 1100 + t.1 63 15 + (o2.length : Int) from rfl]
    refine Or.inr ⟨hcd0.1, by omega, by omega, by omega, c6, fun q q0 q1 => ?_, ?_⟩
    · have := c5 q.toNat (by omega)
      have := d3 q.toNat (by omega)
      rw [show ((q.toNat : Nat) : Int) = q by omega] at *
      rw [this]
      assumption
    · rw [show ((o2.length : Int)).toNat = o2.length by omega]
      exact wfC_of c7 d3
  refine Or.inl ⟨rfl, j, by omega, d1, c1, ?_, by omega, sp2⟩
  unfold YR
  rw [zl, z63 18 (by decide) (by decide) (by decide), z63 19 (by decide) (by decide) (by decide), b2.1 75 (by decide) (by decide) (by decide), iw_ne (show (75 : Nat) ≠ 71 by decide), a2.2]
  rw [sne 47 (by decide) (by decide) (by decide) (by omega) (by omega), sne 48 (by decide) (by decide) (by decide) (by omega) (by omega), sne 50 (by decide) (by decide) (by decide) (by omega) (by omega), sne 51 (by decide) (by decide) (by decide) (by omega) (by omega), sne 52 (by decide) (by decide) (by decide) (by omega) (by omega), sne 54 (by decide) (by decide) (by decide) (by omega) (by omega), sne 55 (by decide) (by decide) (by decide) (by omega) (by omega), sne 56 (by decide) (by decide) (by decide) (by omega) (by omega), sne 3 (by decide) (by decide) (by decide) (by omega) (by omega)]
  have w01 : w = 0 ∨ w = 1 := by omega
  have n70 : ∀ j : Int, j < 78 ∨ 79 < j → j ≠ 78 + w := fun j h => by omega
  refine ⟨yP_cg hYP rfl (fun j hj => lo j (n70 j (by omega))), yT_cg hYT rfl (Int.le_refl _) (fun j hj => lo j (n70 j (by omega))), yS_cg hYS rfl (fun j hj => lo j (n70 j (by omega))), yL_cg hYL rfl rfl rfl rfl rfl (fun j j0 j1 => lo j (n70 j (by omega))), ?_, ?_, hYN, hTl⟩
  · rcases hl with ⟨e1, e2⟩ | ⟨e1, e2⟩
    · subst e1 e2
      exact hnew _ _ rfl rfl
    · rw [sne 57 (by decide) (by decide) (by decide) (by omega) (by omega), sne 58 (by decide) (by decide) (by decide) (by omega) (by omega)]
      exact yW_fr hW0 (lo _ (by omega)) (by omega) hO
  · rcases hl with ⟨e1, e2⟩ | ⟨e1, e2⟩
    · rw [sne 60 (by decide) (by decide) (by decide) (by omega) (by omega), sne 61 (by decide) (by decide) (by decide) (by omega) (by omega)]
      exact yW_fr hW1 (lo _ (by omega)) (by omega) hO
    · subst e1 e2
      exact hnew _ _ rfl rfl
end YARDU

/-! A YARD read: a line of whatever kind; all the lines. -/
section YARDV
variable {N : Nat} {s t u v v1 s1 t1 s2 t2 : gI} {F G G0 : Int → Int} {n e st lo hi c w k x y z : Int} {r i i2 lc a b ww : Nat}
theorem y_line (hN : 5000 ≤ N) (hT : tpF F n) (hL : LSt F n i s t) (hw : tK F n (tP F n i) ≠ 0) : ∃ b s2 t2, f121 N s = some (b, s2) ∧ f201 N t = some t2 ∧ LO F n i s t b s2 t2 := by
  obtain ⟨hc, hm, hY, hcd, hsp⟩ := id hL
  have fl : ∀ {b : Int} {s2 t2 : gI}, LO F n i s t b s2 t2 → b = 0 ∨ b = 1 := fun h => by
    rcases h.2.2.2 with ⟨h, -⟩ | ⟨h, -⟩
    · exact Or.inr h
    · exact Or.inl h
  have fl2 : ∀ {b : Int} {i2 : Nat} {s0 t0 s2 t2 : gI}, LO F n i2 s0 t0 b s2 t2 → b = 0 ∨ b = 1 := fun h => by
    rcases h.2.2.2 with ⟨h, -⟩ | ⟨h, -⟩
    · exact Or.inr h
    · exact Or.inl h
  unfold f121 f201
  have m0 := m_isWord (N := N) (w := 0) hT hm (by decide)
  have m0 : f184 N 0 t = _ := m0
  rw [c_isWord hN hT hc wd_36, i_o2_some, m0, i_o2_some]
  by_cases g0 : isW F n (tP F n i) 0
  · rw [if_pos g0, if_neg (by decide), if_neg (by decide)]
    obtain ⟨b, s2, t2, e1, e2, e3⟩ := y_person hN hT hL hw
    rw [e1, i_o2_some, ib1_ok (fl e3), e2, i_o1_some]
    exact ⟨b, s2, t2, rfl, rfl, e3⟩
  have m2 := m_isWord (N := N) (w := 2) hT hm (by decide)
  have m2 : f184 N 2 t = _ := m2
  rw [if_neg g0, if_pos rfl, if_pos rfl, c_isWord hN hT hc wd_38, i_o2_some, m2, i_o2_some]
  by_cases g2 : isW F n (tP F n i) 2
  · rw [if_pos g2, if_neg (by decide), if_neg (by decide)]
    obtain ⟨b, s2, t2, e1, e2, e3⟩ := y_thing hN hT hL hw
    rw [e1, i_o2_some, ib1_ok (fl e3), e2, i_o1_some]
    exact ⟨b, s2, t2, rfl, rfl, e3⟩
  have m5 := m_isWord (N := N) (w := 5) hT hm (by decide)
  have m5 : f184 N 5 t = _ := m5
  rw [if_neg g2, if_pos rfl, if_pos rfl, c_isWord hN hT hc wd_40, i_o2_some, m5, i_o2_some]
  by_cases g5 : isW F n (tP F n i) 5
  · rw [if_pos g5, if_neg (by decide), if_neg (by decide)]
    obtain ⟨b, s2, t2, e1, e2, e3⟩ := y_shot hN hT hL hw
    rw [e1, i_o2_some, ib1_ok (fl e3), e2, i_o1_some]
    exact ⟨b, s2, t2, rfl, rfl, e3⟩
  have m10 := m_isWord (N := N) (w := 10) hT hm (by decide)
  have m10 : f184 N 10 t = _ := m10
  rw [if_neg g5, if_pos rfl, if_pos rfl, c_isWord hN hT hc wd_42, i_o2_some, m10, i_o2_some]
  by_cases g10 : isW F n (tP F n i) 10
  · rw [if_pos g10, if_neg (by decide), if_neg (by decide)]
    rcases y_once (N := N) (b := 0) (x := 1) (y := 0) hN hT hL hw (by decide) rfl rfl with ⟨s1, t1, e1, e2, e3⟩ | ⟨s1, t1, e1, e2, e3, e4, e5, -⟩
    · rw [e1, i_o2_some, if_pos rfl, ib1_ok (Or.inl rfl), e2, i_o2_some, if_pos rfl]
      exact ⟨_, _, _, rfl, rfl, e3⟩
    · obtain ⟨b, s2, t2, x1, x2, x3⟩ := y_net hN hT e3
      rw [e1, i_o2_some, if_neg (by decide), e2, i_o2_some, if_neg (by decide), x1, i_o2_some]
      refine ⟨b, s2, t2, ?_, x2, LO.tr e4 e5 (by omega) x3⟩
      rcases fl2 x3 with q | q <;> subst q
      · rw [if_pos rfl, ib1_ok (Or.inl rfl)]
      · rw [if_neg (by decide), ib1_ok (Or.inr rfl)]
  have m11 := m_isWord (N := N) (w := 11) hT hm (by decide)
  have m11 : f184 N 11 t = _ := m11
  rw [if_neg g10, if_pos rfl, if_pos rfl, c_isWord hN hT hc wd_44, i_o2_some, m11, i_o2_some]
  by_cases g11 : isW F n (tP F n i) 11
  · rw [if_pos g11, if_neg (by decide), if_neg (by decide)]
    rcases y_once (N := N) (b := 1) (x := 2) (y := 1) hN hT hL hw (by decide) rfl rfl with ⟨s1, t1, e1, e2, e3⟩ | ⟨s1, t1, e1, e2, e3, e4, e5, -⟩
    · rw [e1, i_o2_some, if_pos rfl, ib1_ok (Or.inl rfl), e2, i_o2_some, if_pos rfl]
      exact ⟨_, _, _, rfl, rfl, e3⟩
    · obtain ⟨b, s2, t2, x1, x2, x3⟩ := y_window hN hT e3
      rw [e1, i_o2_some, if_neg (by decide), e2, i_o2_some, if_neg (by decide), x1, i_o2_some]
      refine ⟨b, s2, t2, ?_, x2, LO.tr e4 e5 (by omega) x3⟩
      rcases fl2 x3 with q | q <;> subst q
      · rw [if_pos rfl, ib1_ok (Or.inl rfl)]
      · rw [if_neg (by decide), ib1_ok (Or.inr rfl)]
  have m13 := m_isWord (N := N) (w := 13) hT hm (by decide)
  have m13 : f184 N 13 t = _ := m13
  rw [if_neg g11, if_pos rfl, if_pos rfl, c_isWord hN hT hc wd_46, i_o2_some, m13, i_o2_some]
  by_cases g13 : isW F n (tP F n i) 13
  · rw [if_pos g13, if_neg (by decide), if_neg (by decide)]
    rcases y_once (N := N) (b := 2) (x := 4) (y := 2) hN hT hL hw (by decide) rfl rfl with ⟨s1, t1, e1, e2, e3⟩ | ⟨s1, t1, e1, e2, e3, e4, e5, -⟩
    · rw [e1, i_o2_some, if_pos rfl, ib1_ok (Or.inl rfl), e2, i_o2_some, if_pos rfl]
      exact ⟨_, _, _, rfl, rfl, e3⟩
    · obtain ⟨b, s2, t2, x1, x2, x3⟩ := y_first hN hT e3
      rw [e1, i_o2_some, if_neg (by decide), e2, i_o2_some, if_neg (by decide), x1, i_o2_some]
      refine ⟨b, s2, t2, ?_, x2, LO.tr e4 e5 (by omega) x3⟩
      rcases fl2 x3 with q | q <;> subst q
      · rw [if_pos rfl, ib1_ok (Or.inl rfl)]
      · rw [if_neg (by decide), ib1_ok (Or.inr rfl)]
  obtain ⟨ww, w1, w2⟩ := m_wordHere (N := N) (a := 14) (b := 2) hN hT hm (by decide)
  have w1 : f192 N 14 2 t = some (ww, t) := w1
  rw [if_neg g13, if_pos rfl, if_pos rfl, c_isWord hN hT hc wd_48, i_o2_some]
  unfold f202
  rw [w1, i_o2_some]
  -- a law
  have law : ∀ (lc bb : Nat) (w x : Int), ((lc = 57 ∧ w = 0) ∨ (lc = 60 ∧ w = 1)) → bb = 3 + w.toNat → x = (2 : Int) ^ bb → ww = w →
      ∃ b s2 t2, (i_o2 (f122 N x s) fun i24 s23 => if i24 = 0 then ib1 (0 : Int) <| some ((0 : Int), s23) else i_o2 (f29 N lc s23) fun i26 s25 => if i26 = 0 then ib1 (0 : Int) <| some ((0 : Int), s25) else ib1 (1 : Int) <| some ((1 : Int), s25)) = some (b, s2) ∧
      (i_o1 (if 0 ≤ ww then iov ((3 : Int) + ww) <| i_o2 (f200 N ((3 : Int) + ww) t) fun i4 s3 => if i4 = 0 then some s3 else iov ((78 : Int) + ww) <| ick ((78 : Int) + ww) 140 <| i_o1 (f208 N (f212 N 7) (0 : Int) (iw s3 71 ((78 : Int) + ww) (s3.1 63 15))) fun s6 => i_o1 (f207 N (0 : Int) (0 : Int) s6) fun s7 => some s7
        else i_o1 (f182 N (1 : Int) t) fun s8 => some s8) fun s13 => some s13) = some t2 ∧ LO F n i s t b s2 t2 := fun lc bb w x hl hb hx hww => by
    subst hww
    rw [if_pos (by omega), iov_ok (by omega) (by omega)]
    rcases y_once (N := N) (b := bb) (x := x) (y := (3 : Int) + ww) hN hT hL hw (by omega) hx (by omega) with ⟨s1, t1, e1, e2, e3⟩ | ⟨s1, t1, e1, e2, e3, e4, e5, e6⟩
    · rw [e1, i_o2_some, if_pos rfl, ib1_ok (Or.inl rfl), e2, i_o2_some, if_pos rfl, i_o1_some]
      exact ⟨_, _, _, rfl, rfl, e3⟩
    · obtain ⟨b, s2, t2, x1, b01, x2, x3⟩ := y_law (N := N) (i0 := i) (lc := lc) (w := ww) hN hT e3 (by omega) hl (by omega)
      rw [e1, i_o2_some, if_neg (by decide), e2, i_o2_some, if_neg (by decide), iov_ok (by omega) (by omega), ick_ok (by omega) (by omega), x1, i_o2_some, x2, i_o1_some]
      refine ⟨b, s2, t2, ?_, rfl, LO.tr e4 e5 (Nat.le_refl _) x3⟩
      rcases b01 with q | q <;> subst q
      · rw [if_pos rfl, ib1_ok (Or.inl rfl)]
      · rw [if_neg (by decide), ib1_ok (Or.inr rfl)]
  by_cases g14 : isW F n (tP F n i) 14
  · rw [if_pos g14, if_neg (by decide)]
    have ew : ww = 0 := by
      rcases w2 with ⟨h1, h2⟩ | ⟨k, h1, h2, h3⟩
      · exact absurd g14 (h2 0 (by decide))
      · have := isW_inj (by omega) (by decide) h3 g14
        omega
    exact law 57 3 0 8 (Or.inl ⟨rfl, rfl⟩) rfl rfl ew
  rw [if_neg g14, if_pos rfl, c_isWord hN hT hc wd_50, i_o2_some]
  by_cases g15 : isW F n (tP F n i) 15
  · rw [if_pos g15, if_neg (by decide)]
    have ew : ww = 1 := by
      rcases w2 with ⟨h1, h2⟩ | ⟨k, h1, h2, h3⟩
      · exact absurd g15 (h2 1 (by decide))
      · have := isW_inj (by omega) (by decide) h3 g15
        omega
    exact law 60 4 1 16 (Or.inr ⟨rfl, rfl⟩) rfl rfl ew
  · rw [if_neg g15, if_pos rfl]
    have ew : ww = -1 := by
      rcases w2 with ⟨h1, h2⟩ | ⟨k, h1, h2, h3⟩
      · exact h1
      · rcases (by omega : k = 0 ∨ k = 1) with q | q <;> subst q
        · exact absurd h3 g14
        · exact absurd h3 g15
    rw [if_neg (by omega), c_fail hT hc (by decide) (by decide), i_o2_some, ib1_ok (Or.inl rfl), m_wrong hT hm (by decide) (by decide), i_o1_some, i_o1_some]
    exact ⟨_, _, _, rfl, rfl, LO_bad hT hm hsp (by decide) (zup_same _ _ _) (frY.ce (Or.inl rfl))⟩
/-- how a YARD's reading ends -/
def YE (F : Int → Int) (n : Int) (s t : gI) (b : Int) (s2 t2 : gI) : Prop := frY s s2 ∧ frZ t t2 ∧ spY s2 ∧ ((b = 1 ∧ ∃ j, LSt F n j s2 t2) ∨ (b = 0 ∧ mBad (s2.1 1 7) t2))
theorem y_lines (hN : 5000 ≤ N) (hT : tpF F n) : ∀ (r f1 f2 i : Nat) (x : Int) (s t : gI), LSt F n i s t → n + 2 ≤ r + i → 0 ≤ x → x ≤ i → r < f1 → r < f2 → ∃ b s2 t2, f120_at18 N f1 x s = some (b, s2) ∧ f199_at30 N f2 t = f199_at62 N t2 ∧ YE F n s t b s2 t2
  | 0, f1, f2, i, x, s, t, hL, hr, x0, x1, h1, h2 => by
    have := lv_mx hT.1.1 hL.2.1.2.2.2.1
    omega
  | r + 1, f1, f2, i, x, s, t, hL, hr, x0, x1, h1, h2 => by
    obtain ⟨g1, rfl⟩ : ∃ g, f1 = g + 1 := ⟨f1 - 1, by omega⟩
    obtain ⟨g2, rfl⟩ : ∃ g, f2 = g + 1 := ⟨f2 - 1, by omega⟩
    obtain ⟨hc, hm, hY, hcd, hsp⟩ := id hL
    have i1 := (mAt_i hT hm).1
    have kr := tK_rg (F := F) (n := n) (st := tP F n i)
    unfold f120_at18 f199_at30
    rw [if_neg (by omega), hc.2.2.1, hm.2.2.1, if_pos rfl, hm.2.1, ick_ok (by omega) (by omega), (mAt_k hT hm).1]
    have em : mso (tK F n (tP F n i)) = 0 ↔ tK F n (tP F n i) = 0 := by
      have := mso_is kr.1 kr.2 (z := 0) (Or.inl rfl)
      exact this
    by_cases g : tK F n (tP F n i) = 0
    · rw [if_pos g, ib1_ok (Or.inr rfl), if_pos (em.mpr g)]
      exact ⟨1, s, t, rfl, rfl, frY.rf, frZ.rf, hsp, Or.inl ⟨rfl, i, hL⟩⟩
    rw [if_neg g, if_neg (fun h => g (em.mp h))]
    obtain ⟨b, s1, t1, e1, e2, f1', f2', sp1, e3⟩ := y_line hN hT hL g
    rw [e1, i_o2_some, e2, i_o1_some]
    -- nothing more is read behind a FAULT
    have stop : ∀ (z : Int) (t9 : gI), mBad z t9 → f199_at30 N g2 t9 = f199_at62 N t9 := fun z t9 hb => by
      obtain ⟨g3, rfl⟩ : ∃ g, g2 = g + 1 := ⟨g2 - 1, by omega⟩
      unfold f199_at30
      rw [hb.1, if_neg (by have := hb.2.1; omega)]
    rcases e3 with ⟨b1, j, j1, hL2⟩ | ⟨b0, z0, hB⟩
    · rw [if_neg (by omega)]
      obtain ⟨hc2, hm2, hY2, hcd2, hsp2⟩ := id hL2
      have rg := tP_rg (F := F) hT.1.1 j
      rw [m_takeSign hT hm2]
      rcases c_takeSemi hN hT hc2 with ⟨q, G, a1, a2, -⟩ | ⟨q, a1⟩
      · have hm3 := mAt_up hm2 (by have := q.1; omega)
        have hL3 := LSt_mv hL2 a2 (by omega) hm3
        rw [a1, i_o2_some, if_neg (by decide), if_pos q, i_o1_some, iov_ok (by omega) (by omega)]
        try dsimp only
        obtain ⟨b, s2, t2, x1, x2, y1, y2, y3, y4⟩ := y_lines hN hT r g1 g2 (j + 1) (x + 1) _ _ hL3 (by omega) (by omega) (by omega) (by omega) (by omega)
        exact ⟨b, s2, t2, x1, x2, (f1'.tr (frY.ce (Or.inl rfl))).tr y1, (f2'.tr (frZ.wr (Or.inl rfl))).tr y2, y3, y4⟩
      · rw [a1, i_o2_some, if_pos rfl, ib1_ok (Or.inl rfl), if_neg q, i_o1_some]
        have hb := mBad_of (z := 1) hT hm2 (by decide)
        rw [stop _ _ hb]
        refine ⟨0, _, _, rfl, rfl, f1'.tr (frY.ce (Or.inl rfl)), f2'.tr (frZ.wr (Or.inr (Or.inl rfl))), spY_1 hsp2, Or.inr ⟨rfl, ?_⟩⟩
        rw [ic_at, zup_same]
        exact hb
    · rw [if_pos b0, ib1_ok (Or.inl rfl)]
      rcases hB with hb | ⟨j2, hm2, ez, q⟩
      · rw [b_takeSign hb, i_o1_some, stop _ _ hb]
        exact ⟨0, _, _, rfl, rfl, f1', f2', sp1, Or.inr ⟨rfl, hb⟩⟩
      · have hb := mBad_of (z := 1) hT hm2 (by decide)
        rw [m_takeSign hT hm2, if_neg q, i_o1_some, stop _ _ hb]
        refine ⟨0, _, _, rfl, rfl, f1', f2'.tr (frZ.wr (Or.inr (Or.inl rfl))), sp1, Or.inr ⟨rfl, ?_⟩⟩
        rw [ez]
        exact hb
end YARDV

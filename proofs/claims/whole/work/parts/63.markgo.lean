/-! Promise 31: mark answered alike, going back. -/
section MARKGO
variable {N : Nat} {s u c m t : gI} {k : Int} {p q : Int → Int} {Q : Cf}
theorem q_markBad {n x : Int} (hI : INV k s) (h : ¬ (0 ≤ n ∧ n ≤ 3)) : OKc k s (f163 N n x) (f291 N n x) := by
  refine OKc.q hI (x := 0) (s1 := s) (s2 := iw s 63 0 0) ?_ ?_ sameQ_thrown
  · unfold f163 f44 f45
    by_cases g : x = 0
    · rw [if_pos g]
      by_cases g1 : n < 0
      · rw [if_pos g1, ib1_ok (Or.inl rfl), i_o2_some, ib1_ok (Or.inl rfl)]
      · rw [if_neg g1, if_neg (by omega), ib1_ok (Or.inl rfl), i_o2_some, ib1_ok (Or.inl rfl)]
    · rw [if_neg g]
      by_cases g1 : n < 0
      · rw [if_pos g1, ib1_ok (Or.inl rfl), i_o2_some, ib1_ok (Or.inl rfl)]
      · rw [if_neg g1, if_pos (by omega), ib1_ok (Or.inl rfl), i_o2_some, ib1_ok (Or.inl rfl)]
  · unfold f291
    dsimp only
    rw [m_within, i_o2_some, if_neg h, if_pos rfl, ib1_ok (Or.inl rfl)]
theorem q_markGo (hN : 5000 ≤ N) (hI : INV k s) {n x : Int} (h0 : 0 ≤ n) (h1 : n ≤ 3) (hx : x ≠ 0) : OKc k s (f163 N n x) (f291 N n x) := by
  obtain ⟨u1, u2, u3, u4, u5, u6⟩ := hI.2.2.2.2.1
  have i2 := hI.2.1
  have hw := hI.1.1.1
  have hn := cW_n hw
  have hn0 := hw.2.2.1
  have en : (cQ s).2.2.2.1 = (s.1 15 3).toNat := rfl
  obtain ⟨w1, w2, w3⟩ := u6 n h0 (by omega)
  by_cases g : s.1 79 n = 0
  · refine OKc.q hI (x := 0) (s1 := s) (s2 := iw s 63 0 0) ?_ ?_ sameQ_thrown
    · unfold f163 f45
      rw [if_neg hx, if_neg (by omega), if_neg (by omega), w2, if_pos g, ib1_ok (Or.inl rfl), i_o2_some, ib1_ok (Or.inl rfl)]
    · unfold f291
      dsimp only
      rw [m_within, i_o2_some, if_pos (show 0 ≤ n ∧ n ≤ 3 from ⟨h0, h1⟩), if_neg (by decide), if_neg hx, ick_ok (by omega) (by omega), iw63 (by decide), if_pos g, ib1_ok (Or.inl rfl)]
  obtain ⟨⟨rE1, rE2, rE3⟩, ⟨rV1, rV2, rV3, rV4⟩, sE, sV⟩ := w3 (by omega)
  have hpl : ∀ j : Nat, j < 8 → 0 ≤ s.1 43 (26 * n + j) ∧ s.1 43 (26 * n + j) < 192 := fun j hj => by
    by_cases hj2 : (j : Int) < s.1 15 3
    · have := okq_rg (rV1 j (by omega))
      rw [sh_at] at this
      omega
    · have := rV2 j (by omega) (by omega)
      omega
  obtain ⟨v, v0, v1, v2, v3, v4, v5, v6, v7, v8, v9⟩ := c_load (N := N) (s := s) (r := 43) (zn := 104) (row := n) hN (by decide) h0 (by omega) (by decide) hpl
  have v43 := v1 43 (by decide) (by decide) (by decide) (by decide)
  have cfin : f163 N n x s = some (1, iw (ic v 10 (zcpy (s.1 43) (v.1 10) (26 * n + 16) 0 8)) 41 4 0) := by
    unfold f163 f45 f92
    rw [if_neg hx, if_neg (by omega), if_neg (by omega), w2, if_neg g, v0, i_o1_some, iov_ok (by omega) (by omega), iov_ok (by omega) (by omega)]
    simp (disch := omega) only [ick_ok, iov_ok, iol_ok, idv_ok, ich_ok, icp_ok, i_o2_some, i_o1_some]
    rw [ib1_ok (Or.inr rfl), i_o2_some, ib1_ok (Or.inr rfl), icw_ic, v43, show n * 26 + 16 = 26 * n + 16 by omega]
  generalize hc : iw (ic v 10 (zcpy (s.1 43) (v.1 10) (26 * n + 16) 0 8)) 41 4 0 = c at cfin
  have cne : ∀ a : Nat, a ≠ 41 → a ≠ 10 → c.1 a = v.1 a := fun a a1 a2 => by rw [← hc, iw_ne a1, ic_ne a2]
  have cns : ∀ a : Nat, a ≠ 6 → a ≠ 7 → a ≠ 8 → a ≠ 9 → a ≠ 41 → a ≠ 10 → c.1 a = s.1 a := fun a b1 b2 b3 b4 a1 a2 => by rw [cne a a1 a2, v1 a b1 b2 b3 b4]
  have c41 : c.1 41 = zup (s.1 41) 4 0 := by rw [← hc, iw_at, ic_ne (by decide), v1 41 (by decide) (by decide) (by decide) (by decide)]
  have c10 : c.1 10 = zcpy (s.1 43) (v.1 10) (26 * n + 16) 0 8 := by rw [← hc, iw_ne (by decide), ic_at]
  have mfin : ∃ t, f291 N n x c = some (1, t) ∧ (∀ a : Nat, a ≠ 63 → a ≠ 78 → a ≠ 79 → t.1 a = c.1 a) ∧ (∀ i, i ≠ 0 → i ≠ 23 → t.1 63 i = c.1 63 i) ∧ t.1 63 23 = 0 ∧ t.1 79 = zup (c.1 79) n 1 ∧ t.1 78 = zcpy (c.1 78) (c.1 78) (28 * (1 + n)) 0 28 ∧ t.2 = c.2 := by
    refine ⟨iw (ic (iw (iw c 63 0 0) 79 n 1) 78 (zcpy ((iw (iw c 63 0 0) 79 n 1).1 78) ((iw (iw c 63 0 0) 79 n 1).1 78) (28 * (1 + n)) 0 28)) 63 23 0, ?_, ?_, ?_, ?_, ?_, ?_, rfl⟩
    · unfold f291 f291_at29 f291_at51 f291_at65
      dsimp only
      rw [m_within, i_o2_some, if_pos (show 0 ≤ n ∧ n ≤ 3 from ⟨h0, h1⟩), if_neg (by decide), if_neg hx, ick_ok (by omega) (by omega), iw63 (by decide), cns 79 (by decide) (by decide) (by decide) (by decide) (by decide) (by decide), if_neg g, ick_ok (by omega) (by omega), ib1_ok (Or.inr rfl)]
      simp only [if_neg hx]
      rw [iov_ok (by omega) (by omega), iov_ok (by omega) (by omega), m_copies hN (by omega) (by decide) (by decide) (by omega) (by decide) (by omega), i_o1_some, ib1_ok (Or.inr rfl)]
    · intro a a1 a2 a3
      rw [iw_ne a1, ic_ne a2, iw_ne a3, iw_ne a1]
    · intro i hi hi2
      rw [iw_at, ic_ne (by decide), iw_ne (by decide), iw_at, zup_ne hi2, zup_ne hi]
    · rw [iw_at, zup_same]
    · rw [iw_ne (by decide), ic_ne (by decide), iw_at, iw_ne (by decide)]
    · rw [iw_ne (by decide), ic_at, iw_ne (by decide), iw_ne (by decide)]
  obtain ⟨t, mfin, tne, t63, t23, t79, t78, t2⟩ := mfin
  refine ⟨1, c, t, cfin, mfin, INV_mono (k := k) (by omega) ?_⟩
  have tns : ∀ a : Nat, a ≠ 6 → a ≠ 7 → a ≠ 8 → a ≠ 9 → a ≠ 41 → a ≠ 10 → a ≠ 63 → a ≠ 78 → a ≠ 79 → t.1 a = s.1 a := fun a b1 b2 b3 b4 b5 b6 a3 a4 a5 => by rw [tne a a3 a4 a5, cns a b1 b2 b3 b4 b5 b6]
  have tnv : ∀ a : Nat, a ≠ 41 → a ≠ 10 → a ≠ 63 → a ≠ 78 → a ≠ 79 → t.1 a = v.1 a := fun a b1 b2 a3 a4 a5 => by rw [tne a a3 a4 a5, cne a b1 b2]
  rw [cns 79 (by decide) (by decide) (by decide) (by decide) (by decide) (by decide)] at t79
  rw [cns 78 (by decide) (by decide) (by decide) (by decide) (by decide) (by decide)] at t78
  have t79' : t.1 79 = s.1 79 := by
    rw [t79]
    exact zup_eq (by omega)
  have t41 : t.1 41 = zup (s.1 41) 4 0 := by rw [tne 41 (by decide) (by decide) (by decide), c41]
  have t10 : t.1 10 = zcpy (s.1 43) (v.1 10) (26 * n + 16) 0 8 := by rw [tne 10 (by decide) (by decide) (by decide), c10]
  have t43 := tns 43 (by decide) (by decide) (by decide) (by decide) (by decide) (by decide) (by decide) (by decide) (by decide)
  have t15 := tns 15 (by decide) (by decide) (by decide) (by decide) (by decide) (by decide) (by decide) (by decide) (by decide)
  have t12 := tns 12 (by decide) (by decide) (by decide) (by decide) (by decide) (by decide) (by decide) (by decide) (by decide)
  have t7 := tnv 7 (by decide) (by decide) (by decide) (by decide) (by decide)
  have t8 := tnv 8 (by decide) (by decide) (by decide) (by decide) (by decide)
  have t6 := tnv 6 (by decide) (by decide) (by decide) (by decide) (by decide)
  have hi : ∀ j, 28 ≤ j → t.1 78 j = s.1 78 j := fun j h => by rw [t78, zcp_off (by omega)]
  have lo : ∀ j, 0 ≤ j → j < 28 → t.1 78 j = s.1 78 (28 * (1 + n) + j) := fun j a b => by
    have := zcp_in (f := s.1 78) (g := s.1 78) (a := 28 * (1 + n)) (b := 0) a b
    rw [Int.zero_add] at this
    rw [t78, this]
  have eQ : cQ t = cQ s := by
    unfold cQ
    rw [t12, tns 13 (by decide) (by decide) (by decide) (by decide) (by decide) (by decide) (by decide) (by decide) (by decide), t15, tns 18 (by decide) (by decide) (by decide) (by decide) (by decide) (by decide) (by decide) (by decide) (by decide)]
  have p64 : ∀ j, s.1 15 3 ≤ j → j < 8 → t.1 7 j = 64 := fun j j0 j1 => by rw [t7, v3 j (by omega) j1]; exact rV2 j j0 j1
  have tsn : ∀ j, 0 ≤ j → j < 8 → t.1 10 j = s.1 43 (26 * n + 16 + j) := fun j a b => by
    have := zcp_in (f := s.1 43) (g := v.1 10) (a := 26 * n + 16) (b := 0) a b
    rw [Int.zero_add] at this
    rw [t10, this]
  refine INV_seen hI ⟨fun a ha => tns a (by omega) (by omega) (by omega) (by omega) (by omega) (by omega) (by omega) (by omega) (by omega), by rw [tns 1 (by decide) (by decide) (by decide) (by decide) (by decide) (by decide) (by decide) (by decide) (by decide)], ?_, ?_⟩ ⟨?_, ?_, ?_, ?_, ?_, ?_, p64, ?_, ?_⟩ ?_ ?_ ?_
  · rw [t63 2 (by decide) (by decide), cns 63 (by decide) (by decide) (by decide) (by decide) (by decide) (by decide)]
  · rw [t2, ← hc]
    show v.2 68 = s.2 68
    rw [v2]
  · intro j hj
    have e : ∀ i : Nat, i < (cQ s).2.2.2.1 → t.1 7 i = sh (26 * n) (s.1 43) i := fun i hi => by rw [t7, v3 i (by omega) (by omega), sh_at]
    rw [e j hj]
    exact okq_mono (fun i hi _ => e i hi) (rV1 j hj)
  · unfold scOK
    intro d d0 d1
    rw [tnv 9 (by decide) (by decide) (by decide) (by decide) (by decide), t7, v8 d d0 d1, t15]
    refine occ2_ext 8 (by omega) fun j j0 j1 => ?_
    have := p64 j (by omega) (by omega)
    rw [t7] at this
    rw [this, co_64]
    omega
  · intro j j0 j1
    rw [lo j j0 (by omega), t7, v3 j j0 j1]
    exact rE1 j j0 (by omega)
  · intro j j0 j1
    rw [lo _ (by omega) (by omega), t8, v5 j j0 j1, rE1 (8 + j) (by omega) (by omega), show 26 * n + (8 + j) = 26 * n + 8 + j by omega]
  · rw [lo _ (by decide) (by decide), t6, v6]; exact rE2
  · rw [lo _ (by decide) (by decide), t6, v7]; exact rE3
  · rw [t6, v6]; exact rV3
  · rw [t6, v7]; exact rV4
  · obtain ⟨n1, n2⟩ := sV
    refine ⟨fun j j0 j1 => ?_, fun j j0 j1 => ?_⟩
    · have := n1 j j0 j1
      rw [sh_at] at this
      rw [tsn j j0 j1]; exact this
    · have := hw.1.1
      have g2 := n2 j j0 j1
      rw [sh_at] at g2
      rw [tsn j (by omega) j1]; exact g2
  · intro j j0 j1
    rw [lo _ (by omega) (by omega), tsn j j0 j1, ← sE j j0 j1, show 28 * (1 + n) + 18 + j = 28 * (1 + n) + (18 + j) by omega]
  · have f2 : t.1 41 2 = s.1 41 2 := by rw [t41, zup_ne (by decide)]
    have f3 : t.1 41 3 = s.1 41 3 := by rw [t41, zup_ne (by decide)]
    have f4 : t.1 41 4 = 0 := by rw [t41, zup_same]
    refine ⟨by rw [t23, f4], by rw [f4]; decide, by rw [f3]; exact u3, fun i i0 i1 => ?_, by rw [f2]; exact u5, ?_⟩
    · rw [f4] at i1; omega
    · intro i i0 i1
      obtain ⟨y1, y2, y3⟩ := u6 i i0 i1
      rw [t79', f2]
      refine ⟨y1, y2, fun h => ?_⟩
      obtain ⟨⟨y4, y5, y6⟩, y7, y8, y9⟩ := y3 h
      refine ⟨⟨fun j j0 j1 => ?_, ?_, ?_⟩, ?_, fun x x0 x1 => ?_, ?_⟩
      · rw [hi _ (by omega), t43]; exact y4 j j0 j1
      · rw [hi _ (by omega), t43]; exact y5
      · rw [hi _ (by omega), t43]; exact y6
      · unfold rowV at y7 ⊢
        rw [eQ, t15, t43]; exact y7
      · rw [hi _ (by omega), t43]; exact y8 x x0 x1
      · unfold seenV at y9 ⊢
        rw [t12, t43]; exact y9
theorem q_mark (hN : 5000 ≤ N) (hI : INV k s) {n x : Int} : OKc k s (f163 N n x) (f291 N n x) := by
  by_cases h : 0 ≤ n ∧ n ≤ 3
  rotate_left
  · exact q_markBad hI h
  by_cases g : x = 0
  · subst g; exact q_markPut hN hI h.1 h.2
  · exact q_markGo hN hI h.1 h.2 g
end MARKGO

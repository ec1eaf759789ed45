/-! Promise 22: see answered alike; and what may change in what is SEEN. -/
section SEE
variable {N : Nat} {s u c m t : gI} {k : Int} {p q : Int → Int} {Q : Cf}
/-- roof, yard, laws and tape untouched -/
def statS (s t : gI) : Prop := (∀ a : Nat, (a = 2 ∨ (12 ≤ a ∧ a ≤ 26) ∨ a = 28 ∨ a = 29 ∨ (44 ≤ a ∧ a ≤ 62) ∨ a = 64 ∨ (69 ≤ a ∧ a ≤ 73)) → t.1 a = s.1 a) ∧ t.1 1 1 = s.1 1 1 ∧ t.1 63 2 = s.1 63 2 ∧ t.2 68 = s.2 68
theorem INV_seen {k2 : Int} (hI : INV k s) (h : statS s t) (hv : scnV k2 s t) (hsv : seenV s (t.1 10)) (hseen : ∀ x, 0 ≤ x → x < 8 → t.1 78 (18 + x) = t.1 10 x) (h5 : I5 k2 t) : INV k2 t := by
  obtain ⟨⟨⟨hco, hsc, hV, har, hwo⟩, hmo, hq, h8, r5⟩, i2, i3, i4, i5, i6, i7, l0, l1⟩ := hI
  obtain ⟨v1, v2, v3, v4, v5, v6, v7, v8, v9⟩ := hv
  have e2 := h.1 2 (by omega)
  have e12 := h.1 12 (by omega)
  have e13 := h.1 13 (by omega)
  have e14 := h.1 14 (by omega)
  have e15 := h.1 15 (by omega)
  have e16 := h.1 16 (by omega)
  have e18 := h.1 18 (by omega)
  have e19 := h.1 19 (by omega)
  have e20 := h.1 20 (by omega)
  have e22 := h.1 22 (by omega)
  have e23 := h.1 23 (by omega)
  have e24 := h.1 24 (by omega)
  have e25 := h.1 25 (by omega)
  have e26 := h.1 26 (by omega)
  have e28 := h.1 28 (by omega)
  have e29 := h.1 29 (by omega)
  have e64 := h.1 64 (by omega)
  have e69 := h.1 69 (by omega)
  have e70 := h.1 70 (by omega)
  have e71 := h.1 71 (by omega)
  have e72 := h.1 72 (by omega)
  have e73 := h.1 73 (by omega)
  have s1 := h.2.1
  have s2 := h.2.2.1
  have s3 : t.2 68 = s.2 68 := h.2.2.2
  have eQ : cQ t = cQ s := by unfold cQ; rw [e12, e13, e15, e18]
  have eM : mQ t = mQ s := by unfold mQ; rw [e69, e71]
  refine ⟨⟨⟨?_, v2, ?_, ?_, ?_⟩, ?_, ?_, ?_, ?_⟩, ?_, ?_, ?_, h5, ?_, ?_, ?_, ?_⟩
  · unfold cOK; rw [e12, e13, e15]; exact hco
  · rw [eQ]; exact v1
  · rw [e16]; exact har
  · unfold cWo; rw [e20]; exact hwo
  · unfold mOK; rw [e69, e71]; exact hmo
  · rw [eQ, eM]; exact hq
  · intro j h0 h1
    rw [sh_at, Int.zero_add]
    exact v3 j h0 h1
  · unfold mWo; rw [e71, e15, e16, e20]; exact r5
  · unfold I2
    refine ⟨v4, v5, v6, hseen, ?_, by rw [e15]; exact v7, v8, v9⟩
    unfold seenV at hsv ⊢
    rw [e12]
    exact hsv
  · unfold I3; rw [e15, e18, e19, e22, e23, e24, e71]; exact i3
  · unfold I4; rw [e14]; exact i4
  · unfold I6; rw [e2, e64, s1, s2]; exact i6
  · unfold I7 spr; rw [e70, s3, h.1 45 (by omega), h.1 46 (by omega), h.1 48 (by omega), h.1 50 (by omega), h.1 52 (by omega)]; exact i7
  · unfold lawR; rw [e71, e72, e73, e25, show (25 + 1 : Nat) = 26 from rfl, e26]; exact l0
  · unfold lawR; rw [e71, e72, e73, e28, show (28 + 1 : Nat) = 29 from rfl, e29]; exact l1
/-- the past where nothing of it changed -/
theorem I5_same (h : I5 k s) (h41 : t.1 41 = s.1 41) (h42 : t.1 42 = s.1 42) (h43 : t.1 43 = s.1 43) (h79 : t.1 79 = s.1 79) (h78 : ∀ j, 28 ≤ j → t.1 78 j = s.1 78 j) (h63 : t.1 63 23 = s.1 63 23)
    (eQ : cQ t = cQ s) (e15 : t.1 15 = s.1 15) (e12 : t.1 12 = s.1 12) : I5 k t := by
  obtain ⟨u1, u2, u3, u4, u5, u6⟩ := h
  have rE : ∀ (c : Nat) (row b : Int), t.1 c = s.1 c → 28 ≤ b → rowE s c row b → rowE t c row b := by
    intro c row b ec hb he
    refine ⟨fun j j0 j1 => ?_, ?_, ?_⟩
    · rw [h78 _ (by omega), ec]; exact he.1 j j0 j1
    · rw [h78 _ (by omega), ec]; exact he.2.1
    · rw [h78 _ (by omega), ec]; exact he.2.2
  have rV : ∀ (c : Nat) (row : Int), t.1 c = s.1 c → rowV k s c row → rowV k t c row := by
    intro c row ec he
    unfold rowV at he ⊢
    rw [eQ, e15, ec]
    exact he
  refine ⟨by rw [h63, h41]; exact u1, by rw [h41]; exact u2, by rw [h41]; exact u3, ?_, by rw [h41]; exact u5, ?_⟩
  · intro i i0 i1
    rw [h41] at i1 ⊢
    have := u4 i i0 i1
    exact ⟨rE 42 _ _ h42 (by omega) this.1, rV 42 _ h42 this.2⟩
  · intro i i0 i1
    obtain ⟨w1, w2, w3⟩ := u6 i i0 i1
    rw [h79, h41]
    refine ⟨w1, w2, fun h => ?_⟩
    obtain ⟨w4, w5, w6, w7⟩ := w3 h
    refine ⟨rE 43 _ _ h43 (by omega) w4, rV 43 _ h43 w5, fun x x0 x1 => ?_, ?_⟩
    · rw [h78 _ (by omega), h43]; exact w6 x x0 x1
    · unfold seenV at w7 ⊢
      rw [e12, h43]
      exact w7
theorem q_see (hI : INV k s) {x w : Int} : OKc k s (f156 N x w) (f276 N x w) := by
  obtain ⟨e0, e1, e2, e3, e4⟩ := INV_eq hI
  have hw := hI.1.1.1
  obtain ⟨⟨hW0, hW⟩, ⟨hD0, hD⟩, -, -⟩ := id hw
  have a69 : (iw s 63 0 0).1 69 = s.1 69 := iw63 (by decide)
  by_cases h : (0 ≤ x ∧ x < s.1 12 0) ∧ -2 ≤ w ∧ w ≤ 3
  rotate_left
  · refine OKc.q hI (x := 0) (s1 := s) (s2 := iw s 63 0 0) ?_ ?_ sameQ_thrown
    · unfold f156
      rw [ib1_ok (Or.inl rfl)]
      by_cases g : x < 0
      · rw [if_pos g]
      rw [if_neg g]
      by_cases g1 : s.1 12 0 ≤ x
      · rw [if_pos g1]
      rw [if_neg g1]
      by_cases g2 : w < -2
      · rw [if_pos g2]
      · rw [if_neg g2, if_neg (by omega)]
    · unfold f276
      dsimp only
      rw [ib1_ok (Or.inl rfl)]
      by_cases g : x < 0
      · rw [if_pos g]
      rw [if_neg g, m_wide, i_o2_some, a69, e0]
      by_cases g1 : s.1 12 0 ≤ x
      · rw [if_pos g1, ib1_ok (Or.inl rfl)]
      rw [if_neg g1, m_within, i_o2_some, if_neg (show ¬ (-2 ≤ w ∧ w ≤ 3) by omega), if_pos rfl, ib1_ok (Or.inl rfl)]
  obtain ⟨⟨x0, x1⟩, w0, w1⟩ := h
  have cfin : f156 N x w s = some (1, iw s 10 x w) := by
    unfold f156
    rw [if_neg (by omega), if_neg (by omega), if_neg (by omega), if_pos w1, ick_ok (by omega) (by omega), ib1_ok (Or.inr rfl)]
  have b69 : (iw (iw s 10 x w) 63 0 0).1 69 = s.1 69 := by rw [iw_ne (by decide), iw_ne (by decide)]
  have mfin : f276 N x w (iw s 10 x w) = some (1, iw (iw (iw s 10 x w) 63 0 0) 78 (18 + x) w) := by
    unfold f276
    dsimp only
    rw [if_neg (by omega), m_wide, i_o2_some, b69, e0, if_neg (by omega), m_within, i_o2_some, if_pos (show -2 ≤ w ∧ w ≤ 3 from ⟨w0, w1⟩), if_neg (by decide), iov_ok (by omega) (by omega), ick_ok (by omega) (by omega), ib1_ok (Or.inr rfl)]
  refine ⟨1, _, _, cfin, mfin, INV_mono (k := k) (by omega) ?_⟩
  generalize ht : iw (iw (iw s 10 x w) 63 0 0) 78 (18 + x) w = t
  have tne : ∀ a : Nat, a ≠ 10 → a ≠ 63 → a ≠ 78 → t.1 a = s.1 a := fun a a1 a2 a3 => by rw [← ht, iw_ne a3, iw_ne a2, iw_ne a1]
  have t10 : t.1 10 = zup (s.1 10) x w := by rw [← ht, iw_ne (by decide), iw_ne (by decide), iw_at]
  have t78 : t.1 78 = zup (s.1 78) (18 + x) w := by rw [← ht, iw_at, iw_ne (by decide), iw_ne (by decide)]
  have t63 : ∀ i, i ≠ 0 → t.1 63 i = s.1 63 i := fun i h => by rw [← ht, iw_ne (by decide), iw_at, zup_ne h, iw_ne (by decide)]
  have i2 := hI.2.1
  have eQ : cQ t = cQ s := by
    unfold cQ
    rw [tne 12 (by decide) (by decide) (by decide), tne 13 (by decide) (by decide) (by decide), tne 15 (by decide) (by decide) (by decide), tne 18 (by decide) (by decide) (by decide)]
  refine INV_seen hI ⟨fun a ha => ?_, ?_, ?_, ?_⟩ ⟨?_, ?_, ?_, ?_, ?_, ?_, ?_, ?_, ?_⟩ ?_ ?_ ?_
  · exact tne a (by omega) (by omega) (by omega)
  · rw [tne 1 (by decide) (by decide) (by decide)]
  · exact t63 2 (by decide)
  · rw [← ht]; rfl
  · rw [tne 7 (by decide) (by decide) (by decide)]; exact hI.1.1.2.2.1
  · have sc := hI.1.1.2.1
    unfold scOK at sc ⊢
    rw [tne 9 (by decide) (by decide) (by decide), tne 7 (by decide) (by decide) (by decide), tne 15 (by decide) (by decide) (by decide)]
    exact sc
  · intro j j0 j1
    rw [t78, zup_ne (by omega), tne 7 (by decide) (by decide) (by decide)]
    exact e4 j j0 j1
  · intro j j0 j1
    rw [t78, zup_ne (by omega), tne 8 (by decide) (by decide) (by decide)]
    exact i2.1 j j0 j1
  · rw [t78, zup_ne (by omega), tne 6 (by decide) (by decide) (by decide)]; exact i2.2.1
  · rw [t78, zup_ne (by omega), tne 6 (by decide) (by decide) (by decide)]; exact i2.2.2.1
  · rw [tne 7 (by decide) (by decide) (by decide)]; exact i2.2.2.2.2.2.1
  · rw [tne 6 (by decide) (by decide) (by decide)]; exact i2.2.2.2.2.2.2.1
  · rw [tne 6 (by decide) (by decide) (by decide)]; exact i2.2.2.2.2.2.2.2
  · obtain ⟨n1, n2⟩ := i2.2.2.2.2.1
    rw [t10]
    refine ⟨fun j j0 j1 => ?_, fun j j0 j1 => ?_⟩
    · by_cases h : j = x
      · subst h; rw [zup_same]; exact ⟨w0, w1⟩
      · rw [zup_ne h]; exact n1 j j0 j1
    · rw [zup_ne (by omega)]; exact n2 j j0 j1
  · intro j j0 j1
    rw [t78, t10]
    by_cases h : j = x
    · subst h; rw [zup_same, zup_same]
    · rw [zup_ne (by omega), zup_ne h]; exact i2.2.2.2.1 j j0 j1
  · exact I5_same hI.2.2.2.2.1 (tne 41 (by decide) (by decide) (by decide)) (tne 42 (by decide) (by decide) (by decide)) (tne 43 (by decide) (by decide) (by decide)) (tne 79 (by decide) (by decide) (by decide)) (fun j j0 => by rw [t78, zup_ne (by omega)]) (t63 23 (by decide)) eQ (tne 15 (by decide) (by decide) (by decide)) (tne 12 (by decide) (by decide) (by decide))
end SEE

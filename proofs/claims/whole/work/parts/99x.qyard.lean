/-! Promise 4: yard answered alike; the whole of it. -/
section QYARD
variable {N : Nat} {s v u s2 t0 t2 y x z v0 : gI} {k n : Int} {F : Int → Int} {i : Nat} {R O A M Z : Int → Int}
/-- a law taken over -/
theorem lawR_of {w : Int} {lc : Nat} {l C m o g : Int → Int} {cc : Int} (h : yW w l C m o g cc) (hc : cc ≤ 1000) (e1 : u.1 lc = l) (e2 : u.1 (lc + 1) = C) (h71 : u.1 71 (8 + w) = m (78 + w)) (hO : ∀ j, 0 ≤ j → j < cc → u.1 72 j = o (1100 + j) ∧ u.1 73 j = g (1100 + j)) : lawR u w lc := by
  unfold lawR
  rw [e1, e2, h71]
  rcases h with h | ⟨a1, a2, a3, a4, a5, a6, a7⟩
  · exact Or.inl h
  · refine Or.inr ⟨a1, a2, a3, by omega, ?_, fun i i0 i1 => ?_, a7⟩
    · rw [(hO _ (by omega) (by omega)).1, show (1100 : Int) + (m (78 + w) + l 2) = 1100 + m (78 + w) + l 2 by omega]
      exact a5
    · rw [(hO _ (by omega) (by omega)).1, (hO _ (by omega) (by omega)).2, show (1100 : Int) + (m (78 + w) + i) = 1100 + m (78 + w) + i by omega]
      exact a6 i i0 i1
/-- what was read told by the rows in use -/
theorem RY_yard (hR : RY s) (hP : yP (s2.1 47) (s2.1 48) (t2.1 71)) (hT : yT (s2.1 47) (s2.1 50) (s2.1 51) (s2.1 52) (t2.1 71)) (hs : spY s2) (e12 : u.1 12 = s.1 12) (e13 : u.1 13 = s.1 13) (e69 : ∀ j, j < 70 → u.1 69 j = s.1 69 j) (e15 : u.1 15 = s2.1 47) (e16 : u.1 16 = s2.1 48) (e18 : u.1 18 = s2.1 50) (e20 : u.1 20 = s2.1 52) (e71 : ∀ j, 0 ≤ j → j < 70 → u.1 71 j = t2.1 71 (70 + j)) : RY u := by
  obtain ⟨c1, c2, c3, c4, c5, c6⟩ := hR
  obtain ⟨p1, p2, p3⟩ := hP
  obtain ⟨t1, tt2, t3, t4⟩ := hT
  obtain ⟨q1, q2, q3, q4, q5⟩ := c3
  have m1 : u.1 71 1 = s2.1 47 3 := by rw [e71 1 (by decide) (by decide)]; exact t1
  refine ⟨?_, ?_, ⟨?_, ?_, ?_, fun c hc => ?_, fun t ht => ?_⟩, ?_, ?_, ?_, ?_, ?_, fun i i0 i1 => ?_, fun t i0 i1 => ?_, fun t i0 i1 => ?_⟩
  · unfold cOK
    rw [e12, e13, e15]
    exact ⟨c1.1, c1.2.1, tt2, c1.2.2.2⟩
  · unfold mOK
    rw [e69 0 (by decide), e69 1 (by decide), m1]
    exact ⟨c2.1, c2.2.1, tt2⟩
  · show u.1 12 0 = u.1 69 0
    rw [e12, e69 0 (by decide)]; exact q1
  · show u.1 12 1 = u.1 69 1
    rw [e12, e69 1 (by decide)]; exact q2
  · show (u.1 15 3).toNat = (u.1 71 1).toNat
    rw [e15, m1]
  · obtain ⟨d0, d1, d2, d3⟩ := hc
    have d2 : c % 8 < u.1 12 0 := d2
    have d3 : c / 8 < u.1 12 1 := d3
    rw [e12] at d2 d3
    show u.1 13 c = u.1 69 (2 + c)
    rw [e13, e69 _ (by omega)]
    exact q4 c ⟨d0, d1, d2, d3⟩
  · have ht : t < (u.1 15 3).toNat := ht
    rw [e15] at ht
    show u.1 18 t = u.1 71 (14 + 3 * t)
    rw [e18, e71 _ (by omega) (by omega), show (70 : Int) + (14 + 3 * t) = 84 + 3 * t by omega]
    exact ((t3 t (by omega) (by omega)).1).symm
  · rw [e16]; exact hs.1
  · unfold cWo
    rw [e20]
    exact fun t a b => (hs.2 t a b).2
  · rw [e71 0 (by decide) (by decide), e15]; exact p1
  · rw [e15]; exact p2
  · rw [m1, e15]
  · rw [e15] at i1
    rw [e71 _ (by omega) (by omega), e16, show (70 : Int) + (10 + i) = 80 + i by omega]
    exact p3 i i0 i1
  · rw [e15] at i1
    rw [e71 _ (by omega) (by omega), e20, show (70 : Int) + (14 + 3 * t + 2) = 84 + 3 * t + 2 by omega]
    exact (t3 t i0 i1).2.2.2
  · rw [e71 _ (by omega) (by omega), show (70 : Int) + (14 + 3 * t + 2) = 84 + 3 * t + 2 by omega]
    exact t4 t i0 i1
theorem I3_yard (hT : yT (s2.1 47) (s2.1 50) (s2.1 51) (s2.1 52) (t2.1 71)) (hS : yS (s2.1 47) (s2.1 54) (s2.1 55) (s2.1 56) (t2.1 71)) (hL : yL (s2.1 47) (t2.1 71)) (hs : spY s2) (e15 : u.1 15 = s2.1 47) (e18 : u.1 18 = s2.1 50) (e19 : u.1 19 = s2.1 51) (e22 : u.1 22 = s2.1 54) (e23 : u.1 23 = s2.1 55) (e24 : u.1 24 = s2.1 56) (e71 : ∀ j, 0 ≤ j → j < 70 → u.1 71 j = t2.1 71 (70 + j)) : I3 u := by
  obtain ⟨t1, tt2, t3, t4⟩ := hT
  obtain ⟨a1, a2, a3⟩ := hS
  unfold I3
  rw [e15, e18, e19, e22, e23, e24, e71 2 (by decide) (by decide), e71 3 (by decide) (by decide), e71 4 (by decide) (by decide), e71 5 (by decide) (by decide), e71 6 (by decide) (by decide), e71 7 (by decide) (by decide)]
  refine ⟨fun t a b => (hs.2 t a b).1, fun t a b => ?_, a1, a2, fun i a b => ?_, hL⟩
  · rw [e71 _ (by omega) (by omega), show (70 : Int) + (14 + 3 * t + 1) = 84 + 3 * t + 1 by omega]
    exact ⟨(t3 t a b).2.1, (t3 t a b).2.2.1.1, (t3 t a b).2.2.1.2⟩
  · rw [e71 (38 + 4 * i) (by omega) (by omega), e71 (38 + 4 * i + 1) (by omega) (by omega), e71 (38 + 4 * i + 2) (by omega) (by omega), e71 (38 + 4 * i + 3) (by omega) (by omega), show (70 : Int) + (38 + 4 * i) = 108 + 4 * i by omega, show (70 : Int) + (38 + 4 * i + 1) = 108 + 4 * i + 1 by omega, show (70 : Int) + (38 + 4 * i + 2) = 108 + 4 * i + 2 by omega, show (70 : Int) + (38 + 4 * i + 3) = 108 + 4 * i + 3 by omega]
    exact a3 i a b
theorem q_yard (hN : 5000 ≤ N) (hk : 0 ≤ k) (hI : INV k s) : OKr k s (f136 N) (f199 N) swY i_rhoY := by
  obtain ⟨t1, tt2, t3⟩ := hI.2.2.2.2.2.1
  obtain ⟨w1, w2, w3⟩ := hI.2.2.2.2.2.2.1
  have hT : tpF (s.1 2) (s.1 1 1) := ⟨tt2, fun j a b => (t3 j a b).2⟩
  obtain ⟨v0, b1, b2, b3, b4, b5, b6, b7, b8, b9⟩ := c_beginY (N := N) (s := s) hN hT rfl rfl
  have sp0 : spY v0 := by
    unfold spY
    rw [b7, b8, b9]
    exact w3.2
  -- the reference, wherever it begins
  have mrun : ∀ w : gI, w.1 63 2 = s.1 63 2 → w.1 64 = s.1 64 → w.2 68 = s.2 68 → ∃ b s2 t0 t2, f120 N s = some (b, s2) ∧ f199 N w = f199_at62 N t2 ∧ ((∀ a : Nat, a ≠ 63 → a ≠ 65 → a ≠ 66 → a ≠ 71 → t0.1 a = w.1 a) ∧ (∀ a : Nat, a ≠ 67 → t0.2 a = w.2 a) ∧ (∀ j, j < 70 → t0.1 71 j = w.1 71 j) ∧ t0.1 63 23 = w.1 63 23) ∧ t0.1 63 2 = 0 ∧ YE (s.1 2) (s.1 1 1) v0 t0 b s2 t2 := fun w e2 e64 e68 => by
    obtain ⟨t0, m1, m2, m3, m4, m5, m6, m7, m8, m9⟩ := m_beginY (N := N) (s := w) (n := s.1 1 1) (F := s.1 2) hN hT (by rw [e2]; exact t1) (fun j a b => by rw [e64]; exact (t3 j a b).1) (fun j hj => by rw [e68]; exact w1 j hj)
    obtain ⟨b, s2, t2, x1, x2, x3⟩ := y_lines (N := N) hN hT (s.1 1 1 + 2).toNat N N 0 0 v0 t0 (LSt_0 b3 m3 b4 b5 b6 sp0 m4 m5 m6 m7 m8) (by omega) (by decide) (by decide) (by omega) (by omega)
    exact ⟨b, s2, t0, t2, by rw [b1]; exact x1, by rw [m1]; exact x2, m2, m9, x3⟩
  obtain ⟨b, s2, t0', t2', c1, -, -, -, f1, -, sp2, hb⟩ := mrun s rfl rfl rfl
  have hb01 : b = 0 ∨ b = 1 := by
    rcases hb with ⟨h, -⟩ | ⟨h, -⟩
    · exact Or.inr h
    · exact Or.inl h
  clear hb
  have fs := b2.tr f1
  have sne : ∀ a : Nat, a ≠ 1 → a ≠ 3 → a ≠ 4 → a ≠ 5 → (a < 47 ∨ 62 < a) → s2.1 a = s.1 a := fs.1
  have sl : ∀ a : Nat, a ≠ 49 → a ≠ 53 → s2.2 a = s.2 a := fs.2
  generalize hv : iw s2 1 1 0 = v
  have v1 : v.1 1 1 = 0 := by rw [← hv, iw_at, zup_same]
  have v17 : v.1 1 7 = s2.1 1 7 := by rw [← hv, iw_at, zup_ne (by decide)]
  have vs : ∀ a : Nat, a ≠ 1 → v.1 a = s2.1 a := fun a q1 => by rw [← hv, iw_ne q1]
  have vl : v.2 = s2.2 := by rw [← hv]; rfl
  have vne : ∀ a : Nat, a ≠ 1 → a ≠ 3 → a ≠ 4 → a ≠ 5 → (a < 47 ∨ 62 < a) → v.1 a = s.1 a := fun a q1 q2 q3 q4 q5 => by rw [vs a q1, sne a q1 q2 q3 q4 q5]
  have e136 : f136 N s = i_o2 (some (b, s2)) fun i2 s1 => if i2 = 0 then some ((iw s1 1 1 0).1 1 7, iw s1 1 1 0, g_rho) else i_o1 (f165 N (iw s1 1 1 0)) fun s4 => some ((0 : Int), s4, i_rhoY) := by
    unfold f136
    rw [c1]
  rw [i_o2_some, hv] at e136
  clear hv
  rcases hb01 with hb | hb <;> subst hb
  · rw [if_pos rfl, v17] at e136
    obtain ⟨b', s2', t0, u, x1, x2, ⟨x3, x4, x5, x6⟩, x7, -, f2, -, y2⟩ := mrun v (by rw [vne 63 (by decide) (by decide) (by decide) (by decide) (by decide)]) (vne 64 (by decide) (by decide) (by decide) (by decide) (by decide)) (by rw [vl, sl 68 (by decide) (by decide)])
    rw [c1] at x1
    cases x1
    have hB : mBad (s2.1 1 7) u := by
      rcases y2 with ⟨h, -⟩ | ⟨-, h⟩
      · exact absurd h (by decide)
      · exact h
    have un : ∀ a : Nat, a ≠ 63 → a ≠ 65 → a ≠ 66 → a ≠ 71 → a ≠ 72 → a ≠ 73 → a ≠ 75 → u.1 a = v.1 a := fun a q1 q2 q3 q4 q5 q6 q7 => by rw [f2.1 a q1 q4 q5 q6 q7, x3 a q1 q2 q3 q4]
    have u11 : u.1 1 1 = 0 := by rw [un 1 (by decide) (by decide) (by decide) (by decide) (by decide) (by decide) (by decide)]; exact v1
    refine ⟨_, v, g_rho, u, e136, Or.inl ⟨rfl, ?_⟩, INV_mono (k := k) (by omega) ?_⟩
    · rw [x2]
      unfold f199_at62
      rw [hB.1, if_neg (by have := hB.2.1; omega)]
    · refine INV_vain hI (fun a ha => by rw [un a (by omega) (by omega) (by omega) (by omega) (by omega) (by omega) (by omega), vne a (by omega) (by omega) (by omega) (by omega) (by omega)]) ?_ (fun j _ => by rw [un 78 (by decide) (by decide) (by decide) (by decide) (by decide) (by decide) (by decide), vne 78 (by decide) (by decide) (by decide) (by decide) (by decide)]) (fun j _ => by rw [un 69 (by decide) (by decide) (by decide) (by decide) (by decide) (by decide) (by decide), vne 69 (by decide) (by decide) (by decide) (by decide) (by decide)]) (fun j hj => by rw [f2.2.2.1 j hj, x5 j hj, vne 71 (by decide) (by decide) (by decide) (by decide) (by decide)]) (fun j hj => by rw [(f2.2.2.2.1 j hj).1, x3 72 (by decide) (by decide) (by decide) (by decide), vne 72 (by decide) (by decide) (by decide) (by decide) (by decide)]) (fun j hj => by rw [(f2.2.2.2.1 j hj).2, x3 73 (by decide) (by decide) (by decide) (by decide), vne 73 (by decide) (by decide) (by decide) (by decide) (by decide)]) (by rw [f2.2.1 68 (by decide), x4 68 (by decide), vl, sl 68 (by decide) (by decide)]) ?_ ?_
      · rw [f2.2.2.2.2 23 (by decide) (by decide) (by decide) (by decide) (by decide), x6, vne 63 (by decide) (by decide) (by decide) (by decide) (by decide)]
      · refine ⟨?_, by rw [u11]; decide, fun j a b => by rw [u11] at b; omega⟩
        rw [u11, f2.2.2.2.2 2 (by decide) (by decide) (by decide) (by decide) (by decide)]
        exact x7
      · refine ⟨fun c a b => ?_, ?_, ?_⟩
        · rw [un 46 (by decide) (by decide) (by decide) (by decide) (by decide) (by decide) (by decide), un 45 (by decide) (by decide) (by decide) (by decide) (by decide) (by decide) (by decide), vne 46 (by decide) (by decide) (by decide) (by decide) (by decide), vne 45 (by decide) (by decide) (by decide) (by decide) (by decide)]
          exact w3.1 c a b
        · rw [un 48 (by decide) (by decide) (by decide) (by decide) (by decide) (by decide) (by decide), vs 48 (by decide)]
          exact sp2.1
        · rw [un 50 (by decide) (by decide) (by decide) (by decide) (by decide) (by decide) (by decide), un 52 (by decide) (by decide) (by decide) (by decide) (by decide) (by decide) (by decide), vs 50 (by decide), vs 52 (by decide)]
          exact sp2.2
  obtain ⟨P, Th, Wh, Se, Y, a1, a2, a3, a4, a5⟩ := c_anew (N := N) (s := v) hN
  rw [if_neg (by decide), a1, i_o1_some] at e136
  generalize hx : iw (iw (ic (ic (ic (ic (ic v 7 P) 8 Th) 9 Wh) 10 Se) 6 Y) 41 2 0) 41 4 0 = x at e136
  have x7 : x.1 7 = P := by rw [← hx, iw_ne (by decide), iw_ne (by decide), ic_ne (by decide), ic_ne (by decide), ic_ne (by decide), ic_ne (by decide), ic_at]
  have x8 : x.1 8 = Th := by rw [← hx, iw_ne (by decide), iw_ne (by decide), ic_ne (by decide), ic_ne (by decide), ic_ne (by decide), ic_at]
  have x9 : x.1 9 = Wh := by rw [← hx, iw_ne (by decide), iw_ne (by decide), ic_ne (by decide), ic_ne (by decide), ic_at]
  have x10 : x.1 10 = Se := by rw [← hx, iw_ne (by decide), iw_ne (by decide), ic_ne (by decide), ic_at]
  have x6 : x.1 6 = Y := by rw [← hx, iw_ne (by decide), iw_ne (by decide), ic_at]
  have xne : ∀ a : Nat, a ≠ 7 → a ≠ 8 → a ≠ 9 → a ≠ 10 → a ≠ 6 → a ≠ 41 → x.1 a = v.1 a := fun a b1 b2 b3 b4 b5 b6 => by rw [← hx, iw_ne b6, iw_ne b6, ic_ne b5, ic_ne b4, ic_ne b3, ic_ne b2, ic_ne b1]
  have x412 : x.1 41 2 = 0 := by rw [← hx, iw_at, zup_ne (by decide), iw_at, zup_same]
  have x414 : x.1 41 4 = 0 := by rw [← hx, iw_at, zup_same]
  have x413 : x.1 41 3 = s.1 41 3 := by rw [← hx, iw_at, zup_ne (by decide), iw_at, zup_ne (by decide), ic_ne (by decide), ic_ne (by decide), ic_ne (by decide), ic_ne (by decide), ic_ne (by decide), vne 41 (by decide) (by decide) (by decide) (by decide) (by decide)]
  have xl : x.2 = s2.2 := by rw [← hx, ← vl]; rfl
  clear hx a1
  have x11 : x.1 1 1 = 0 := by rw [xne 1 (by decide) (by decide) (by decide) (by decide) (by decide) (by decide)]; exact v1
  have xs2 : ∀ a : Nat, a ≠ 7 → a ≠ 8 → a ≠ 9 → a ≠ 10 → a ≠ 6 → a ≠ 41 → a ≠ 1 → x.1 a = s2.1 a := fun a b1 b2 b3 b4 b5 b6 b7 => by rw [xne a b1 b2 b3 b4 b5 b6, vs a b7]
  have rid : ∀ a : Nat, (a < 15 ∨ 30 < a) → (a < 47 ∨ 62 < a) → (rn swY x).1 a = x.1 a := fun a h1 h2 => by
    show x.1 (swY a) = x.1 a
    unfold swY
    rw [if_neg (by omega), if_neg (by omega)]
  have rl : ∀ a : Nat, (a < 15 ∨ 30 < a) → (a < 47 ∨ 62 < a) → (rn swY x).2 a = s.2 a := fun a h1 h2 => by
    show x.2 (swY a) = s.2 a
    unfold swY
    rw [if_neg (by omega), if_neg (by omega), xl]
    exact sl a (by omega) (by omega)
  -- what was spare is in use
  have yin : ∀ a : Nat, 15 ≤ a → a ≤ 30 → (rn swY x).1 a = s2.1 (a + 32) := fun a h1 h2 => by
    show x.1 (swY a) = _
    unfold swY
    rw [if_pos ⟨h1, h2⟩]
    exact xs2 _ (by omega) (by omega) (by omega) (by omega) (by omega) (by omega) (by omega)
  have yout : ∀ a : Nat, 47 ≤ a → a ≤ 62 → (rn swY x).1 a = s.1 (a - 32) := fun a h1 h2 => by
    show x.1 (swY a) = _
    unfold swY
    rw [if_neg (by omega), if_pos ⟨h1, h2⟩, xs2 _ (by omega) (by omega) (by omega) (by omega) (by omega) (by omega) (by omega)]
    exact sne _ (by omega) (by omega) (by omega) (by omega) (by omega)
  have ys : ∀ a : Nat, (a < 15 ∨ 30 < a) → (a < 47 ∨ 62 < a) → (a < 3 ∨ 10 < a) → a ≠ 41 → a ≠ 1 → (rn swY x).1 a = s.1 a := fun a h1 h2 h3 h4 h5 => by rw [rid a h1 h2, xs2 a (by omega) (by omega) (by omega) (by omega) (by omega) h4 h5, sne a h5 (by omega) (by omega) (by omega) h2]
  generalize hy : rn swY x = y at *
  obtain ⟨b', s2', t0, t2, d1, d2, ⟨d3, d4, d5, d6⟩, d7, -, f2, -, y2⟩ := mrun y (by rw [ys 63 (by decide) (by decide) (by decide) (by decide) (by decide)]) (ys 64 (by decide) (by decide) (by decide) (by decide) (by decide)) (rl 68 (by decide) (by decide))
  rw [c1] at d1
  cases d1
  have hE : ∃ j, LSt (s.1 2) (s.1 1 1) j s2 t2 := by
    rcases y2 with ⟨-, h⟩ | ⟨h, -⟩
    · exact h
    · exact absurd h (by decide)
  obtain ⟨j, hc, hm, ⟨hYP, hYT, hYS, hYL, hW0, hW1, -, -⟩, hcd, -⟩ := hE
  have i1 := (mAt_i hT hm).1
  obtain ⟨R, p1, p2, p3⟩ := m_copy71 (N := N) 70 N 0 t2 (by decide) (by decide) (by omega)
  obtain ⟨O, A, o1, o2, -⟩ := m_copyC (N := N) (c := t2.1 63 15) (by omega) (t2.1 63 15).toNat N 0 (ic t2 71 R) (by rw [ic_ne (by decide)]) (by decide) (by omega) (by omega)
  obtain ⟨M, Z, g1, g2, g3, g4, g5⟩ := m_begins (N := N) (s := ic (ic (ic t2 71 R) 72 O) 73 A) hN
  generalize hz : ic (iw (ic (ic (ic (ic t2 71 R) 72 O) 73 A) 78 M) 63 23 0) 79 Z = z at g1
  have mfin : f199 N y = some (0, z) := by
    rw [d2]
    unfold f199_at62
    rw [if_pos (by rw [hm.2.2.1]; decide), p1, o1, g1, i_o1_some]
  have zt : ∀ a : Nat, a ≠ 63 → a ≠ 71 → a ≠ 72 → a ≠ 73 → a ≠ 78 → a ≠ 79 → z.1 a = t2.1 a := fun a q1 q2 q3 q4 q5 q6 => by rw [← hz, ic_ne q6, iw_ne q1, ic_ne q5, ic_ne q4, ic_ne q3, ic_ne q2]
  have z71 : z.1 71 = R := by rw [← hz, ic_ne (by decide), iw_ne (by decide), ic_ne (by decide), ic_ne (by decide), ic_ne (by decide), ic_at]
  have z72 : z.1 72 = O := by rw [← hz, ic_ne (by decide), iw_ne (by decide), ic_ne (by decide), ic_ne (by decide), ic_at]
  have z73 : z.1 73 = A := by rw [← hz, ic_ne (by decide), iw_ne (by decide), ic_ne (by decide), ic_at]
  have z78 : z.1 78 = M := by rw [← hz, ic_ne (by decide), iw_ne (by decide), ic_at]
  have z79 : z.1 79 = Z := by rw [← hz, ic_at]
  have z6323 : z.1 63 23 = 0 := by rw [← hz, ic_ne (by decide), iw_at, zup_same]
  have z632 : z.1 63 2 = 0 := by
    rw [← hz, ic_ne (by decide), iw_at, zup_ne (by decide), ic_ne (by decide), ic_ne (by decide), ic_ne (by decide), ic_ne (by decide), f2.2.2.2.2 2 (by decide) (by decide) (by decide) (by decide) (by decide)]
    exact d7
  have zl : ∀ a : Nat, a ≠ 67 → a ≠ 74 → z.2 a = y.2 a := fun a q1 q2 => by
    have : z.2 = t2.2 := by rw [← hz]; rfl
    rw [this, f2.2.1 a q2, d4 a q1]
  clear hz g1
  have zy : ∀ a : Nat, a ≠ 63 → a ≠ 65 → a ≠ 66 → a ≠ 71 → a ≠ 72 → a ≠ 73 → a ≠ 75 → a ≠ 78 → a ≠ 79 → z.1 a = y.1 a := fun a q1 q2 q3 q4 q5 q6 q7 q8 q9 => by rw [zt a q1 q4 q5 q6 q8 q9, f2.1 a q1 q4 q5 q6 q7, d3 a q1 q2 q3 q4]
  have zin : ∀ a : Nat, 15 ≤ a → a ≤ 30 → z.1 a = s2.1 (a + 32) := fun a h1 h2 => by rw [zy a (by omega) (by omega) (by omega) (by omega) (by omega) (by omega) (by omega) (by omega) (by omega), yin a h1 h2]
  have zout : ∀ a : Nat, 47 ≤ a → a ≤ 62 → z.1 a = s.1 (a - 32) := fun a h1 h2 => by rw [zy a (by omega) (by omega) (by omega) (by omega) (by omega) (by omega) (by omega) (by omega) (by omega), yout a h1 h2]
  have zs : ∀ a : Nat, (a < 15 ∨ 30 < a) → (a < 47 ∨ 62 < a) → (a < 3 ∨ 10 < a) → a ≠ 41 → a ≠ 1 → a ≠ 63 → a ≠ 65 → a ≠ 66 → (a < 71 ∨ 79 < a) → z.1 a = s.1 a := fun a h1 h2 h3 h4 h5 q1 q2 q3 q4 => by rw [zy a q1 q2 q3 (by omega) (by omega) (by omega) (by omega) (by omega) (by omega), ys a h1 h2 h3 h4 h5]
  have zx : ∀ a : Nat, a < 15 → z.1 a = x.1 a := fun a h => by rw [zy a (by omega) (by omega) (by omega) (by omega) (by omega) (by omega) (by omega) (by omega) (by omega), ← rid a (by omega) (by omega)]
  have e71 : ∀ j, 0 ≤ j → j < 70 → z.1 71 j = t2.1 71 (70 + j) := fun j a b => by rw [z71]; exact p2 j a b
  have eO : ∀ j, 0 ≤ j → j < t2.1 63 15 → z.1 72 j = t2.1 72 (1100 + j) ∧ z.1 73 j = t2.1 73 (1100 + j) := fun j a b => by
    have := o2 j a b
    rw [ic_ne (by decide), ic_ne (by decide)] at this
    rw [z72, z73]
    exact this
  have ry := hI.1.ry
  have i3 := hI.2.2.1
  have i5 := hI.2.2.2.2.1
  refine ⟨0, x, i_rhoY, z, e136, Or.inr ⟨rfl, by rw [hy]; exact mfin⟩, INV_anew (by omega) (RY_yard ry hYP hYT sp2 (zs 12 (by decide) (by decide) (by decide) (by decide) (by decide) (by decide) (by decide) (by decide) (by decide)) (zs 13 (by decide) (by decide) (by decide) (by decide) (by decide) (by decide) (by decide) (by decide) (by decide)) (fun j _ => by rw [zs 69 (by decide) (by decide) (by decide) (by decide) (by decide) (by decide) (by decide) (by decide) (by decide)]) (zin 15 (by decide) (by decide)) (zin 16 (by decide) (by decide)) (zin 18 (by decide) (by decide)) (zin 20 (by decide) (by decide)) e71) (I3_yard hYT hYS hYL sp2 (zin 15 (by decide) (by decide)) (zin 18 (by decide) (by decide)) (zin 19 (by decide) (by decide)) (zin 22 (by decide) (by decide)) (zin 23 (by decide) (by decide)) (zin 24 (by decide) (by decide)) e71) ?_ ?_ ?_ ?_ ?_ ?_⟩
  · intro c a b
    rw [zs 14 (by decide) (by decide) (by decide) (by decide) (by decide) (by decide) (by decide) (by decide) (by decide)]
    exact hI.2.2.2.1 c a b
  · have z11 : z.1 1 1 = 0 := by rw [zx 1 (by decide)]; exact x11
    refine ⟨by rw [z632, z11], by rw [z11]; decide, fun j a b => by rw [z11] at b; omega⟩
  · refine ⟨fun j hj => by rw [zl 68 (by decide) (by decide), rl 68 (by decide) (by decide)]; exact w1 j hj, fun j hj => by rw [zs 70 (by decide) (by decide) (by decide) (by decide) (by decide) (by decide) (by decide) (by decide) (by decide)]; exact w2 j hj, fun c a b => ?_, fun i a b => ?_, fun t a b => ?_⟩
    · rw [zs 46 (by decide) (by decide) (by decide) (by decide) (by decide) (by decide) (by decide) (by decide) (by decide), zs 45 (by decide) (by decide) (by decide) (by decide) (by decide) (by decide) (by decide) (by decide) (by decide)]
      exact w3.1 c a b
    · rw [zout 48 (by decide) (by decide)]
      exact ry.2.2.2.1 i a b
    · rw [zout 50 (by decide) (by decide), zout 52 (by decide) (by decide)]
      exact ⟨i3.1 t a b, (ry.2.2.2.2.1 t a b).1, (ry.2.2.2.2.1 t a b).2⟩
  · exact lawR_of hW0 (by omega) (zin 25 (by decide) (by decide)) (zin 26 (by decide) (by decide)) (e71 8 (by decide) (by decide)) eO
  · exact lawR_of hW1 (by omega) (zin 28 (by decide) (by decide)) (zin 29 (by decide) (by decide)) (e71 9 (by decide) (by decide)) eO
  · have y7 : z.1 7 = P := by rw [zx 7 (by decide)]; exact x7
    have y8 : z.1 8 = Th := by rw [zx 8 (by decide)]; exact x8
    have y9 : z.1 9 = Wh := by rw [zx 9 (by decide)]; exact x9
    have y10 : z.1 10 = Se := by rw [zx 10 (by decide)]; exact x10
    have y6 : z.1 6 = Y := by rw [zx 6 (by decide)]; exact x6
    have y41 : z.1 41 = x.1 41 := by rw [zy 41 (by decide) (by decide) (by decide) (by decide) (by decide) (by decide) (by decide) (by decide) (by decide), rid 41 (by decide) (by decide)]
    unfold fresh
    rw [y7, y8, y9, y10, y6, y41, z78, z79, x412, x414, x413]
    exact ⟨a2, a3, ⟨a4, a5⟩, ⟨rfl, rfl, i5.2.2.1⟩, g3, ⟨g4, g5⟩, z6323, g2⟩
end QYARD

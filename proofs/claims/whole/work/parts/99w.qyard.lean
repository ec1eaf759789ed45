/-! Promise 4: yard answered alike: how reading begins, and how what was read is taken over. -/
section YARDW
variable {N : Nat} {s t u v v1 s1 t1 s2 t2 : gI} {F G G0 R : Int → Int} {n e st lo hi c w k x y z : Int} {r i i2 lc a b ww : Nat}
theorem c_become (hl : lc = 57 ∨ lc = 60) : ∃ v, f21 N lc x s = some v ∧ v.1 lc 2 = 1 ∧ v.1 (lc + 1) 0 = x ∧ (∀ a : Nat, a ≠ lc → a ≠ lc + 1 → v.1 a = s.1 a) ∧ v.2 = s.2 := by
  have e1 : (iw s lc 2 0).1 lc 2 = 0 := by rw [iw_at, zup_same]
  have e2 : (iw (iw s lc 2 0) (lc + 1) 0 x).1 lc 2 = 0 := by rw [iw_ne (by omega), e1]
  unfold f21 f23
  try dsimp only
  rw [iov_ok (by omega) (by omega), e1, if_neg (by decide), ick_ok (by decide) (by decide)]
  try dsimp only
  rw [e2, iov_ok (by omega) (by omega), i_o1_some]
  refine ⟨_, rfl, ?_, ?_, fun a q1 q2 => ?_, rfl⟩
  · rw [iw_at, zup_same]; rfl
  · rw [iw_ne (by omega), iw_at, zup_same]
  · rw [iw_ne q1, iw_ne q2, iw_ne q1]
theorem c_beginY (hN : 5000 ≤ N) (hT : tpF F n) (h1 : s.1 1 1 = n) (h2 : s.1 2 = F) :
    ∃ v, f120 N s = f120_at18 N N 0 v ∧ frY s v ∧ cAt F n 0 v ∧ (v.1 47 0 = 0 ∧ v.1 47 3 = 0 ∧ v.1 47 8 = 0 ∧ v.1 47 12 = -1 ∧ v.1 47 15 = -1 ∧ v.1 47 16 = 0) ∧ (v.1 57 2 = 1 ∧ v.1 58 0 = 10000 ∧ v.1 60 2 = 1 ∧ v.1 61 0 = 1) ∧ v.1 3 2 = 0 ∧ v.1 48 = s.1 48 ∧ v.1 50 = s.1 50 ∧ v.1 52 = s.1 52 := by
  have hT1 := hT.1
  unfold f120 f115
  try dsimp only
  generalize hA : iw (iw (iw (iw (iw (iw (iw (iw s 47 0 0) 47 3 0) 47 8 0) 47 12 (-1)) 47 13 (-1)) 47 14 (-1)) 47 15 (-1)) 47 16 0 = A
  have ane : ∀ a : Nat, a ≠ 47 → A.1 a = s.1 a := fun a q => by rw [← hA, iw_ne q, iw_ne q, iw_ne q, iw_ne q, iw_ne q, iw_ne q, iw_ne q, iw_ne q]
  have al : A.2 = s.2 := by rw [← hA]; rfl
  have a47 : A.1 47 0 = 0 ∧ A.1 47 3 = 0 ∧ A.1 47 8 = 0 ∧ A.1 47 12 = -1 ∧ A.1 47 15 = -1 ∧ A.1 47 16 = 0 := by
    rw [← hA]
    simp only [iw_at]
    refine ⟨rfl, rfl, rfl, rfl, rfl, rfl⟩
  clear hA
  obtain ⟨B, b1, b2, b3, b4, b5⟩ := c_become (N := N) (s := A) (lc := 57) (x := 10000) (Or.inl rfl)
  obtain ⟨C, c1, c2, c3, c4, c5⟩ := c_become (N := N) (s := B) (lc := 60) (x := 1) (Or.inr rfl)
  rw [b1, i_o1_some, c1, i_o1_some, i_o1_some]
  unfold f96
  try dsimp only
  have dne : ∀ a : Nat, a ≠ 3 → a ≠ 47 → a ≠ 57 → a ≠ 58 → a ≠ 60 → a ≠ 61 → (iw C 3 2 0).1 a = s.1 a := fun a q1 q2 q3 q4 q5 q6 => by rw [iw_ne q1, c4 a q5 q6, b4 a q3 q4, ane a q2]
  have d3 : (iw C 3 2 0).1 3 2 = 0 := by rw [iw_at, zup_same]
  have dl : (iw C 3 2 0).2 = s.2 := by rw [iw_2, c5, b5, al]
  have d47 : (iw C 3 2 0).1 47 = A.1 47 := by rw [iw_ne (by decide), c4 47 (by decide) (by decide), b4 47 (by decide) (by decide)]
  have d57 : (iw C 3 2 0).1 57 2 = 1 := by rw [iw_ne (by decide), c4 57 (by decide) (by decide)]; exact b2
  have d58 : (iw C 3 2 0).1 58 0 = 10000 := by rw [iw_ne (by decide), c4 58 (by decide) (by decide)]; exact b3
  have d60 : (iw C 3 2 0).1 60 2 = 1 := by rw [iw_ne (by decide)]; exact c2
  have d61 : (iw C 3 2 0).1 61 0 = 1 := by rw [iw_ne (by decide)]; exact c3
  generalize iw C 3 2 0 = D at dne d3 dl d47 d57 d58 d60 d61
  rw [iw_ic, iw_ic, ic_at, ic_ic]
  obtain ⟨G0, g1, g2, -⟩ := c_adv (N := N) (s := ic D 1 (zup (zup (D.1 1) 4 0) 7 0)) (e := 0) hN (by rw [ic_at, zup_ne (by decide), zup_ne (by decide), dne 1 (by decide) (by decide) (by decide) (by decide) (by decide) (by decide)]; exact h1) (by rw [ic_ne (by decide), dne 2 (by decide) (by decide) (by decide) (by decide) (by decide) (by decide)]; exact h2) hT (by rw [ic_at, zup_ne (by decide), zup_same]) (by decide) hT1.1
  rw [ic_ic] at g1
  rw [g1, i_o1_some, i_o1_some]
  refine ⟨ic D 1 G0, rfl, ⟨fun a q1 q2 q3 q4 q5 => ?_, fun a _ _ => by rw [ic_l, dl]⟩, ⟨by rw [ic_ne (by decide), dne 2 (by decide) (by decide) (by decide) (by decide) (by decide) (by decide)]; exact h2, by rw [ic_at]; exact g2⟩, ?_, ?_, ?_, ?_, ?_, ?_⟩
  · rw [ic_ne q1, dne a q2 (by omega) (by omega) (by omega) (by omega) (by omega)]
  · rw [ic_ne (by decide), d47]; exact a47
  · rw [ic_ne (by decide), ic_ne (by decide), ic_ne (by decide), ic_ne (by decide)]
    exact ⟨d57, d58, d60, d61⟩
  · rw [ic_ne (by decide)]; exact d3
  · rw [ic_ne (by decide), dne 48 (by decide) (by decide) (by decide) (by decide) (by decide) (by decide)]
  · rw [ic_ne (by decide), dne 50 (by decide) (by decide) (by decide) (by decide) (by decide) (by decide)]
  · rw [ic_ne (by decide), dne 52 (by decide) (by decide) (by decide) (by decide) (by decide) (by decide)]
theorem m_stands_lp : ∀ (r fuel : Nat) (x : Int) (s : gI), 0 ≤ x → x + r = 70 → r < fuel → ∃ R, f196_at2 N fuel 70 x s = some (ic s 71 R) ∧ (∀ j, j < 70 + x → j ≠ 73 → j ≠ 74 → j ≠ 78 → j ≠ 79 → R j = s.1 71 j) ∧ (∀ j, 70 + x ≤ j → j < 140 → j ≠ 73 → j ≠ 74 → j ≠ 78 → j ≠ 79 → R j = 0) ∧ R 73 = -1 ∧ R 74 = -1 ∧ R 78 = -1 ∧ R 79 = -1
  | 0, fuel, x, s, x0, e, hf => by
    obtain ⟨fuel, rfl⟩ : ∃ g, fuel = g + 1 := ⟨fuel - 1, by omega⟩
    refine ⟨zup (zup (zup (zup (s.1 71) 73 (-1)) 74 (-1)) 78 (-1)) 79 (-1), ?_, fun j j1 q1 q2 q3 q4 => ?_, fun j j0 j1 => by omega, ?_, ?_, ?_, ?_⟩
    · unfold f196_at2
      rw [if_pos (by omega), iov_ok (by decide) (by decide), ick_ok (by decide) (by decide)]
      try dsimp only
      rw [iov_ok (by decide) (by decide), ick_ok (by decide) (by decide)]
      try dsimp only
      rw [iov_ok (by decide) (by decide), ick_ok (by decide) (by decide)]
      try dsimp only
      rw [iov_ok (by decide) (by decide), iov_ok (by decide) (by decide), ick_ok (by decide) (by decide)]
      simp only [iw_ic, ic_at, ic_ic]
      rfl
    · rw [zup_ne q4, zup_ne q3, zup_ne q2, zup_ne q1]
    · rw [zup_ne (by decide), zup_ne (by decide), zup_ne (by decide), zup_same]
    · rw [zup_ne (by decide), zup_ne (by decide), zup_same]
    · rw [zup_ne (by decide), zup_same]
    · rw [zup_same]
  | r + 1, fuel, x, s, x0, e, hf => by
    obtain ⟨fuel, rfl⟩ : ∃ g, fuel = g + 1 := ⟨fuel - 1, by omega⟩
    obtain ⟨R, h1, h2, h3, h4⟩ := m_stands_lp r fuel (x + 1) (ic s 71 (zup (s.1 71) (70 + x) 0)) (by omega) (by omega) (by omega)
    rw [ic_ic] at h1
    rw [ic_at] at h2
    refine ⟨R, ?_, fun j j1 q1 q2 q3 q4 => by rw [h2 j (by omega) q1 q2 q3 q4, zup_ne (by omega)], fun j j0 j1 q1 q2 q3 q4 => ?_, h4⟩
    · unfold f196_at2
      rw [if_neg (by omega), iov_ok (by omega) (by omega), ick_ok (by omega) (by omega)]
      try dsimp only
      rw [iov_ok (by omega) (by omega), iw_ic]
      exact h1
    · by_cases q : j = 70 + x
      · subst q; rw [h2 _ (by omega) q1 q2 q3 q4, zup_same]
      · exact h3 j (by omega) j1 q1 q2 q3 q4
theorem m_beginY (hN : 5000 ≤ N) (hT : tpF F n) (h2 : s.1 63 2 = n) (h64 : ∀ j, 0 ≤ j → j < n → s.1 64 j = F j) (hw : ∀ j : Nat, j < 28 → s.2 68 j = wordsT.getD j 0) :
    ∃ v, f199 N s = f199_at30 N N v ∧ ((∀ a : Nat, a ≠ 63 → a ≠ 65 → a ≠ 66 → a ≠ 71 → v.1 a = s.1 a) ∧ (∀ a : Nat, a ≠ 67 → v.2 a = s.2 a) ∧ (∀ j, j < 70 → v.1 71 j = s.1 71 j) ∧ v.1 63 23 = s.1 63 23) ∧ mAt F n 0 v ∧
      (∀ j, 70 ≤ j → j < 140 → j ≠ 73 → j ≠ 74 → j ≠ 78 → j ≠ 79 → v.1 71 j = 0) ∧ (v.1 71 73 = -1 ∧ v.1 71 74 = -1 ∧ v.1 71 78 = -1 ∧ v.1 71 79 = -1) ∧ v.1 63 15 = 0 ∧ v.1 63 18 = 0 ∧ v.1 63 19 = 0 ∧ v.1 63 2 = 0 := by
  unfold f199
  try dsimp only
  obtain ⟨A, B, C, c1, c2⟩ := m_cut (N := N) (s := iw s 63 0 0) (F := F) (n := n) hN hT (by rw [iw_at, zup_ne (by decide)]; exact h2) (fun j a b => by rw [iw_ne (by decide)]; exact h64 j a b)
  rw [c1, i_o1_some]
  generalize hE : iw (iw (iw (iw (iw (cut (iw (iw (iw s 63 0 0) 63 3 n) 63 2 0) A B C) 63 7 0) 63 8 0) 63 15 0) 63 18 0) 63 19 0 = E
  have e65 : E.1 65 = A := by rw [← hE, iw_ne (by decide), iw_ne (by decide), iw_ne (by decide), iw_ne (by decide), iw_ne (by decide), cut_65]
  have e66 : E.1 66 = B := by rw [← hE, iw_ne (by decide), iw_ne (by decide), iw_ne (by decide), iw_ne (by decide), iw_ne (by decide), cut_66]
  have e67 : E.2 67 = C := by rw [← hE, iw_2, iw_2, iw_2, iw_2, iw_2, cut_67]
  have el : ∀ a : Nat, a ≠ 67 → E.2 a = s.2 a := fun a q => by rw [← hE, iw_2, iw_2, iw_2, iw_2, iw_2, cut_l q, iw_2, iw_2, iw_2]
  have ene : ∀ a : Nat, a ≠ 63 → a ≠ 65 → a ≠ 66 → E.1 a = s.1 a := fun a q1 q2 q3 => by rw [← hE, iw_ne q1, iw_ne q1, iw_ne q1, iw_ne q1, iw_ne q1, cut_ne q2 q3, iw_ne q1, iw_ne q1, iw_ne q1]
  have e63 : E.1 63 = zup (zup (zup (zup (zup (zup (zup (zup (s.1 63) 0 0) 3 n) 2 0) 7 0) 8 0) 15 0) 18 0) 19 0 := by rw [← hE, iw_at, iw_at, iw_at, iw_at, iw_at, cut_ne (by decide) (by decide), iw_at, iw_at, iw_at]
  clear hE c1
  obtain ⟨R, r1, r2, r3, r4, r5, r6, r7⟩ := m_stands_lp (N := N) 70 N 0 E (by decide) (by decide) (by omega)
  have e196 : f196 N 70 E = some (ic E 71 R) := r1
  rw [e196, i_o1_some]
  have k63 : (ic E 71 R).1 63 = E.1 63 := ic_ne (by decide)
  refine ⟨ic E 71 R, rfl, ⟨fun a q1 q2 q3 q4 => by rw [ic_ne q4]; exact ene a q1 q2 q3, fun a q => by rw [ic_l]; exact el a q, fun j hj => ?_, ?_⟩, ⟨?_, ?_, ?_, lv_0, fun j hj => by rw [ic_l, el 68 (by decide)]; exact hw j hj⟩, fun j j0 j1 q1 q2 q3 q4 => by rw [ic_at]; exact r3 j (by omega) j1 q1 q2 q3 q4, by rw [ic_at]; exact ⟨r4, r5, r6, r7⟩, ?_, ?_, ?_, ?_⟩
  · rw [ic_at, r2 j (by omega) (by omega) (by omega) (by omega) (by omega), ene 71 (by decide) (by decide) (by decide)]
  · rw [k63, e63]; rfl
  · rw [ic_ne (by decide), ic_ne (by decide), ic_l, e65, e66, e67]; exact c2
  · rw [k63, e63]; rfl
  · rw [k63, e63]; rfl
  · rw [k63, e63]; rfl
  · rw [k63, e63]; rfl
  · rw [k63, e63]; rfl
  · rw [k63, e63]; rfl
theorem m_copy71 : ∀ (r fuel : Nat) (x : Int) (s : gI), 0 ≤ x → x + r = 70 → r < fuel → ∃ R, f199_at76 N fuel x s = f199_at105 N N 0 (ic s 71 R) ∧ (∀ j, x ≤ j → j < 70 → R j = s.1 71 (70 + j)) ∧ (∀ j, (j < x ∨ 70 ≤ j) → R j = s.1 71 j)
  | 0, fuel, x, s, x0, e, hf => by
    obtain ⟨fuel, rfl⟩ : ∃ g, fuel = g + 1 := ⟨fuel - 1, by omega⟩
    refine ⟨s.1 71, ?_, fun j a b => by omega, fun _ _ => rfl⟩
    unfold f199_at76
    rw [if_pos (by omega), ic_self]
  | r + 1, fuel, x, s, x0, e, hf => by
    obtain ⟨fuel, rfl⟩ : ∃ g, fuel = g + 1 := ⟨fuel - 1, by omega⟩
    obtain ⟨R, h1, h2, h3⟩ := m_copy71 r fuel (x + 1) (ic s 71 (zup (s.1 71) x (s.1 71 (70 + x)))) (by omega) (by omega) (by omega)
    rw [ic_ic] at h1
    rw [ic_at] at h2 h3
    refine ⟨R, ?_, fun j a b => ?_, fun j hj => by rw [h3 j (by omega), zup_ne (by omega)]⟩
    · unfold f199_at76
      rw [if_neg (by omega), iov_ok (by omega) (by omega), ick_ok (by omega) (by omega), ick_ok (by omega) (by omega)]
      try dsimp only
      rw [iov_ok (by omega) (by omega), iw_ic]
      exact h1
    · by_cases q : j = x
      · subst q; rw [h3 j (by omega), zup_same]
      · rw [h2 j (by omega) b, zup_ne (by omega)]
theorem m_copyC (hc : c ≤ 1000) : ∀ (r fuel : Nat) (x : Int) (s : gI), s.1 63 15 = c → 0 ≤ x → x + r = c → r < fuel → ∃ O A, f199_at105 N fuel x s = (i_o1 (f216 N (ic (ic s 72 O) 73 A)) fun s1 => some ((0 : Int), s1)) ∧ (∀ j, x ≤ j → j < c → O j = s.1 72 (1100 + j) ∧ A j = s.1 73 (1100 + j)) ∧ (∀ j, (j < x ∨ c ≤ j) → O j = s.1 72 j ∧ A j = s.1 73 j)
  | 0, fuel, x, s, hs, x0, e, hf => by
    obtain ⟨fuel, rfl⟩ : ∃ g, fuel = g + 1 := ⟨fuel - 1, by omega⟩
    refine ⟨s.1 72, s.1 73, ?_, fun j a b => by omega, fun _ _ => ⟨rfl, rfl⟩⟩
    unfold f199_at105
    rw [hs, if_pos (by omega), ic_self, ic_self]
  | r + 1, fuel, x, s, hs, x0, e, hf => by
    obtain ⟨fuel, rfl⟩ : ∃ g, fuel = g + 1 := ⟨fuel - 1, by omega⟩
    obtain ⟨O, A, h1, h2, h3⟩ := m_copyC hc r fuel (x + 1) (ic (ic s 72 (zup (s.1 72) x (s.1 72 (1100 + x)))) 73 (zup (s.1 73) x (s.1 73 (1100 + x)))) (by rw [ic_ne (by decide), ic_ne (by decide)]; exact hs) (by omega) (by omega) (by omega)
    have e1 : ∀ P Q : Int → Int, ic (ic (ic (ic s 72 (zup (s.1 72) x (s.1 72 (1100 + x)))) 73 (zup (s.1 73) x (s.1 73 (1100 + x)))) 72 P) 73 Q = ic (ic s 72 P) 73 Q := fun P Q => by
      rw [ic_comm (a := 73) (b := 72) (by decide), ic_ic, ic_ic]
    rw [e1] at h1
    rw [ic_at, ic_ne (by decide), ic_at] at h2 h3
    refine ⟨O, A, ?_, fun j a b => ?_, fun j hj => ?_⟩
    · unfold f199_at105
      rw [hs, if_neg (by omega), iov_ok (by omega) (by omega), ick_ok (by omega) (by omega), ick_ok (by omega) (by omega)]
      try dsimp only
      rw [iov_ok (by omega) (by omega), ick_ok (by omega) (by omega), ick_ok (by omega) (by omega)]
      try dsimp only
      rw [iov_ok (by omega) (by omega), iw_ne (show (73 : Nat) ≠ 72 by decide), iw_ic (a := 72), iw_ic (a := 73), ic_ne (show (73 : Nat) ≠ 72 by decide)]
      exact h1
    · by_cases q : j = x
      · subst q
        obtain ⟨q1, q2⟩ := h3 j (by omega)
        rw [q1, q2, zup_same, zup_same]
        exact ⟨rfl, rfl⟩
      · obtain ⟨q1, q2⟩ := h2 j (by omega) b
        rw [q1, q2, zup_ne (by omega), zup_ne (by omega)]
        exact ⟨rfl, rfl⟩
    · obtain ⟨q1, q2⟩ := h3 j (by omega)
      rw [q1, q2, zup_ne (by omega), zup_ne (by omega)]
      exact ⟨rfl, rfl⟩
/-- the beginning is alike -/
theorem LSt_0 (hc : cAt F n 0 s) (hm : mAt F n 0 t) (h47 : s.1 47 0 = 0 ∧ s.1 47 3 = 0 ∧ s.1 47 8 = 0 ∧ s.1 47 12 = -1 ∧ s.1 47 15 = -1 ∧ s.1 47 16 = 0) (hl : s.1 57 2 = 1 ∧ s.1 58 0 = 10000 ∧ s.1 60 2 = 1 ∧ s.1 61 0 = 1) (h3 : s.1 3 2 = 0) (hsp : spY s)
    (h71 : ∀ j, 70 ≤ j → j < 140 → j ≠ 73 → j ≠ 74 → j ≠ 78 → j ≠ 79 → t.1 71 j = 0) (h73 : t.1 71 73 = -1 ∧ t.1 71 74 = -1 ∧ t.1 71 78 = -1 ∧ t.1 71 79 = -1) (h15 : t.1 63 15 = 0) (h18 : t.1 63 18 = 0) (h19 : t.1 63 19 = 0) : LSt F n 0 s t := by
  obtain ⟨a0, a3, a8, a12, a15, a16⟩ := h47
  obtain ⟨l1, l2, l3, l4⟩ := hl
  obtain ⟨m1, m2, m3, m4⟩ := h73
  refine ⟨hc, hm, ⟨⟨?_, ?_, fun p p0 p1 => ?_⟩, ⟨?_, ?_, fun p p0 p1 => ?_, fun j j0 j1 => ?_⟩, ⟨?_, ?_, fun p p0 p1 => ?_⟩, ⟨?_, ?_, ?_, ?_, fun q => ?_, ?_, ?_⟩, Or.inl ⟨m3, l1, l2⟩, Or.inl ⟨m4, l3, l4⟩, ⟨?_, fun p p0 p1 => ?_, fun p p0 p1 => ?_, fun p p0 p1 => ?_, fun p q p0 pq q1 => ?_⟩, ?_⟩, ?_, hsp⟩
  · rw [h71 70 (by decide) (by decide) (by decide) (by decide) (by decide) (by decide), a0]
  · rw [a0]; decide
  · rw [a0] at p1; omega
  · rw [h71 71 (by decide) (by decide) (by decide) (by decide) (by decide) (by decide), a3]
  · rw [a3]; decide
  · rw [a3] at p1; omega
  · rw [h71 (84 + 3 * j + 2) (by omega) (by omega) (by omega) (by omega) (by omega) (by omega)]; decide
  · rw [h71 72 (by decide) (by decide) (by decide) (by decide) (by decide) (by decide), a8]
  · rw [a8]; decide
  · rw [a8] at p1; omega
  · rw [m1, a12]
  · rw [a12]; decide
  · rw [m2, a15]
  · rw [a15]; decide
  · rw [a15] at q; omega
  · rw [h71 77 (by decide) (by decide) (by decide) (by decide) (by decide) (by decide), a16]
  · rw [a16]; decide
  · rw [h18, a0, a3]; rfl
  · rw [a0] at p1; omega
  · rw [a3] at p1; omega
  · rw [h18] at p1; omega
  · rw [h18] at q1; omega
  · rw [h3, h19]; decide
  · rw [h15]; decide
end YARDW

/-! A ROOF read by the reference: the whole of it; what begins anew. -/
section MROOF2
variable {N : Nat} {s u v : gI} {F G A B C T R : Int → Int} {n e st lo hi c m zn W D : Int} {r i w y : Nat}
/-- what reading may change in the reference: a is the row that is read into -/
def frA (a0 : Nat) (s v : gI) : Prop := (∀ a : Nat, a ≠ a0 → a ≠ 63 → a ≠ 65 → a ≠ 66 → v.1 a = s.1 a) ∧ (∀ a : Nat, a ≠ 67 → v.2 a = s.2 a) ∧ (∀ j, j < 70 → v.1 a0 j = s.1 a0 j) ∧ ∀ j, j ≠ 0 → j ≠ 2 → j ≠ 3 → j ≠ 7 → j ≠ 8 → v.1 63 j = s.1 63 j
theorem frA.tr {a0 : Nat} (h1 : frA a0 s u) (h2 : frA a0 u v) : frA a0 s v := ⟨fun a ha hb hc hd => (h2.1 a ha hb hc hd).trans (h1.1 a ha hb hc hd), fun a ha => (h2.2.1 a ha).trans (h1.2.1 a ha), fun j hj => (h2.2.2.1 j hj).trans (h1.2.2.1 j hj), fun j ha hb hc hd he => (h2.2.2.2 j ha hb hc hd he).trans (h1.2.2.2 j ha hb hc hd he)⟩
theorem fr9.toA (h : fr9 s v) : frA 69 s v := ⟨fun a ha hb _ _ => h.1 a ha hb, fun a _ => by rw [h.2.1], h.2.2.1, fun j _ _ _ h7 h8 => h.2.2.2 j h7 h8⟩
theorem m_zero9 : ∀ (r fuel : Nat) (x : Int) (s : gI), 0 ≤ x → x + r = 70 → r < fuel → ∃ R g, f195_at11 N fuel x s = f195_at11 N (g + 1) 70 (ic s 69 R) ∧ (∀ j, j < 70 → R j = s.1 69 j)
  | 0, fuel, x, s, x0, e, hf => by
    obtain ⟨fuel, rfl⟩ : ∃ g, fuel = g + 1 := ⟨fuel - 1, by omega⟩
    have : x = 70 := by omega
    subst this
    exact ⟨s.1 69, fuel, by rw [ic_self], fun _ _ => rfl⟩
  | r + 1, fuel, x, s, x0, e, hf => by
    obtain ⟨fuel, rfl⟩ : ∃ g, fuel = g + 1 := ⟨fuel - 1, by omega⟩
    obtain ⟨R, g, h1, h2⟩ := m_zero9 r fuel (x + 1) (ic s 69 (zup (s.1 69) (70 + x) 0)) (by omega) (by omega) (by omega)
    rw [ic_ic] at h1
    refine ⟨R, g, ?_, fun j hj => by rw [h2 j hj, ic_at, zup_ne (by omega)]⟩
    have e1 : f195_at11 N (fuel + 1) x s = f195_at11 N fuel (x + 1) (ic s 69 (zup (s.1 69) (70 + x) 0)) := by
      show (if (70 : Int) ≤ x then _ else _) = _
      rw [if_neg (by omega), iov_ok (by omega) (by omega), ick_ok (by omega) (by omega)]
      try dsimp only
      rw [iov_ok (by omega) (by omega), iw_ic]
    rw [e1]
    exact h1
theorem m_roofRead (hN : 5000 ≤ N) (hT : tpF F n) (h2 : s.1 63 2 = n) (h64 : ∀ j, 0 ≤ j → j < n → s.1 64 j = F j) (hL : ∀ j : Nat, j < 9 → s.1 70 j = lettersT.getD j 0) (hw : ∀ j : Nat, j < 28 → s.2 68 j = wordsT.getD j 0) :
    ∃ v, f195 N s = f195_at153 N v ∧ frA 69 s v ∧ v.1 63 2 = 0 ∧ v.1 63 8 = roofZ F n ∧ 0 ≤ v.1 63 8 ∧
      (roofZ F n = 0 → v.1 69 70 = tV F n (tP F n 1) ∧ v.1 69 71 = tV F n (tP F n 2) ∧ ∀ (y2 : Nat) (x : Int), y2 < tV F n (tP F n 2) → 0 ≤ x → x < tV F n (tP F n 1) → v.1 69 (72 + 8 * y2 + x) = tix (F (tP F n (5 + 3 * y2) + x))) := by
  have hT1 := hT.1
  unfold f195
  try dsimp only
  obtain ⟨A, B, C, c1, c2⟩ := m_cut (s := iw s 63 0 0) hN hT (by rw [iw_at, zup_ne (by decide)]; exact h2) (fun j a b => by rw [iw_ne (by decide)]; exact h64 j a b)
  rw [c1, i_o1_some]
  generalize hs1 : iw (iw (cut (iw (iw (iw s 63 0 0) 63 3 n) 63 2 0) A B C) 63 7 0) 63 8 0 = s1
  obtain ⟨R, g, d1, d2⟩ := m_zero9 (N := N) 70 N 0 s1 (by decide) (by decide) (by omega)
  rw [d1]
  clear d1
  have a65 : s1.1 65 = A := by rw [← hs1, iw_ne (by decide), iw_ne (by decide), cut_65]
  have a66 : s1.1 66 = B := by rw [← hs1, iw_ne (by decide), iw_ne (by decide), cut_66]
  have a67 : s1.2 67 = C := by rw [← hs1]; rfl
  have a63 : ∀ j, j ≠ 0 → j ≠ 2 → j ≠ 3 → j ≠ 7 → j ≠ 8 → s1.1 63 j = s.1 63 j := fun j q0 q2 q3 q7 q8 => by
    rw [← hs1, iw_at, zup_ne q8, iw_at, zup_ne q7, cut_ne (by decide) (by decide), iw_at, zup_ne q2, iw_at, zup_ne q3, iw_at, zup_ne q0]
  have a632 : s1.1 63 2 = 0 := by
    rw [← hs1, iw_at, zup_ne (by decide), iw_at, zup_ne (by decide), cut_ne (by decide) (by decide), iw_at, zup_same]
  have a637 : s1.1 63 7 = 0 := by rw [← hs1, iw_at, zup_ne (by decide), iw_at, zup_same]
  have a638 : s1.1 63 8 = 0 := by rw [← hs1, iw_at, zup_same]
  have aa : ∀ a : Nat, a ≠ 63 → a ≠ 65 → a ≠ 66 → s1.1 a = s.1 a := fun a b1 b2 b3 => by
    rw [← hs1, iw_ne b1, iw_ne b1, cut_ne b2 b3, iw_ne b1, iw_ne b1, iw_ne b1]
  have al : ∀ a : Nat, a ≠ 67 → s1.2 a = s.2 a := fun a b => by
    rw [← hs1]
    exact cut_l (s := iw (iw (iw s 63 0 0) 63 3 n) 63 2 0) (A := A) (B := B) (C := C) b
  clear hs1 c1
  generalize hs2 : ic s1 69 R = s2
  have b69 : s2.1 69 = R := by rw [← hs2, ic_at]
  have bne : ∀ a : Nat, a ≠ 69 → s2.1 a = s1.1 a := fun a b => by rw [← hs2, ic_ne b]
  have b2 : s2.2 = s1.2 := by rw [← hs2]; rfl
  have fr0 : frA 69 s s2 := ⟨fun a q1 q2 q3 q4 => by rw [bne a q1, aa a q2 q3 q4], fun a q => by rw [b2, al a q], fun j hj => by rw [b69, d2 j hj, aa 69 (by decide) (by decide) (by decide)], fun j q0 q2 q3 q7 q8 => by rw [bne 63 (by decide), a63 j q0 q2 q3 q7 q8]⟩
  have b632 : s2.1 63 2 = 0 := by rw [bne 63 (by decide)]; exact a632
  have m0 : mAt F n 0 s2 := ⟨by rw [bne 65 (by decide), bne 66 (by decide), b2, a65, a66, a67]; exact c2, by rw [bne 63 (by decide), a637]; rfl, by rw [bne 63 (by decide), a638], lv_0, fun j hj => by rw [b2, al 68 (by decide)]; exact hw j hj⟩
  have b70 : ∀ j : Nat, j < 9 → s2.1 70 j = lettersT.getD j 0 := fun j hj => by rw [bne 70 (by decide), aa 70 (by decide) (by decide) (by decide)]; exact hL j hj
  clear hs2 aa al a63 a632 a637 a638 a65 a66 a67 bne b2 d2 c2
  have r0 := tP_rg (F := F) hT1.1 0
  have r1 := tP_rg (F := F) hT1.1 1
  have r2 := tP_rg (F := F) hT1.1 2
  have r3 := tP_rg (F := F) hT1.1 3
  have nw : ∀ p : Int, 0 ≤ p → 1 ≤ nWhy F n p := fun p hp => by
    unfold nWhy
    split <;> omega
  obtain ⟨N1, rfl⟩ : ∃ N1, N = N1 + 1 := ⟨N - 1, by omega⟩
  -- once something is wrong
  have tail : ∀ (v : gI) (z : Int), mBad z v → ∃ v2, f195_at75 (N1 + 1) (N1 + 1) 0 v = f195_at153 (N1 + 1) v2 ∧ v2 = v := fun v z hb => by
    unfold f195_at75 f195_at116
    have z0 : ¬ z = 0 := by have := hb.2.1; omega
    rw [ick_ok (by decide) (by decide), hb.1]
    refine ⟨v, ?_, rfl⟩
    simp only [if_neg z0, ite_self]
  have w69 : ∀ (v : gI) (x : Int) (j : Int), 70 ≤ j → frA 69 v (iw v 69 j x) := fun v x j hj => ⟨fun a q _ _ _ => iw_ne q, fun _ _ => rfl, fun k hk => by rw [iw_at, zup_ne (by omega)], fun k _ _ _ _ _ => by rw [iw_ne (by decide)]⟩
  have w63 : ∀ (v : gI) (x : Int) (j : Int), (j = 7 ∨ j = 8) → frA 69 v (iw v 63 j x) := fun v x j hj => ⟨fun a _ q _ _ => iw_ne q, fun _ _ => rfl, fun k hk => by rw [iw_ne (by decide)], fun k _ _ _ q7 q8 => by rw [iw_at, zup_ne (by omega)]⟩
  unfold f195_at11
  rw [if_pos (by decide)]
  have e26 := m_takeWord (N := N1 + 1) (w := 26) hT m0 (by decide)
  have e26 : f188 (N1 + 1) 26 s2 = _ := e26
  rw [e26, i_o1_some]
  unfold roofZ
  by_cases q0 : isW F n (tP F n 0) 26
  rotate_left
  · rw [if_neg q0, if_neg q0]
    have hb := mBad_of (z := 1) hT m0 (by decide)
    rw [b_takeNum hb, i_o2_some, ick_ok (by decide) (by decide)]
    have hb2 : mBad (1 + 16 * tP F n 0) (iw (iw s2 63 8 (1 + 16 * tP F n 0)) 69 70 0) := hb.of (by rw [iw_ne (by decide)]) (by rw [iw_ne (by decide)])
    have hb3 : mBad (1 + 16 * tP F n 0) (iw (iw (iw s2 63 8 (1 + 16 * tP F n 0)) 69 70 0) 69 71 0) := hb2.of (by rw [iw_ne (by decide)]) (by rw [iw_ne (by decide)])
    try dsimp only
    rw [b_takeNum hb2, i_o2_some, ick_ok (by decide) (by decide)]
    try dsimp only
    rw [b_takeSign hb3, i_o1_some]
    obtain ⟨v2, t1, t2⟩ := tail _ _ hb3
    rw [t1, t2]
    refine ⟨_, rfl, ((fr0.tr (w63 _ _ _ (Or.inr rfl))).tr (w69 _ _ _ (by decide))).tr (w69 _ _ _ (by decide)), by rw [iw_ne (by decide), iw_ne (by decide), iw_at, zup_ne (by decide)]; exact b632, hb3.1, by rw [hb3.1]; omega, fun h => by omega⟩
  rw [if_pos q0, if_pos q0]
  have m1 : mAt F n 1 (iw s2 63 7 (((0 : Nat) : Int) + 1)) := mAt_up m0 (by have := q0.1; omega)
  generalize hs3 : iw s2 63 7 (((0 : Nat) : Int) + 1) = s3 at m1
  have fr1 : frA 69 s s3 := by rw [← hs3]; exact fr0.tr (w63 _ _ _ (Or.inl rfl))
  have c632 : s3.1 63 2 = 0 := by rw [← hs3, iw_at, zup_ne (by decide)]; exact b632
  have c70 : ∀ j : Nat, j < 9 → s3.1 70 j = lettersT.getD j 0 := fun j hj => by rw [← hs3, iw_ne (by decide)]; exact b70 j hj
  clear hs3
  rw [m_takeNum hT m1]
  by_cases q1 : isN F n (tP F n 1) 2 8
  rotate_left
  · rw [if_neg q1, if_neg q1, i_o2_some, ick_ok (by decide) (by decide)]
    have p1 := nw _ r1.1
    have hb := mBad_of (z := nWhy F n (tP F n 1)) hT m1 (by omega)
    have hb2 : mBad (nWhy F n (tP F n 1) + 16 * tP F n 1) (iw (iw s3 63 8 (nWhy F n (tP F n 1) + 16 * tP F n 1)) 69 70 0) := hb.of (by rw [iw_ne (by decide)]) (by rw [iw_ne (by decide)])
    have hb3 : mBad (nWhy F n (tP F n 1) + 16 * tP F n 1) (iw (iw (iw s3 63 8 (nWhy F n (tP F n 1) + 16 * tP F n 1)) 69 70 0) 69 71 0) := hb2.of (by rw [iw_ne (by decide)]) (by rw [iw_ne (by decide)])
    try dsimp only
    rw [b_takeNum hb2, i_o2_some, ick_ok (by decide) (by decide)]
    try dsimp only
    rw [b_takeSign hb3, i_o1_some]
    obtain ⟨v2, t1, t2⟩ := tail _ _ hb3
    rw [t1, t2]
    refine ⟨_, rfl, ((fr1.tr (w63 _ _ _ (Or.inr rfl))).tr (w69 _ _ _ (by decide))).tr (w69 _ _ _ (by decide)), by rw [iw_ne (by decide), iw_ne (by decide), iw_at, zup_ne (by decide)]; exact c632, hb3.1, by rw [hb3.1]; omega, fun h => by omega⟩
  rw [if_pos q1, if_pos q1, i_o2_some, ick_ok (by decide) (by decide)]
  have m2' : mAt F n 2 (iw s3 63 7 (((1 : Nat) : Int) + 1)) := mAt_up m1 (by have := q1.1; omega)
  have m2 : mAt F n 2 (iw (iw s3 63 7 (((1 : Nat) : Int) + 1)) 69 70 (tV F n (tP F n 1))) := m2'.of (by rw [iw_ne (by decide)]) (by rw [iw_ne (by decide)]) rfl rfl (by rw [iw_ne (by decide)]) (by rw [iw_ne (by decide)])
  try dsimp only
  generalize hs4 : iw (iw s3 63 7 (((1 : Nat) : Int) + 1)) 69 70 (tV F n (tP F n 1)) = s4 at m2
  have fr2 : frA 69 s s4 := by rw [← hs4]; exact (fr1.tr (w63 _ _ _ (Or.inl rfl))).tr (w69 _ _ _ (by decide))
  have d632 : s4.1 63 2 = 0 := by rw [← hs4, iw_ne (by decide), iw_at, zup_ne (by decide)]; exact c632
  have d70 : ∀ j : Nat, j < 9 → s4.1 70 j = lettersT.getD j 0 := fun j hj => by rw [← hs4, iw_ne (by decide), iw_ne (by decide)]; exact c70 j hj
  have dW : s4.1 69 70 = tV F n (tP F n 1) := by rw [← hs4, iw_at, zup_same]
  clear hs4 m2'
  rw [m_takeNum hT m2]
  by_cases q2 : isN F n (tP F n 2) 2 8
  rotate_left
  · rw [if_neg q2, if_neg q2, i_o2_some, ick_ok (by decide) (by decide)]
    have p2 := nw _ r2.1
    have hb := mBad_of (z := nWhy F n (tP F n 2)) hT m2 (by omega)
    have hb3 : mBad (nWhy F n (tP F n 2) + 16 * tP F n 2) (iw (iw s4 63 8 (nWhy F n (tP F n 2) + 16 * tP F n 2)) 69 71 0) := hb.of (by rw [iw_ne (by decide)]) (by rw [iw_ne (by decide)])
    try dsimp only
    rw [b_takeSign hb3, i_o1_some]
    obtain ⟨v2, t1, t2⟩ := tail _ _ hb3
    rw [t1, t2]
    refine ⟨_, rfl, (fr2.tr (w63 _ _ _ (Or.inr rfl))).tr (w69 _ _ _ (by decide)), by rw [iw_ne (by decide), iw_at, zup_ne (by decide)]; exact d632, hb3.1, by rw [hb3.1]; omega, fun h => by omega⟩
  rw [if_pos q2, if_pos q2, i_o2_some, ick_ok (by decide) (by decide)]
  have m3' : mAt F n 3 (iw s4 63 7 (((2 : Nat) : Int) + 1)) := mAt_up m2 (by have := q2.1; omega)
  have m3 : mAt F n 3 (iw (iw s4 63 7 (((2 : Nat) : Int) + 1)) 69 71 (tV F n (tP F n 2))) := m3'.of (by rw [iw_ne (by decide)]) (by rw [iw_ne (by decide)]) rfl rfl (by rw [iw_ne (by decide)]) (by rw [iw_ne (by decide)])
  try dsimp only
  generalize hs5 : iw (iw s4 63 7 (((2 : Nat) : Int) + 1)) 69 71 (tV F n (tP F n 2)) = s5 at m3
  have fr3 : frA 69 s s5 := by rw [← hs5]; exact (fr2.tr (w63 _ _ _ (Or.inl rfl))).tr (w69 _ _ _ (by decide))
  have x632 : s5.1 63 2 = 0 := by rw [← hs5, iw_ne (by decide), iw_at, zup_ne (by decide)]; exact d632
  have x70 : ∀ j : Nat, j < 9 → s5.1 70 j = lettersT.getD j 0 := fun j hj => by rw [← hs5, iw_ne (by decide), iw_ne (by decide)]; exact d70 j hj
  have xW : s5.1 69 70 = tV F n (tP F n 1) := by rw [← hs5, iw_at, zup_ne (by decide), iw_ne (by decide)]; exact dW
  have xD : s5.1 69 71 = tV F n (tP F n 2) := by rw [← hs5, iw_at, zup_same]
  clear hs5 m3'
  rw [m_takeSign hT m3]
  by_cases q3 : isS F n (tP F n 3) 59
  rotate_left
  · rw [if_neg q3, if_neg q3, i_o1_some]
    have hb := mBad_of (z := 1) hT m3 (by decide)
    obtain ⟨v2, t1, t2⟩ := tail _ _ hb
    rw [t1, t2]
    refine ⟨_, rfl, fr3.tr (w63 _ _ _ (Or.inr rfl)), by rw [iw_at, zup_ne (by decide)]; exact x632, hb.1, by rw [hb.1]; omega, fun h => by omega⟩
  rw [if_pos q3, if_pos q3, i_o1_some]
  have m4 : mAt F n (4 + 3 * 0) (iw s5 63 7 (((3 : Nat) : Int) + 1)) := mAt_up m3 (by have := q3.1; omega)
  have v1 := q1.2
  have v2 := q2.2
  obtain ⟨v, y1, y2, y3, y4, -, y6, y7, y8⟩ := m_rows (N := N1 + 1) (DD := (tV F n (tP F n 2)).toNat) hN hT v1.1 v1.2 (by omega) (tV F n (tP F n 2)).toNat (N1 + 1) 0 _ (by omega) (by omega) m4 (by rw [iw_ne (by decide)]; exact x70) (by rw [iw_ne (by decide)]; exact xW) (by rw [iw_ne (by decide), xD]; omega)
  refine ⟨v, y1, (fr3.tr (w63 _ _ _ (Or.inl rfl))).tr y2.toA, ?_, y6, y7, fun h => ⟨y3, by rw [y4]; omega, fun y2 x a b c => y8 h y2 x (by omega) (by omega) b c⟩⟩
  rw [y2.2.2.2 2 (by decide) (by decide), iw_at, zup_ne (by decide)]
  exact x632
/-- all of one row over another -/
theorem m_copy9 : ∀ (r fuel : Nat) (x : Int) (s : gI), 0 ≤ x → x + r = 70 → r < fuel → ∃ R, f195_at167 N fuel x s = (i_o1 (f216 N (ic s 69 R)) fun s1 => some ((0 : Int), s1)) ∧ (∀ j, x ≤ j → j < 70 → R j = s.1 69 (70 + j)) ∧ (∀ j, (j < x ∨ 70 ≤ j) → R j = s.1 69 j)
  | 0, fuel, x, s, x0, e, hf => by
    obtain ⟨fuel, rfl⟩ : ∃ g, fuel = g + 1 := ⟨fuel - 1, by omega⟩
    refine ⟨s.1 69, ?_, fun j a b => by omega, fun _ _ => rfl⟩
    unfold f195_at167
    rw [if_pos (by omega), ic_self]
  | r + 1, fuel, x, s, x0, e, hf => by
    obtain ⟨fuel, rfl⟩ : ∃ g, fuel = g + 1 := ⟨fuel - 1, by omega⟩
    obtain ⟨R, h1, h2, h3⟩ := m_copy9 r fuel (x + 1) (ic s 69 (zup (s.1 69) x (s.1 69 (70 + x)))) (by omega) (by omega) (by omega)
    rw [ic_ic] at h1
    rw [ic_at] at h2 h3
    refine ⟨R, ?_, fun j a b => ?_, fun j hj => by rw [h3 j (by omega), zup_ne (by omega)]⟩
    · unfold f195_at167
      rw [if_neg (by omega), iov_ok (by omega) (by omega), ick_ok (by omega) (by omega), ick_ok (by omega) (by omega)]
      try dsimp only
      rw [iov_ok (by omega) (by omega), iw_ic]
      exact h1
    · by_cases q : j = x
      · subst q; rw [h3 j (by omega), zup_same]
      · rw [h2 j (by omega) b, zup_ne (by omega)]
theorem m_beg_lp2 : ∀ (r fuel : Nat) (x : Int) (s : gI), 0 ≤ x → x + r = 4 → r < fuel → ∃ G, f216_at66 N fuel x s = some (ic s 79 G) ∧ (∀ j, x ≤ j → j < 4 → G j = 0) ∧ (∀ j, j < x → G j = s.1 79 j)
  | 0, fuel, x, s, x0, e, hf => by
    obtain ⟨fuel, rfl⟩ : ∃ g, fuel = g + 1 := ⟨fuel - 1, by omega⟩
    refine ⟨s.1 79, ?_, fun j a b => by omega, fun _ _ => rfl⟩
    unfold f216_at66
    rw [if_pos (by omega), ic_self]
  | r + 1, fuel, x, s, x0, e, hf => by
    obtain ⟨fuel, rfl⟩ : ∃ g, fuel = g + 1 := ⟨fuel - 1, by omega⟩
    obtain ⟨G, h1, h2, h3⟩ := m_beg_lp2 r fuel (x + 1) (ic s 79 (zup (s.1 79) x 0)) (by omega) (by omega) (by omega)
    rw [ic_ic] at h1
    rw [ic_at] at h3
    refine ⟨G, ?_, fun j a b => ?_, fun j hj => by rw [h3 j (by omega), zup_ne (by omega)]⟩
    · unfold f216_at66
      rw [if_neg (by omega), ick_ok (by omega) (by omega), ib1_ok (Or.inl rfl)]
      try dsimp only
      rw [iov_ok (by omega) (by omega), iw_ic]
      exact h1
    · by_cases q : j = x
      · subst q; rw [h3 j (by omega), zup_same]
      · exact h2 j (by omega) b
/-- the reference begins anew -/
theorem m_beg_lp (hN : 5000 ≤ N) : ∀ (r fuel : Nat) (x : Int) (s : gI), 0 ≤ x → x + r = 8 → r < fuel → ∃ M G, f216_at2 N fuel x s = some (ic (iw (ic s 78 M) 63 23 0) 79 G) ∧ (∀ j, 0 ≤ j → j < 4 → G j = 0) ∧ (∀ j, x ≤ j → j < 8 → M j = 64 ∧ M (8 + j) = -1 ∧ M (18 + j) = -2) ∧ M 16 = 0 ∧ M 17 = 0 ∧ (∀ j, 0 ≤ j → j < x → M j = s.1 78 j ∧ M (8 + j) = s.1 78 (8 + j) ∧ M (18 + j) = s.1 78 (18 + j))
  | 0, fuel, x, s, x0, e, hf => by
    obtain ⟨fuel, rfl⟩ : ∃ g, fuel = g + 1 := ⟨fuel - 1, by omega⟩
    have : x = 8 := by omega
    subst this
    unfold f216_at2
    rw [if_pos (by decide), ick_ok (by decide) (by decide), ick_ok (by decide) (by decide)]
    try dsimp only
    simp only [iw_ic (a := 78), ic_at, ic_ic]
    obtain ⟨G, g1, g2, -⟩ := m_beg_lp2 (N := N) 4 N 0 (iw (ic s 78 (zup (zup (s.1 78) 16 0) 17 0)) 63 23 0) (by decide) (by decide) (by omega)
    refine ⟨_, G, g1, fun j a b => g2 j a b, fun j a b => by omega, ?_, zup_same _ _ _, fun j a b => ⟨?_, ?_, ?_⟩⟩
    · rw [zup_ne (by decide), zup_same]
    · rw [zup_ne (by omega), zup_ne (by omega)]
    · rw [zup_ne (by omega), zup_ne (by omega)]
    · rw [zup_ne (by omega), zup_ne (by omega)]
  | r + 1, fuel, x, s, x0, e, hf => by
    obtain ⟨fuel, rfl⟩ : ∃ g, fuel = g + 1 := ⟨fuel - 1, by omega⟩
    obtain ⟨M, G, h1, h2, h3, h4, h5, h6⟩ := m_beg_lp hN r fuel (x + 1) (ic s 78 (zup (zup (zup (s.1 78) x 64) (8 + x) (-1)) (18 + x) (-2))) (by omega) (by omega) (by omega)
    rw [ic_ic] at h1
    rw [ic_at] at h6
    refine ⟨M, G, ?_, h2, fun j a b => ?_, h4, h5, fun j a b => ?_⟩
    · unfold f216_at2
      rw [if_neg (by omega), ick_ok (by omega) (by omega)]
      try dsimp only
      rw [iov_ok (by omega) (by omega), ick_ok (by omega) (by omega), iov_ok (by omega) (by omega), ick_ok (by omega) (by omega), iov_ok (by omega) (by omega), iw_ic, iw_ic, iw_ic, ic_at, ic_at, ic_ic, ic_ic]
      exact h1
    · by_cases q : j = x
      · subst q
        obtain ⟨a1, a2, a3⟩ := h6 j x0 (by omega)
        rw [a1, a2, a3]
        refine ⟨?_, ?_, zup_same _ _ _⟩
        · rw [zup_ne (by omega), zup_ne (by omega), zup_same]
        · rw [zup_ne (by omega), zup_same]
      · exact h3 j (by omega) b
    · obtain ⟨a1, a2, a3⟩ := h6 j a (by omega)
      rw [a1, a2, a3]
      refine ⟨?_, ?_, ?_⟩
      · rw [zup_ne (by omega), zup_ne (by omega), zup_ne (by omega)]
      · rw [zup_ne (by omega), zup_ne (by omega), zup_ne (by omega)]
      · rw [zup_ne (by omega), zup_ne (by omega), zup_ne (by omega)]
theorem m_begins (hN : 5000 ≤ N) : ∃ M G, f216 N s = some (ic (iw (ic s 78 M) 63 23 0) 79 G) ∧ (∀ j, 0 ≤ j → j < 4 → G j = 0) ∧ (∀ j, 0 ≤ j → j < 8 → M j = 64 ∧ M (8 + j) = -1 ∧ M (18 + j) = -2) ∧ M 16 = 0 ∧ M 17 = 0 := by
  obtain ⟨M, G, h1, h2, h3, h4, h5, -⟩ := m_beg_lp hN 8 N 0 s (by decide) (by decide) (by omega)
  exact ⟨M, G, h1, h2, h3, h4, h5⟩
/-- the class begins anew -/
theorem c_anew (hN : 5000 ≤ N) : ∃ P T H S Y, f165 N s = some (iw (iw (ic (ic (ic (ic (ic s 7 P) 8 T) 9 H) 10 S) 6 Y) 41 2 0) 41 4 0) ∧ (∀ j, 0 ≤ j → j < 8 → P j = 64 ∧ T j = -1 ∧ S j = -2) ∧ (∀ c, 0 ≤ c → c < 64 → H c = -1) ∧ Y 4 = 0 ∧ Y 5 = 0 := by
  obtain ⟨P, p1, p2, -⟩ := c_fill (N := N) (s := s) (r := 7) (zn := 8) (x := 64) hN (by decide) (by decide)
  obtain ⟨T, t1, t2, -⟩ := c_fill (N := N) (s := ic s 7 P) (r := 8) (zn := 8) (x := -1) hN (by decide) (by decide)
  obtain ⟨H, h1, h2, -⟩ := c_fill (N := N) (s := ic (ic s 7 P) 8 T) (r := 9) (zn := 64) (x := -1) hN (by decide) (by decide)
  obtain ⟨S, s1, s2, -⟩ := c_fill (N := N) (s := ic (ic (ic s 7 P) 8 T) 9 H) (r := 10) (zn := 8) (x := -2) hN (by decide) (by decide)
  refine ⟨P, T, H, S, zup (zup ((ic (ic (ic (ic s 7 P) 8 T) 9 H) 10 S).1 6) 4 0) 5 0, ?_, fun j a b => ⟨p2 j a b, t2 j a b, s2 j a b⟩, h2, ?_, zup_same _ _ _⟩
  · unfold f165 f87 f41
    rw [p1, i_o1_some, t1, i_o1_some, h1, i_o1_some, s1, i_o1_some]
    try dsimp only
    rw [i_o1_some, i_o1_some, iw_ic (a := 6), iw_ic (a := 6), ic_at, ic_ic]
  · rw [zup_ne (by decide), zup_same]
end MROOF2

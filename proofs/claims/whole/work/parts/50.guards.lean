/-! What is asked ahead of each call; the first calls. -/
section GUARDS
variable {N : Nat} {s u v : gI} {k : Int}
theorem if01 (c : Prop) [Decidable c] (u : gI) : (if c then ib1 (1 : Int) (some ((1 : Int), u)) else ib1 (0 : Int) (some ((0 : Int), u))) = some (if c then 1 else 0, u) := by
  split
  · exact ib1_ok (Or.inr rfl)
  · exact ib1_ok (Or.inl rfl)
theorem c_isPerson {p : Int} : f166 N p s = some (if 0 ≤ p ∧ p < s.1 15 0 then 1 else 0, s) := by
  simp (disch := omega) only [f166, ick_ok, iov_ok, iol_ok, idv_ok, ich_ok, icp_ok, i_o2_some, i_o1_some, ib1_ok]
  by_cases h : p < 0
  · rw [if_pos h, if_neg (show ¬ (0 ≤ p ∧ p < s.1 15 0) by omega)]
  · rw [if_neg h]
    by_cases h2 : s.1 15 0 ≤ p
    · rw [if_pos h2, if_neg (show ¬ (0 ≤ p ∧ p < s.1 15 0) by omega)]
    · rw [if_neg h2, if_pos (show 0 ≤ p ∧ p < s.1 15 0 by omega)]
theorem c_isThing {p : Int} : f167 N p s = some (if 0 ≤ p ∧ p < s.1 15 3 then 1 else 0, s) := by
  simp (disch := omega) only [f167, ick_ok, iov_ok, iol_ok, idv_ok, ich_ok, icp_ok, i_o2_some, i_o1_some, ib1_ok]
  by_cases h : p < 0
  · rw [if_pos h, if_neg (show ¬ (0 ≤ p ∧ p < s.1 15 3) by omega)]
  · rw [if_neg h]
    by_cases h2 : s.1 15 3 ≤ p
    · rw [if_pos h2, if_neg (show ¬ (0 ≤ p ∧ p < s.1 15 3) by omega)]
    · rw [if_neg h2, if_pos (show 0 ≤ p ∧ p < s.1 15 3 by omega)]
theorem c_isRow {p : Int} : f168 N p s = some (if 0 ≤ p ∧ p < s.1 12 1 then 1 else 0, s) := by
  simp (disch := omega) only [f168, ick_ok, iov_ok, iol_ok, idv_ok, ich_ok, icp_ok, i_o2_some, i_o1_some, ib1_ok]
  by_cases h : p < 0
  · rw [if_pos h, if_neg (show ¬ (0 ≤ p ∧ p < s.1 12 1) by omega)]
  · rw [if_neg h]
    by_cases h2 : s.1 12 1 ≤ p
    · rw [if_pos h2, if_neg (show ¬ (0 ≤ p ∧ p < s.1 12 1) by omega)]
    · rw [if_neg h2, if_pos (show 0 ≤ p ∧ p < s.1 12 1 by omega)]
theorem m_isRow {p : Int} : f248 N p s = some (if 0 ≤ p ∧ p < s.1 69 1 then 1 else 0, s) := by
  simp (disch := omega) only [f248, m_deep, ick_ok, iov_ok, iol_ok, idv_ok, ich_ok, icp_ok, i_o2_some, i_o1_some, ib1_ok]
  by_cases h : p < 0
  · rw [if_pos h, if_neg (show ¬ (0 ≤ p ∧ p < s.1 69 1) by omega)]
  · rw [if_neg h]
    by_cases h2 : s.1 69 1 ≤ p
    · rw [if_pos h2, if_neg (show ¬ (0 ≤ p ∧ p < s.1 69 1) by omega)]
    · rw [if_neg h2, if_pos (show 0 ≤ p ∧ p < s.1 69 1 by omega)]
theorem c_has {x y : Int} : f78 N x y s = some (if 0 ≤ x ∧ x < s.1 12 0 ∧ 0 ≤ y ∧ y < s.1 12 1 then 1 else 0, s) := by
  simp (disch := omega) only [f78, ick_ok, iov_ok, iol_ok, idv_ok, ich_ok, icp_ok, i_o2_some, i_o1_some, ib1_ok]
  by_cases h : x < 0
  · rw [if_pos h, if_neg (show ¬ (0 ≤ x ∧ x < s.1 12 0 ∧ 0 ≤ y ∧ y < s.1 12 1) by omega)]
  rw [if_neg h]
  by_cases h2 : s.1 12 0 ≤ x
  · rw [if_pos h2, if_neg (show ¬ (0 ≤ x ∧ x < s.1 12 0 ∧ 0 ≤ y ∧ y < s.1 12 1) by omega)]
  rw [if_neg h2]
  by_cases h3 : y < 0
  · rw [if_pos h3, if_neg (show ¬ (0 ≤ x ∧ x < s.1 12 0 ∧ 0 ≤ y ∧ y < s.1 12 1) by omega)]
  rw [if_neg h3]
  by_cases h4 : s.1 12 1 ≤ y
  · rw [if_pos h4, if_neg (show ¬ (0 ≤ x ∧ x < s.1 12 0 ∧ 0 ≤ y ∧ y < s.1 12 1) by omega)]
  · rw [if_neg h4, if_pos (show 0 ≤ x ∧ x < s.1 12 0 ∧ 0 ≤ y ∧ y < s.1 12 1 by omega)]
theorem m_within {x a b : Int} : f189 N x a b s = some (if a ≤ x ∧ x ≤ b then 1 else 0, s) := by
  simp (disch := omega) only [f189, ick_ok, iov_ok, iol_ok, idv_ok, ich_ok, icp_ok, i_o2_some, i_o1_some, ib1_ok]
  by_cases h : x < a
  · rw [if_pos h, if_neg (show ¬ (a ≤ x ∧ x ≤ b) by omega)]
  · rw [if_neg h]
    by_cases h2 : b < x
    · rw [if_pos h2, if_neg (show ¬ (a ≤ x ∧ x ≤ b) by omega)]
    · rw [if_neg h2, if_pos (show a ≤ x ∧ x ≤ b by omega)]
theorem m_told {z : Int} : f237 N z s = some (tol z, s) := by
  unfold f237 tol
  split <;> rfl
/-- a throw that may be asked for -/
def mayP (s : gI) (p t x y : Int) : Prop := (0 ≤ p ∧ p < s.1 15 0) ∧ (0 ≤ t ∧ t < s.1 15 3) ∧ (0 ≤ x ∧ x < s.1 12 0 ∧ 0 ≤ y ∧ y < s.1 12 1) ∧ s.1 7 t = 64
theorem c_canThrow (hw : cOK s) {p t x y : Int} : (mayP s p t x y ∧ f169 N p t x y s = some (1, s)) ∨ (¬ mayP s p t x y ∧ f169 N p t x y s = some (0, s)) := by
  unfold f169
  rw [c_isPerson, i_o2_some]
  by_cases h1 : 0 ≤ p ∧ p < s.1 15 0
  rotate_left
  · refine Or.inr ⟨fun q => h1 q.1, ?_⟩
    rw [if_neg h1, if_pos rfl, ib1_ok (Or.inl rfl)]
  rw [if_pos h1, if_neg (by decide), c_isThing, i_o2_some]
  by_cases h2 : 0 ≤ t ∧ t < s.1 15 3
  rotate_left
  · refine Or.inr ⟨fun q => h2 q.2.1, ?_⟩
    rw [if_neg h2, if_pos rfl, ib1_ok (Or.inl rfl)]
  rw [if_pos h2, if_neg (by decide), c_has, i_o2_some]
  by_cases h3 : 0 ≤ x ∧ x < s.1 12 0 ∧ 0 ≤ y ∧ y < s.1 12 1
  rotate_left
  · refine Or.inr ⟨fun q => h3 q.2.2.1, ?_⟩
    rw [if_neg h3, if_pos rfl, ib1_ok (Or.inl rfl)]
  have hn := hw.2.2.1
  rw [if_pos h3, if_neg (by decide), ick_ok (by omega) (by omega), if01]
  by_cases h4 : s.1 7 t = 64
  · refine Or.inl ⟨⟨h1, h2, h3, h4⟩, ?_⟩
    rw [if_pos h4]
  · refine Or.inr ⟨fun q => h4 q.2.2.2, ?_⟩
    rw [if_neg h4]
/-- what the reference has of the class' roof, yard and scene -/
theorem INV_eq (h : INV k s) : s.1 69 0 = s.1 12 0 ∧ s.1 69 1 = s.1 12 1 ∧ s.1 71 0 = s.1 15 0 ∧ s.1 71 1 = s.1 15 3 ∧ (∀ t, 0 ≤ t → t < 8 → s.1 78 t = s.1 7 t) := by
  have hr := h.1
  exact ⟨hr.2.2.1.1.symm, hr.2.2.1.2.1.symm, hr.2.2.2.2.1, hr.2.2.2.2.2.2.1, fun t h0 h1 => by have := hr.2.2.2.1 t h0 h1; rwa [sh_at, Int.zero_add] at this⟩
theorem m_mayThrow (h : INV k s) {p t x y : Int} : (mayP s p t x y → f241 N p t x y s = some (1, s)) ∧ (¬ mayP s p t x y → f241 N p t x y s = some (0, s)) := by
  obtain ⟨e0, e1, e2, e3, e4⟩ := INV_eq h
  have hn := h.1.1.1.2.2.1
  unfold f241
  rw [m_isPerson, i_o2_some, e2]
  by_cases h1 : 0 ≤ p ∧ p < s.1 15 0
  rotate_left
  · refine ⟨fun q => absurd q.1 h1, fun _ => ?_⟩
    rw [if_neg h1, if_pos rfl, ib1_ok (Or.inl rfl)]
  rw [if_pos h1, if_neg (by decide), m_isThing, i_o2_some, e3]
  by_cases h2 : 0 ≤ t ∧ t < s.1 15 3
  rotate_left
  · refine ⟨fun q => absurd q.2.1 h2, fun _ => ?_⟩
    rw [if_neg h2, if_pos rfl, ib1_ok (Or.inl rfl)]
  rw [if_pos h2, if_neg (by decide), m_isCell, i_o2_some, e0, e1]
  by_cases h3 : 0 ≤ x ∧ x < s.1 12 0 ∧ 0 ≤ y ∧ y < s.1 12 1
  rotate_left
  · refine ⟨fun q => absurd q.2.2.1 h3, fun _ => ?_⟩
    rw [if_neg h3, if_pos rfl, ib1_ok (Or.inl rfl)]
  rw [if_pos h3, if_neg (by decide), ick_ok (by omega) (by omega), if01, e4 t (by omega) (by omega)]
  by_cases h4 : s.1 7 t = 64
  · refine ⟨fun _ => by rw [if_pos h4], fun q => absurd ⟨h1, h2, h3, h4⟩ q⟩
  · refine ⟨fun q => absurd q.2.2.2 h4, fun _ => by rw [if_neg h4]⟩
theorem sameQ_thrown {x : Int} : sameQ s (iw s 63 0 x) :=
  ⟨fun a ha => iw_ne (by omega), by rw [iw_ne (by decide)], by rw [iw_at, zup_ne (by decide)], by rw [iw_at, zup_ne (by decide)], fun j _ => by rw [iw_ne (by decide)], rfl⟩
theorem sameQ_trl {b : Int} (hb : 588 ≤ b) (h : trl b s u) : sameQ s u :=
  ⟨fun a ha => h.ne (by omega), by rw [h.ne (by decide)], by rw [h.ne (by decide)], by rw [h.ne (by decide)], fun j hj => h.at (by omega), by rw [h.l2]⟩
theorem rowV_mono {k2 : Int} (hk : k ≤ k2) {c : Nat} {r : Int} (h : rowV k s c r) : rowV k2 s c r := ⟨h.1, h.2.1, ⟨h.2.2.1.1, by have := h.2.2.1.2; omega⟩, ⟨h.2.2.2.1, by have := h.2.2.2.2; omega⟩⟩
theorem INV_mono {k2 : Int} (hk : k ≤ k2) (h : INV k s) : INV k2 s := by
  obtain ⟨i1, i2, i3, i4, i5, r⟩ := h
  refine ⟨i1, ?_, i3, i4, ?_, r⟩
  · obtain ⟨a1, a2, a3, a4, a5, a6, a7, a8⟩ := i2
    exact ⟨a1, a2, a3, a4, a5, a6, ⟨a7.1, by omega⟩, ⟨a8.1, by omega⟩⟩
  · obtain ⟨a1, a2, a3, a4, a5, a6⟩ := i5
    exact ⟨a1, a2, a3, fun i h0 h1 => ⟨(a4 i h0 h1).1, rowV_mono hk (a4 i h0 h1).2⟩, a5, fun m h0 h1 => ⟨(a6 m h0 h1).1, (a6 m h0 h1).2.1, fun hm => ⟨((a6 m h0 h1).2.2 hm).1, rowV_mono hk ((a6 m h0 h1).2.2 hm).2.1, ((a6 m h0 h1).2.2 hm).2.2⟩⟩⟩
/-- a call that is answered alike, and behind which all stands as before -/
def OKc (k : Int) (s : gI) (fc fm : gI → Option (Int × gI)) : Prop := ∃ v s1 s2, fc s = some (v, s1) ∧ fm s1 = some (v, s2) ∧ INV (k + 1) s2
theorem OKc.q {fc fm : gI → Option (Int × gI)} (hI : INV k s) {x : Int} {s1 s2 : gI} (h1 : fc s = some (x, s1)) (h2 : fm s1 = some (x, s2)) (h3 : sameQ s s2) : OKc k s fc fm :=
  ⟨x, s1, s2, h1, h2, INV_mono (by omega) (sameQ_inv h3 hI)⟩
theorem INV_thrown {x : Int} (h : INV k s) : INV k (iw s 63 0 x) := sameQ_inv sameQ_thrown h
theorem iw63 {a : Nat} (ha : a ≠ 63) {i x : Int} : (iw s 63 i x).1 a = s.1 a := iw_ne ha
theorem q_arm (hI : INV k s) {p : Int} : OKc k s (f139 N p) (f240 N p) := by
  obtain ⟨e0, e1, e2, e3, e4⟩ := INV_eq hI
  have hp := hI.1.2.2.2.2.2.1
  have ha := hI.1.2.2.2.2.2.2.2.1
  by_cases h : 0 ≤ p ∧ p < s.1 15 0
  · refine OKc.q hI (x := s.1 16 p) (s1 := s) (s2 := iw s 63 0 0) ?_ ?_ sameQ_thrown
    · unfold f139
      rw [c_isPerson, i_o2_some, if_pos h, if_neg (by decide), ick_ok (by omega) (by omega)]
    · unfold f240
      dsimp only
      rw [m_isPerson, i_o2_some, iw63 (by decide), e2, if_pos h, if_neg (by decide), iov_ok (by omega) (by omega), ick_ok (by omega) (by omega), ha p (by omega) (by omega)]
  · refine OKc.q hI (x := -1) (s1 := s) (s2 := iw s 63 0 0) ?_ ?_ sameQ_thrown
    · unfold f139
      rw [c_isPerson, i_o2_some, if_neg h, if_pos rfl]
    · unfold f240
      dsimp only
      rw [m_isPerson, i_o2_some, iw63 (by decide), e2, if_neg h, if_pos rfl]
def oddsS (s : gI) (per m : Nat) (cell w : Int) : Int := sumN (fun z => if soV (TZ (cQ s) (s.1 7) m cell z) (HZ (cQ s) (s.1 7) m cell z) m w = 0 then 0 else wgt (s.1 16 per) z) 9
theorem q_odds (hN : 5000 ≤ N) (hI : INV k s) {p t x y w : Int} : OKc k s (f148 N p t x y w) (f264 N p t x y w) := by
  have hI1 := INV_thrown (x := 0) hI
  have hw := hI.1.1.1
  have hp4 := hI.1.2.2.2.2.2.1
  have hm := m_mayThrow (N := N) hI1 (p := p) (t := t) (x := x) (y := y)
  have em : mayP (iw s 63 0 0) p t x y ↔ mayP s p t x y := by
    unfold mayP
    rw [iw63 (by decide), iw63 (by decide), iw63 (by decide)]
  rw [em] at hm
  rcases c_canThrow (N := N) (s := s) hw (p := p) (t := t) (x := x) (y := y) with ⟨h, hc⟩ | ⟨h, hc⟩
  rotate_left
  · refine OKc.q hI (x := -1) (s1 := s) (s2 := iw s 63 0 0) ?_ ?_ sameQ_thrown
    · unfold f148
      rw [hc, i_o2_some, if_pos rfl]
    · unfold f264
      dsimp only
      rw [hm.2 h, i_o2_some, if_pos rfl]
  by_cases hw5 : 0 ≤ w ∧ w ≤ 4
  rotate_left
  · refine OKc.q hI (x := -1) (s1 := s) (s2 := iw s 63 0 0) ?_ ?_ sameQ_thrown
    · unfold f148
      rw [hc, i_o2_some, if_neg (by decide)]
      by_cases g : w < 0
      · rw [if_pos g]
      · rw [if_neg g, if_neg (by omega)]
    · unfold f264
      dsimp only
      rw [hm.1 h, i_o2_some, if_neg (by decide), m_within, i_o2_some, if_neg hw5, if_pos rfl]
  obtain ⟨⟨p0, p1⟩, ⟨t0, t1⟩, ⟨x0, x1, y0, y1⟩, h64⟩ := id h
  obtain ⟨P, rfl⟩ := Int.eq_ofNat_of_zero_le p0
  obtain ⟨T, rfl⟩ := Int.eq_ofNat_of_zero_le t0
  obtain ⟨⟨hW0, hW⟩, ⟨hD0, hD⟩, ⟨hn0, hn⟩, -⟩ := id hw
  have hT : T < (cQ s).2.2.2.1 := by
    show T < (s.1 15 3).toNat
    omega
  have c1 := c_chance (N := N) (per := P) (m := T) (cell := y * 8 + x) (w := w) hN hI.1.1 (by omega) hT h64 (by omega) (by omega)
  have e1 : cQ (iw s 63 0 0) = cQ s := sameQ_cQ sameQ_thrown
  obtain ⟨v, m1, m2⟩ := m_odds_go (N := N) (s := iw s 63 0 0) (per := P) (m := T) (x := x) (y := y) (w := w) hN hI1.1 (by rw [iw63 (by decide)]; omega) (by rw [e1]; exact hT) (by rw [iw63 (by decide)]; exact h64) (by omega) (by omega) hw5
  rw [e1, iw63 (by decide), iw63 (by decide), show 8 * y + x = y * 8 + x by omega] at m1
  have c1 : f1 N P T (y * 8 + x) w s = some (oddsS s P T (y * 8 + x) w, s) := c1
  have m1 : f264_at35 N N P T x y w 0 0 (iw s 63 0 0) = some (oddsS s P T (y * 8 + x) w, v) := m1
  refine OKc.q hI (x := oddsS s P T (y * 8 + x) w) (s1 := s) (s2 := v) ?_ ?_ (sameQ_thrown.tr (sameQ_trl (by decide) m2))
  · unfold f148
    rw [hc, i_o2_some, if_neg (by decide), if_neg (by omega), if_pos hw5.2, iov_ok (by omega) (by omega), iov_ok (by omega) (by omega), c1, i_o2_some]
  · unfold f264
    dsimp only
    rw [hm.1 h, i_o2_some, if_neg (by decide), m_within, i_o2_some, if_pos hw5, if_neg (by decide)]
    exact m1
end GUARDS

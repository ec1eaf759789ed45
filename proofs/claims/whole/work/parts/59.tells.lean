/-! Promises 4, 5, 14: tile, thing and rolls answered alike. -/
section TELLS
variable {N : Nat} {s u c m : gI} {k : Int} {p q : Int → Int} {Q : Cf}
theorem occ2_z {c z : Int} {n : Nat} (h : ∀ j : Nat, j < n → (co (p j) = c ↔ p j = z)) : ∀ i : Nat, i ≤ n → occ2 p c i = occ p z (-1) i
  | 0, _ => rfl
  | i + 1, hi => by
    have ih := occ2_z h i (by omega)
    have hk := h i (by omega)
    unfold occ2 occ
    rw [ih, if_neg (show ¬ (i : Int) = -1 by omega)]
    by_cases h1 : co (p i) = c
    · rw [if_pos h1, if_pos (hk.1 h1)]
    · rw [if_neg h1, if_neg (fun hh => h1 (hk.2 hh))]
theorem co_gut {d : Int} (h0 : 0 ≤ d) (h1 : d < 64) : co (128 + d) = d := by
  unfold co
  rw [if_neg (by omega)]
  omega
/-- who is told to be in a cell -/
theorem occ2_who (hV : VV Q p) {d : Int} (h0 : 0 ≤ d) (h1 : d < 64) : occ2 p d Q.2.2.2.1 = occ p (if Q.2.2.1 d = 7 then 128 + d else d) (-1) Q.2.2.2.1 := by
  refine occ2_z (fun j hj => ?_) _ (Nat.le_refl _)
  constructor
  · intro hc
    rcases okq_at h0 (hV j hj) hc with g | g
    · rw [if_neg g.2.1]; exact g.1
    · rw [if_pos g.2]; exact g.1
  · intro hp
    rw [hp]
    split
    · exact co_gut h0 h1
    · exact co_in h1
theorem occ_eq8 (he : eq8 p q) {z t : Int} : ∀ n : Nat, n ≤ 8 → occ p z t n = occ q z t n
  | 0, _ => rfl
  | n + 1, hn => by
    unfold occ
    rw [occ_eq8 he n (by omega), he n (by omega) (by omega)]
theorem q_thing (hI : INV k s) {t w : Int} : OKc k s (f138 N t w) (f239 N t w) := by
  obtain ⟨e0, e1, e2, e3, e4⟩ := INV_eq hI
  have hw := hI.1.1.1
  have hn := hw.2.2.1
  have hE := hI.1.2.2.1
  have i3 := hI.2.2.1
  have i2 := hI.2.1
  have en : (cQ s).2.2.2.1 = (s.1 15 3).toNat := rfl
  by_cases h : 0 ≤ t ∧ t < s.1 15 3
  rotate_left
  · refine OKc.q hI (x := -1) (s1 := s) (s2 := iw s 63 0 0) ?_ ?_ sameQ_thrown
    · unfold f138
      rw [c_isThing, i_o2_some, if_neg h, if_pos rfl]
    · unfold f239
      dsimp only
      rw [m_isThing, i_o2_some, iw63 (by decide), e3, if_neg h, if_pos rfl]
  have cs : ∀ x : Int, f138 N t w s = some (x, s) → f239 N t w s = some (x, iw s 63 0 0) → OKc k s (f138 N t w) (f239 N t w) := fun x a b => OKc.q hI a b sameQ_thrown
  have ck : f138 N t w s = some (if w = 0 then s.1 18 t else if w = 1 then s.1 19 t else if w = 2 then s.1 20 t else if w = 3 then tol (s.1 7 t) else if w = 4 then s.1 8 t else -1, s) := by
    unfold f138
    rw [c_isThing, i_o2_some, if_pos h, if_neg (by decide)]
    simp (disch := omega) only [ick_ok, iov_ok, iol_ok, idv_ok, ich_ok, icp_ok, i_o2_some, i_o1_some, c_told]
    by_cases w0 : w = 0
    · rw [if_pos w0, if_pos w0]
    rw [if_neg w0, if_neg w0]
    by_cases w1 : w = 1
    · rw [if_pos w1, if_pos w1]
    rw [if_neg w1, if_neg w1]
    by_cases w2 : w = 2
    · rw [if_pos w2, if_pos w2]
    rw [if_neg w2, if_neg w2]
    by_cases w3 : w = 3
    · rw [if_pos w3, if_pos w3]
    rw [if_neg w3, if_neg w3]
    by_cases w4 : w = 4
    · rw [if_pos w4, if_pos w4]
    rw [if_neg w4, if_neg w4]
  have pre : f239 N t w s = i_o2 (some (if 0 ≤ w ∧ w ≤ 4 then (1 : Int) else 0, iw s 63 0 0)) (fun i5 s4 => if i5 = 0 then some ((-1 : Int), s4) else if (3 : Int) ≤ w then (if w = (3 : Int) then ick t 700 <| i_o2 (f237 N (s4.1 78 t) s4) fun i7 s6 => some (i7, s6) else iov ((8 : Int) + t) <| ick ((8 : Int) + t) 700 <| some ((s4.1 78 ((8 : Int) + t)), s4)) else i_o2 (f226 N t w s4) fun i9 s8 => some (i9, s8)) := by
    unfold f239
    dsimp only
    rw [m_isThing, i_o2_some, iw63 (by decide), e3, if_pos h, if_neg (by decide), m_within]
  refine cs _ ck ?_
  rw [pre, i_o2_some]
  obtain ⟨T, rfl⟩ := Int.eq_ofNat_of_zero_le h.1
  have a78 : (iw s 63 0 0).1 78 = s.1 78 := iw63 (by decide)
  have a71 : (iw s 63 0 0).1 71 = s.1 71 := iw63 (by decide)
  by_cases hz : 0 ≤ w ∧ w ≤ 4
  rotate_left
  · rw [if_neg hz, if_pos rfl, if_neg (by omega), if_neg (by omega), if_neg (by omega), if_neg (by omega), if_neg (by omega)]
  rw [if_pos hz, if_neg (by decide)]
  rcases (by omega : w = 0 ∨ w = 1 ∨ w = 2 ∨ w = 3 ∨ w = 4) with g | g | g | g | g <;> subst g
  · rw [if_neg (by decide), if_pos rfl, m_thingOf (by omega) (by omega) (by decide) (by decide), i_o2_some, a71, Int.add_zero]
    have := hE.2.2.2.2 T (by omega)
    have : s.1 18 T = s.1 71 (14 + 3 * T) := this
    rw [this]
  · rw [if_neg (by decide), if_neg (by decide), if_pos rfl, m_thingOf (by omega) (by omega) (by decide) (by decide), i_o2_some, a71, (i3.2.1 T (by omega) h.2).1]
  · rw [if_neg (by decide), if_neg (by decide), if_neg (by decide), if_pos rfl, m_thingOf (by omega) (by omega) (by decide) (by decide), i_o2_some, a71, hI.1.2.2.2.2.2.2.2.2.1 T (by omega) h.2]
  · rw [if_pos (by decide), if_pos rfl, ick_ok (by omega) (by omega), m_told, i_o2_some, a78, e4 T (by omega) (by omega), if_neg (by decide), if_neg (by decide), if_neg (by decide), if_pos rfl]
  · rw [if_pos (by decide), if_neg (by decide), iov_ok (by omega) (by omega), ick_ok (by omega) (by omega), a78, i2.1 T (by omega) (by omega), if_neg (by decide), if_neg (by decide), if_neg (by decide), if_neg (by decide), if_pos rfl]
theorem q_tile (hN : 5000 ≤ N) (hI : INV k s) {x y w : Int} : OKc k s (f137 N x y w) (f238 N x y w) := by
  obtain ⟨e0, e1, e2, e3, e4⟩ := INV_eq hI
  have hw := hI.1.1.1
  have sc := hI.1.1.2.1
  have hV := hI.1.1.2.2.1
  have hE := hI.1.2.2.1
  have hn := cW_n hw
  have en : (cQ s).2.2.2.1 = (s.1 15 3).toNat := rfl
  obtain ⟨⟨hW0, hW⟩, ⟨hD0, hD⟩, -, -⟩ := id hw
  have a78 : (iw s 63 0 0).1 78 = s.1 78 := iw63 (by decide)
  have a71 : (iw s 63 0 0).1 71 = s.1 71 := iw63 (by decide)
  have a69 : (iw s 63 0 0).1 69 = s.1 69 := iw63 (by decide)
  by_cases h : 0 ≤ x ∧ x < s.1 12 0 ∧ 0 ≤ y ∧ y < s.1 12 1
  rotate_left
  · refine OKc.q hI (x := -1) (s1 := s) (s2 := iw s 63 0 0) ?_ ?_ sameQ_thrown
    · unfold f137
      rw [c_has, i_o2_some, if_neg h, if_pos rfl]
    · unfold f238
      dsimp only
      rw [m_isCell, i_o2_some, a69, e0, e1, if_neg h, if_pos rfl]
  have on : onR (cQ s) (8 * y + x) := ⟨by omega, by omega, by show (8 * y + x) % 8 < s.1 12 0; omega, by show (8 * y + x) / 8 < s.1 12 1; omega⟩
  have et : s.1 13 (8 * y + x) = s.1 69 (2 + (8 * y + x)) := hE.2.2.2.1 _ on
  have hmo : mOK (iw s 63 0 0) := (INV_thrown (x := 0) hI).1.2.1
  have ec : y * 8 + x = 8 * y + x := by omega
  have eo : s.1 9 (8 * y + x) = mO (iw s 63 0 0) 0 (-1) (if s.1 13 (8 * y + x) = 7 then 128 + (8 * y + x) else 8 * y + x) := by
    have o1 := occ2_who hV (d := 8 * y + x) on.1 on.2.1
    rw [sc _ on.1 on.2.1, ← en, o1, mO, if_neg (show ¬ (0 : Int) < 0 by decide), a78, a71]
    have e9 : (s.1 71 1).toNat = (cQ s).2.2.2.1 := by rw [en, e3]
    rw [e9]
    have he : eq8 (s.1 7) (sh 0 (s.1 78)) := fun j j0 j1 => by rw [sh_at, Int.zero_add]; exact (e4 j j0 j1).symm
    exact occ_eq8 he _ hn
  by_cases hz : w = 0 ∨ w = 1
  rotate_left
  · refine OKc.q hI (x := -1) (s1 := s) (s2 := iw s 63 0 0) ?_ ?_ sameQ_thrown
    · unfold f137
      rw [c_has, i_o2_some, if_pos h, if_neg (by decide), iov_ok (by omega) (by omega), iov_ok (by omega) (by omega)]
      dsimp only
      rw [if_neg (by omega), if_neg (by omega)]
    · unfold f238
      dsimp only
      rw [m_isCell, i_o2_some, a69, e0, e1, if_pos h, if_neg (by decide), m_within, i_o2_some, if_neg (show ¬ (0 ≤ w ∧ w ≤ 1) by omega), if_pos rfl]
  rcases hz with g | g <;> subst g
  · refine OKc.q hI (x := s.1 13 (8 * y + x)) (s1 := s) (s2 := iw s 63 0 0) ?_ ?_ sameQ_thrown
    · unfold f137
      rw [c_has, i_o2_some, if_pos h, if_neg (by decide), iov_ok (by omega) (by omega), iov_ok (by omega) (by omega)]
      dsimp only
      rw [if_pos rfl, ick_ok (by omega) (by omega), ec]
    · unfold f238
      dsimp only
      rw [m_isCell, i_o2_some, a69, e0, e1, if_pos h, if_neg (by decide), m_within, i_o2_some, if_pos (show (0 : Int) ≤ 0 ∧ (0 : Int) ≤ 1 by decide), if_neg (by decide), iov_ok (by omega) (by omega), iov_ok (by omega) (by omega), if_pos rfl, m_tileAt on.1 on.2.1, i_o2_some, a69, et]
  · refine OKc.q hI (x := s.1 9 (8 * y + x)) (s1 := s) (s2 := iw s 63 0 0) ?_ ?_ sameQ_thrown
    · unfold f137
      rw [c_has, i_o2_some, if_pos h, if_neg (by decide), iov_ok (by omega) (by omega), iov_ok (by omega) (by omega)]
      dsimp only
      rw [if_neg (by decide), if_pos rfl, ick_ok (by omega) (by omega), ec]
    · unfold f238
      dsimp only
      rw [m_isCell, i_o2_some, a69, e0, e1, if_pos h, if_neg (by decide), m_within, i_o2_some, if_pos (show (0 : Int) ≤ 1 ∧ (1 : Int) ≤ 1 by decide), if_neg (by decide), iov_ok (by omega) (by omega), iov_ok (by omega) (by omega), if_neg (by decide), m_tileAt on.1 on.2.1, i_o2_some, a69, ← et, eo]
      by_cases g7 : s.1 13 (8 * y + x) = 7
      · rw [if_pos g7, if_pos g7, iov_ok (by omega) (by omega), m_at hN hmo (by decide), i_o2_some]
      · rw [if_neg g7, if_neg g7, m_at hN hmo (by decide), i_o2_some]
theorem bmodF {z : Int} (h0 : 0 ≤ z) (h1 : z < 1000) : Int.bmod z 4294967296 = z := by
  unfold Int.bmod
  dsimp only
  rw [if_pos (by omega)]
  omega
theorem q_rolls (hN : 5000 ≤ N) (hI : INV k s) {x y : Int} : OKc k s (f147 N x y) (f259 N x y) := by
  obtain ⟨e0, e1, e2, e3, e4⟩ := INV_eq hI
  have hw := hI.1.1.1
  have sc := hI.1.1.2.1
  have hV := hI.1.1.2.2.1
  have hE := hI.1.2.2.1
  have hn := cW_n hw
  have en : (cQ s).2.2.2.1 = (s.1 15 3).toNat := rfl
  obtain ⟨⟨hW0, hW⟩, ⟨hD0, hD⟩, -, htl⟩ := id hw
  have a78 : (iw s 63 0 0).1 78 = s.1 78 := iw63 (by decide)
  have a71 : (iw s 63 0 0).1 71 = s.1 71 := iw63 (by decide)
  have a69 : (iw s 63 0 0).1 69 = s.1 69 := iw63 (by decide)
  by_cases h : 0 ≤ x ∧ x < s.1 12 0 ∧ 0 ≤ y ∧ y < s.1 12 1
  rotate_left
  · refine OKc.q hI (x := -1) (s1 := s) (s2 := iw s 63 0 0) ?_ ?_ sameQ_thrown
    · unfold f147 f79
      rw [c_has, i_o2_some, if_neg h, if_pos rfl, ib1_ok (Or.inl rfl), i_o2_some, if_pos rfl]
    · unfold f259
      dsimp only
      rw [m_isCell, i_o2_some, a69, e0, e1, if_neg h, if_pos rfl]
  have on : onR (cQ s) (8 * y + x) := ⟨by omega, by omega, by show (8 * y + x) % 8 < s.1 12 0; omega, by show (8 * y + x) / 8 < s.1 12 1; omega⟩
  have et : s.1 13 (8 * y + x) = s.1 69 (2 + (8 * y + x)) := hE.2.2.2.1 _ on
  have hmo : mOK (iw s 63 0 0) := (INV_thrown (x := 0) hI).1.2.1
  have ec : y * 8 + x = 8 * y + x := by omega
  have rt := htl _ on.1 on.2.1
  have c79 : f79 N x y s = some (if 7 ≤ s.1 13 (8 * y + x) then 0 else 1, s) := by
    unfold f79
    rw [c_has, i_o2_some, if_pos h, if_neg (by decide), iov_ok (by omega) (by omega), iov_ok (by omega) (by omega), ick_ok (by omega) (by omega), ib1_ok (Or.inl rfl), ib1_ok (Or.inr rfl), ec]
    split <;> rfl
  have he : eq8 (s.1 7) (sh 0 (s.1 78)) := fun j j0 j1 => by rw [sh_at, Int.zero_add]; exact (e4 j j0 j1).symm
  have mpre : f259 N x y s = if s.1 69 (2 + (8 * y + x)) = 8 then some (-1, iw s 63 0 0) else if s.1 69 (2 + (8 * y + x)) = 7 then some (-1, iw s 63 0 0) else
      i_o2 (f227 N 0 (8 * y + x) (-1) (iw s 63 0 0)) fun i10 s9 => if i10 < 0 then i_o2 (f231 N 0 (-1) 0 (8 * y + x) s9) fun i12 s11 => i_o2 (f237 N i12 s11) fun i14 s13 => some (i14, s13) else some (-1, s9) := by
    unfold f259
    dsimp only
    rw [bmodF (z := 8 * y) (by omega) (by omega), bmodF (z := 8 * y + x) (by omega) (by omega), m_isCell, i_o2_some, a69, e0, e1, if_pos h, if_neg (by decide), m_tileAt on.1 on.2.1, i_o2_some, m_tileAt on.1 on.2.1, i_o2_some, a69]
  by_cases g7 : 7 ≤ s.1 13 (8 * y + x)
  · refine OKc.q hI (x := -1) (s1 := s) (s2 := iw s 63 0 0) ?_ ?_ sameQ_thrown
    · unfold f147
      rw [c79, i_o2_some, if_pos g7, if_pos rfl]
    · rw [mpre, ← et]
      by_cases g8 : s.1 13 (8 * y + x) = 8
      · rw [if_pos g8]
      · rw [if_neg g8, if_pos (by omega)]
  have o1 := occ2_who hV (d := 8 * y + x) on.1 on.2.1
  have e7 : (cQ s).2.2.1 (8 * y + x) = s.1 13 (8 * y + x) := rfl
  rw [e7, if_neg (by omega)] at o1
  have e9 : (s.1 71 1).toNat = (cQ s).2.2.2.1 := by rw [en, e3]
  have eo : mO (iw s 63 0 0) 0 (-1) (8 * y + x) = s.1 9 (8 * y + x) := by
    rw [sc _ on.1 on.2.1, ← en, o1, mO, if_neg (show ¬ (0 : Int) < 0 by decide), a78, a71, e9]
    exact (occ_eq8 he _ hn).symm
  by_cases g9 : s.1 9 (8 * y + x) < 0
  rotate_left
  · refine OKc.q hI (x := -1) (s1 := s) (s2 := iw s 63 0 0) ?_ ?_ sameQ_thrown
    · unfold f147
      rw [c79, i_o2_some, if_neg g7, if_neg (by decide), iov_ok (by omega) (by omega), iov_ok (by omega) (by omega)]
      dsimp only
      rw [ick_ok (by omega) (by omega), ec, if_neg g9]
    · rw [mpre, ← et, if_neg (by omega), if_neg (by omega), m_at hN hmo (by decide), i_o2_some, eo, if_neg g9]
  have r1 := roll_ex (Q := cQ s) (p := s.1 7) (t := -1) hw.1.2 hw.2.1.2 (w := s.1 9) hV sc (c := 8 * y + x) (by rw [e7]; omega) (by rw [e7]; omega) (fun m _ hm => absurd hm (by omega)) 64
  have r2 : roll (s.1 69 0) (s.1 69 1) (sh 2 (s.1 69)) (mO (iw s 63 0 0) 0 (-1)) 64 (fun j => decide (j = 8 * y + x)) (8 * y + x) = roll (cQ s).1 (cQ s).2.1 (cQ s).2.2.1 (exO (cQ s) (s.1 7) (-1)) 64 (fun j => decide (j = 8 * y + x)) (8 * y + x) := by
    rw [roll_eqQ hE hw.1.2 hw.2.1.2 _ _ _ _ on]
    have : mO (iw s 63 0 0) 0 (-1) = exO (cQ s) (s.1 7) (-1) := funext fun z => by
      rw [mO, if_neg (show ¬ (0 : Int) < 0 by decide), a78, a71, e9]
      exact (occ_eq8 he _ hn).symm
    rw [this]
    rfl
  refine OKc.q hI (x := tol (roll (cQ s).1 (cQ s).2.1 (cQ s).2.2.1 (exO (cQ s) (s.1 7) (-1)) 64 (fun j => decide (j = 8 * y + x)) (8 * y + x))) (s1 := s) (s2 := iw s 63 0 0) ?_ ?_ sameQ_thrown
  · unfold f147
    rw [c79, i_o2_some, if_neg g7, if_neg (by decide), iov_ok (by omega) (by omega), iov_ok (by omega) (by omega)]
    dsimp only
    rw [ick_ok (by omega) (by omega), ec, if_pos g9, c_rest hN hw on (by decide) (by decide), i_o2_some, c_told, i_o2_some, ← r1]
    rfl
  · rw [mpre, ← et, if_neg (by omega), if_neg (by omega), m_at hN hmo (by decide), i_o2_some, eo, if_pos g9, m_rolled hN hmo (by decide) on.1 on.2.1, i_o2_some, m_told, i_o2_some, a69, ← r2]
    rfl
end TELLS

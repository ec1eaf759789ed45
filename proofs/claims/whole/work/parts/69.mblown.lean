/-! Promise 20: blown answered alike. -/
section MBLOWN
variable {N : Nat} {s u t : gI} {k a : Int}
theorem blow1_64 {Q : Cf} {w : Int} {p : Int → Int} {t j : Int} (h : p j = 64) : blow1 Q w p t j = 64 := by
  by_cases e : j = t
  · subst e
    unfold blow1
    rw [if_neg (fun hh => by have := hh.1.2.1; omega)]
    exact h
  · rw [blow1_ne e]; exact h
theorem gust_64 {Q : Cf} {w j : Int} : ∀ (r : Nat) (t : Int) (p : Int → Int), p j = 64 → gust Q w r t p j = 64
  | 0, _, _, h => h
  | r + 1, t, p, h => by
    unfold gust
    exact gust_64 r (t + 1) _ (blow1_64 h)
theorem inH_mono {p q : Int → Int} (h : ∀ j : Int, p j = 64 → q j = 64) : ∀ n : Nat, inH p n ≤ inH q n
  | 0 => Int.le_refl _
  | n + 1 => by
    have ih := inH_mono h n
    have e1 : inH p (n + 1) = inH p n + (if p n = 64 then 1 else 0) := rfl
    have e2 : inH q (n + 1) = inH q n + (if q n = 64 then 1 else 0) := rfl
    rw [e1, e2]
    by_cases g : p n = 64
    · rw [if_pos g, if_pos (h n g)]; omega
    · rw [if_neg g]; split <;> omega
theorem gD_nn {w : Int} : 0 ≤ gD s w := by
  have := inH_mono (p := s.1 7) (q := gust (cQ s) w (cQ s).2.2.2.1 0 (s.1 7)) (fun j h => gust_64 _ _ _ h) (cQ s).2.2.2.1
  unfold gD
  omega
theorem bBest_0 {r : Nat} {w : Int} : bBest s (r + 1) w w 0 = bBest s (r + 1) w w (-1) := by
  have := gD_nn (s := s) (w := w)
  unfold bBest
  rw [if_neg (show ¬ gD s w ≤ -1 by omega)]
  by_cases h : gD s w ≤ 0
  · rw [if_pos h, show gD s w = 0 by omega]
  · rw [if_neg h]
theorem m_blown_lp (hN : 5000 ≤ N) (hI : INV k s) : ∀ (r fuel : Nat) (z b g w : Int) (u : gI), r < fuel → 0 ≤ w → w + r = 4 → -8 * w ≤ z → z ≤ 8 * w → trl 588 s u →
    ∃ v, trl 588 s v ∧ f274_at15 N fuel a z b g w u = some (if a = 0 then z + bSum s r w else if a = 1 then bBest s r w b g else -1, v) := by
  have hw := hI.1.1.1
  have hV := hI.1.1.2.2.1
  have hE := hI.1.2.2.1
  have hn := cW_n hw
  have e4 := (INV_eq hI).2.2.2.2
  have e3 := (INV_eq hI).2.2.2.1
  have en : (cQ s).2.2.2.1 = (s.1 15 3).toNat := rfl
  intro r
  induction r with
  | zero =>
    intro fuel z b g w u hf w0 e z0 z1 hu
    obtain ⟨fuel, rfl⟩ : ∃ g, fuel = g + 1 := ⟨fuel - 1, by omega⟩
    refine ⟨u, hu, ?_⟩
    unfold f274_at15 bSum bBest
    rw [if_pos (by omega), Int.add_zero]
    by_cases h : a = 0
    · rw [if_pos h, if_pos h]
    rw [if_neg h, if_neg h]
    split <;> rfl
  | succ r ih =>
    intro fuel z b g w u hf w0 e z0 z1 hu
    obtain ⟨fuel, rfl⟩ : ∃ g, fuel = g + 1 := ⟨fuel - 1, by omega⟩
    have hmo : mOK u := hu.OK hI.1.2.1
    have eM : mQ (cop u 0 588) = mQ s := by rw [cop_Q, hu.Q]
    have e71 : (cop u 0 588).1 71 = s.1 71 := by unfold cop; rw [ic_ne (by decide), hu.ne (by decide)]
    have e8 : eq8 (s.1 7) (sh 588 ((cop u 0 588).1 78)) := fun j j0 j1 => by
      rw [cop_sh j0 (by omega), sh_at, Int.zero_add, hu.at (by omega)]
      exact (e4 j j0 j1).symm
    have hkd : ∀ t : Nat, t < (mQ s).2.2.2.1 → 0 ≤ (mQ s).2.2.2.2 t ∧ (mQ s).2.2.2.2 t ≤ 3 := fun t ht => by
      rw [← hE.2.2.1] at ht
      rw [← hE.2.2.2.2 t ht]
      exact hI.2.2.1.1 t (by omega) (by omega)
    have l2 := m_gust (N := N) (u := cop u 0 588) (b := 588) (w := w) (p := sh 588 ((cop u 0 588).1 78)) hN (cop_OK hmo) (fun t ht => by
      rw [eM] at ht
      have := hkd t ht
      rw [← eM] at this
      exact this) (by decide) (by decide) w0 (by omega) (by rw [eM]; exact VV_eq hE e8 hn hV)
    rw [pst_self, eM, ← hE.2.2.1] at l2
    have ge := gust_eq (w := w) hE hw.1.2 hw.2.1.2 hn (cQ s).2.2.2.1 0 (s.1 7) (sh 588 ((cop u 0 588).1 78)) (by omega) hV e8
    have z' : ((0 : Nat) : Int) = 0 := rfl
    rw [z'] at ge
    generalize hM : gust (mQ s) w (cQ s).2.2.2.1 0 (sh 588 ((cop u 0 588).1 78)) = M at l2 ge
    have Mo : ∀ j, (j < 0 ∨ 8 ≤ j) → M j = (cop u 0 588).1 78 (588 + j) := fun j hj => by rw [← hM, gust_ne _ _ _ (by omega), sh_at]
    have hv : trl 588 s (pst (cop u 0 588) 588 M) := by
      refine hu.tr ⟨unsh 588 M, ?_, fun j hj => ?_⟩
      · unfold pst cop
        exact ic_ic
      · unfold unsh
        rw [Mo _ (by omega), show 588 + (j - 588) = j by omega, cop_out hj]
    have h1 := m_inHand (N := N) (s := pst (cop u 0 588) 588 M) hN (hv.OK hI.1.2.1) (b := 588) (by decide) (by decide)
    have h2 := m_inHand (N := N) (s := pst (cop u 0 588) 588 M) hN (hv.OK hI.1.2.1) (b := 0) (by decide) (by decide)
    rw [hv.ne (a := 71) (by decide), e3] at h1 h2
    rw [pst_sh] at h1
    have i1 : inH M (s.1 15 3).toNat = inH (gust (cQ s) w (cQ s).2.2.2.1 0 (s.1 7)) (cQ s).2.2.2.1 := inH_congr fun j hj => (ge.1 j (by omega) (by omega)).symm
    have i2 : inH (sh 0 ((pst (cop u 0 588) 588 M).1 78)) (s.1 15 3).toNat = inH (s.1 7) (cQ s).2.2.2.1 := inH_congr fun j hj => by
      rw [sh_at, Int.zero_add, hv.at (by omega)]
      exact e4 j (by omega) (by omega)
    rw [i1] at h1
    rw [i2] at h2
    have rg := gD_rg hw (w := w)
    have eD : inH (gust (cQ s) w (cQ s).2.2.2.1 0 (s.1 7)) (cQ s).2.2.2.1 - inH (s.1 7) (cQ s).2.2.2.1 = gD s w := rfl
    have cp : f215 N 0 588 18 u = some (cop u 0 588) := m_copies hN (by decide) (by decide) (by decide) (by decide) (by decide) (by decide)
    unfold f274_at15 f274_at74 bSum bBest
    rw [if_neg (by omega), cp, i_o1_some, l2, i_o2_some, h1, i_o2_some, h2, i_o2_some, eD, iov_ok (by omega) (by omega)]
    dsimp only
    rw [iov_ok (by omega) (by omega), iov_ok (by omega) (by omega), ← Int.add_assoc]
    by_cases h : gD s w ≤ g
    · simp only [if_pos h]
      exact ih fuel (z + gD s w) b g (w + 1) _ (by omega) (by omega) (by omega) (by omega) (by omega) hv
    · simp only [if_neg h]
      rw [iov_ok (by omega) (by omega)]
      exact ih fuel (z + gD s w) w (gD s w) (w + 1) _ (by omega) (by omega) (by omega) (by omega) (by omega) hv
theorem bSum_eq (h : ∀ w, gD t w = gD s w) : ∀ (r : Nat) (w : Int), bSum t r w = bSum s r w
  | 0, _ => rfl
  | r + 1, w => by
    unfold bSum
    rw [h, bSum_eq h r]
theorem bBest_eq (h : ∀ w, gD t w = gD s w) : ∀ (r : Nat) (w b g : Int), bBest t r w b g = bBest s r w b g
  | 0, _, _, _ => rfl
  | r + 1, w, b, g => by
    unfold bBest
    rw [h, bBest_eq h r, bBest_eq h r]
theorem q_blown (hN : 5000 ≤ N) (hI : INV k s) : OKc k s (f154 N a) (f274 N a) := by
  have hw := hI.1.1.1
  have gen : ∀ v : gI, (v = s ∨ v = held s) → ∃ v2, sameQ s v2 ∧ f274 N a v = some (if a = 0 then bSum s 4 0 else if a = 1 then bBest s 4 0 0 (-1) else -1, v2) := fun v hv => by
    have q1 : sameQ s (iw v 63 0 0) := by
      rcases hv with q | q <;> subst q
      · exact sameQ_thrown
      · exact held_sameQ.tr sameQ_thrown
    obtain ⟨v2, w1, w2⟩ := m_blown_lp (N := N) (a := a) hN (sameQ_inv q1 hI) 4 N 0 0 (-1) 0 (iw v 63 0 0) (by omega) (by decide) (by decide) (by decide) (by decide) trl.rf
    have hg : ∀ w, gD (iw v 63 0 0) w = gD s w := fun w => by
      unfold gD
      rw [sameQ_cQ q1, q1.1 7 (by omega)]
    rw [bSum_eq hg, bBest_eq hg, Int.zero_add] at w2
    exact ⟨v2, q1.tr (sameQ_trl (by decide) w1), w2⟩
  by_cases h : 0 ≤ a ∧ a ≤ 1
  rotate_left
  · obtain ⟨v2, w1, w2⟩ := gen s (Or.inl rfl)
    rw [if_neg (by omega), if_neg (by omega)] at w2
    refine OKc.q hI (x := -1) (s1 := s) (s2 := v2) ?_ w2 w1
    unfold f154
    by_cases g : a < 0
    · rw [if_pos g]
    · rw [if_neg g, if_neg (by omega)]
  obtain ⟨v, hv, l1⟩ := c_blown_lp (N := N) (a := a) hN hI 4 N 0 0 0 0 s (by omega) (by decide) (by decide) (by decide) (by decide) (Or.inl rfl)
  obtain ⟨v2, w1, w2⟩ := gen v hv
  have l2 := c_manyAt (N := N) (s := s) hN hw (w := 64)
  rw [inH_tol] at l2
  rw [Int.zero_add, bBest_0] at l1
  refine OKc.q hI (x := if a = 0 then bSum s 4 0 else bBest s 4 0 0 (-1)) (s1 := v) (s2 := v2) ?_ ?_ w1
  · unfold f154
    rw [if_neg (by omega), if_pos h.2, l2, i_o2_some]
    exact l1
  · rw [w2]
    by_cases g : a = 0
    · rw [if_pos g, if_pos g]
    · rw [if_neg g, if_neg g, if_pos (by omega)]
end MBLOWN

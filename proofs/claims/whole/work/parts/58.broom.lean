/-! Promise 13: broom. -/
section BROOM
variable {N : Nat} {s u c m : gI} {k : Int} {p q : Int → Int} {Q : Cf} {P : Int → Bool}
def far (a b : Int) : Int := if 0 ≤ a - b then a - b else 0 - (a - b)
/-- on the roof and within the broom's reach -/
def reach (x y r : Int) (z : Int) : Bool := decide (z < 64 ∧ far (z % 8) x + far (z / 8) y ≤ r)
def swp1 (P : Int → Bool) (p : Int → Int) (t : Int) : Int → Int := if P (p t) = true then zup p t 64 else p
def swp (P : Int → Bool) : Nat → Int → (Int → Int) → Int → Int
  | 0, _, p => p
  | r + 1, t, p => swp P r (t + 1) (swp1 P p t)
def swpB (P : Int → Bool) : Nat → Int → (Int → Int) → Int → Int
  | 0, _, _, a => a
  | r + 1, t, p, a => swpB P r (t + 1) (swp1 P p t) (if P (p t) = true then i_or a (i_shl 1 t) else a)
theorem swp1_ne {t j : Int} (h : j ≠ t) : swp1 P p t j = p j := by
  unfold swp1
  split
  · exact zup_ne h
  · rfl
theorem swp_ne {j : Int} : ∀ (r : Nat) (t : Int) (p : Int → Int), (j < t ∨ t + r ≤ j) → swp P r t p j = p j
  | 0, _, _, _ => rfl
  | r + 1, t, p, h => by
    unfold swp
    rw [swp_ne r (t + 1) _ (by omega), swp1_ne (by omega)]
theorem VV_swp1 {t : Nat} (hV : VV Q p) : VV Q (swp1 P p t) := by
  unfold swp1
  split
  · exact VV_zup hV okq_64
  · exact hV
theorem VV_swp : ∀ (r t : Nat) (p : Int → Int), VV Q p → VV Q (swp P r t p)
  | 0, _, _, h => h
  | r + 1, t, p, h => by
    unfold swp
    exact VV_swp r (t + 1) _ (VV_swp1 h)
theorem swp1_eq {t : Int} (he : eq8 p q) (t0 : 0 ≤ t) (t1 : t < 8) : eq8 (swp1 P p t) (swp1 P q t) := by
  unfold swp1
  rw [he t t0 t1]
  split
  · intro j j0 j1
    by_cases hj : j = t
    · subst hj; rw [zup_same, zup_same]
    · rw [zup_ne hj, zup_ne hj]; exact he j j0 j1
  · exact he
theorem swp_eq : ∀ (r : Nat) (t : Int) (p q : Int → Int) (a : Int), 0 ≤ t → t + r ≤ 8 → eq8 p q → eq8 (swp P r t p) (swp P r t q) ∧ swpB P r t p a = swpB P r t q a
  | 0, _, _, _, _, _, _, he => ⟨he, rfl⟩
  | r + 1, t, p, q, a, t0, t1, he => by
    have ih := swp_eq r (t + 1) _ _ (if P (p t) = true then i_or a (i_shl 1 t) else a) (by omega) (by omega) (swp1_eq (P := P) he t0 (by omega))
    unfold swp swpB
    rw [← he t t0 (by omega)]
    exact ih
theorem c_swp_lp (hw : cOK s) (hx : 0 ≤ s.1 15 13 ∧ s.1 15 13 ≤ 7) (hy : 0 ≤ s.1 15 14 ∧ s.1 15 14 ≤ 7) : ∀ (r fuel t : Nat) (a : Int) (p : Int → Int), r < fuel → t + r = (cQ s).2.2.2.1 → VV (cQ s) p →
    f57_at4 N fuel a t (cst s p) = some (swpB (reach (s.1 15 13) (s.1 15 14) (s.1 15 15)) r t p a, cst s (swp (reach (s.1 15 13) (s.1 15 14) (s.1 15 15)) r t p)) := by
  intro r
  have hn := hw.2.2.1
  have en : (cQ s).2.2.2.1 = (s.1 15 3).toNat := rfl
  induction r with
  | zero =>
    intro fuel t a p hf e hV
    obtain ⟨fuel, rfl⟩ : ∃ g, fuel = g + 1 := ⟨fuel - 1, by omega⟩
    unfold f57_at4
    rw [cst_ne (by decide) (by decide), if_pos (by omega)]
    rfl
  | succ r ih =>
    intro fuel t a p hf e hV
    obtain ⟨fuel, rfl⟩ : ∃ g, fuel = g + 1 := ⟨fuel - 1, by omega⟩
    have hm : t < (cQ s).2.2.2.1 := by omega
    have rp := okq_rg (hV t hm)
    have c : ((t + 1 : Nat) : Int) = (t : Int) + 1 := by omega
    unfold f57_at4 swpB swp swp1
    rw [cst_ne (by decide) (by decide), if_neg (by omega), ick_ok (by omega) (by omega), cst_7]
    dsimp only
    by_cases g : 64 ≤ p t
    · rw [if_pos g, iov_ok (by omega) (by omega)]
      have g2 : ¬ reach (s.1 15 13) (s.1 15 14) (s.1 15 15) (p t) = true := fun hh => by
        have := (of_decide_eq_true hh).1
        omega
      simp only [if_neg g2]
      have := ih fuel (t + 1) a p (by omega) (by omega) hV
      rw [c] at this
      exact this
    rw [if_neg g]
    have ef : f58 N (p t) (cst s p) = some (far (p t % 8) (s.1 15 13) + far (p t / 8) (s.1 15 14), cst s p) := by
      have b1 : -8 ≤ far (p t % 8) (s.1 15 13) ∧ far (p t % 8) (s.1 15 13) ≤ 8 := by unfold far; split <;> omega
      have b2 : -8 ≤ far (p t / 8) (s.1 15 14) ∧ far (p t / 8) (s.1 15 14) ≤ 8 := by unfold far; split <;> omega
      unfold f58
      rw [cst_ne (by decide) (by decide), idv_ok (by omega) (by decide), iov_ok (by omega) (by omega), iov_ok (by omega) (by omega), idv_ok (by omega) (by decide), iov_ok (by omega) (by omega), iov_ok (by omega) (by omega)]
      exact iov_ok (by unfold far at b1 b2; omega) (by unfold far at b1 b2; omega)
    rw [ef, i_o2_some, cst_ne (by decide) (by decide)]
    by_cases g2 : s.1 15 15 < far (p t % 8) (s.1 15 13) + far (p t / 8) (s.1 15 14)
    · rw [if_pos g2, iov_ok (by omega) (by omega)]
      have g3 : ¬ reach (s.1 15 13) (s.1 15 14) (s.1 15 15) (p t) = true := fun hh => by
        have := (of_decide_eq_true hh).2
        omega
      simp only [if_neg g3]
      have := ih fuel (t + 1) a p (by omega) (by omega) hV
      rw [c] at this
      exact this
    · have g3 : reach (s.1 15 13) (s.1 15 14) (s.1 15 15) (p t) = true := decide_eq_true ⟨by omega, by omega⟩
      rw [if_neg g2, c_put hV (by omega) hm okq_64, i_o1_some, iov_ok (by omega) (by omega)]
      simp only [if_pos g3]
      have := ih fuel (t + 1) (i_or a (i_shl 1 t)) (zup p t 64) (by omega) (by omega) (VV_zup hV okq_64)
      rw [c] at this
      exact this
theorem m_far {a b : Int} (ha : -100 ≤ a ∧ a ≤ 100) (hb : -100 ≤ b ∧ b ≤ 100) : f244 N a b s = some (far a b, s) := by
  unfold f244 far
  by_cases g : b ≤ a
  · rw [if_pos g, if_pos (by omega), iov_ok (by omega) (by omega)]
  · rw [if_neg g, if_neg (by omega), iov_ok (by omega) (by omega), show 0 - (a - b) = b - a by omega]
theorem m_swp_lp (hw : mOK u) (hx : 0 ≤ u.1 71 5 ∧ u.1 71 5 ≤ 7) (hy : 0 ≤ u.1 71 6 ∧ u.1 71 6 ≤ 7) : ∀ (r fuel t : Nat) (a : Int) (p : Int → Int), r < fuel → t + r = (mQ u).2.2.2.1 → (∀ j : Nat, j < (mQ u).2.2.2.1 → 0 ≤ p j) →
    f250_at24 N fuel a t (pst u 0 p) = some (swpB (reach (u.1 71 5) (u.1 71 6) (u.1 71 4)) r t p a, pst u 0 (swp (reach (u.1 71 5) (u.1 71 6) (u.1 71 4)) r t p)) := by
  intro r
  have en : (mQ u).2.2.2.1 = (u.1 71 1).toNat := rfl
  have hn := hw.2.2
  have ne : ∀ (p : Int → Int) (a : Nat), a ≠ 78 → (pst u 0 p).1 a = u.1 a := fun p a h => ic_ne h
  induction r with
  | zero =>
    intro fuel t a p hf e hp
    obtain ⟨fuel, rfl⟩ : ∃ g, fuel = g + 1 := ⟨fuel - 1, by omega⟩
    unfold f250_at24
    rw [m_things, i_o2_some, ne _ _ (by decide), if_pos (by omega)]
    rfl
  | succ r ih =>
    intro fuel t a p hf e hp
    obtain ⟨fuel, rfl⟩ : ∃ g, fuel = g + 1 := ⟨fuel - 1, by omega⟩
    have c : ((t + 1 : Nat) : Int) = (t : Int) + 1 := by omega
    have p0 := hp t (by omega)
    unfold f250_at24 swpB swp swp1
    rw [m_things, i_o2_some, ne _ _ (by decide), if_neg (by omega), ick_ok (by omega) (by omega), pst0_at]
    by_cases g : 64 ≤ p t
    · rw [if_pos g, iov_ok (by omega) (by omega)]
      have g2 : ¬ reach (u.1 71 5) (u.1 71 6) (u.1 71 4) (p t) = true := fun hh => by
        have := (of_decide_eq_true hh).1
        omega
      simp only [if_neg g2]
      have := ih fuel (t + 1) a p (by omega) (by omega) hp
      rw [c] at this
      exact this
    rw [if_neg g, ick_ok (by omega) (by omega), idv_ok (by omega) (by decide), ick_ok (by omega) (by omega), m_far (by omega) (by omega), i_o2_some, ne p 71 (by decide), ick_ok (by omega) (by omega), pst0_at, idv_ok (by omega) (by decide), ick_ok (by omega) (by omega), m_far (by omega) (by omega), i_o2_some, ne p 71 (by decide)]
    have b1 : -8 ≤ far (p t % 8) (u.1 71 5) ∧ far (p t % 8) (u.1 71 5) ≤ 8 := by unfold far; split <;> omega
    have b2 : -8 ≤ far (p t / 8) (u.1 71 6) ∧ far (p t / 8) (u.1 71 6) ≤ 8 := by unfold far; split <;> omega
    rw [iov_ok (by omega) (by omega), ick_ok (by omega) (by omega)]
    by_cases g2 : u.1 71 4 < far (p t % 8) (u.1 71 5) + far (p t / 8) (u.1 71 6)
    · rw [if_pos g2, iov_ok (by omega) (by omega)]
      have g3 : ¬ reach (u.1 71 5) (u.1 71 6) (u.1 71 4) (p t) = true := fun hh => by
        have := (of_decide_eq_true hh).2
        omega
      simp only [if_neg g3]
      have := ih fuel (t + 1) a p (by omega) (by omega) hp
      rw [c] at this
      exact this
    · have g3 : reach (u.1 71 5) (u.1 71 6) (u.1 71 4) (p t) = true := decide_eq_true ⟨by omega, by omega⟩
      rw [if_neg g2, ick_ok (by omega) (by omega)]
      dsimp only
      rw [iov_ok (by omega) (by omega), pst0_w]
      simp only [if_pos g3]
      have := ih fuel (t + 1) (i_or a (i_shl 1 t)) (zup p t 64) (by omega) (by omega) (fun j hj => by
        by_cases h : (j : Int) = t
        · rw [h, zup_same]; decide
        · rw [zup_ne h]; exact hp j hj)
      rw [c] at this
      exact this
theorem q_broom (hN : 5000 ≤ N) (hI : INV k s) (hk : 0 ≤ k) : OKc k s (f142 N) (f250 N) := by
  obtain ⟨e0, e1, e2, e3, e4⟩ := INV_eq hI
  obtain ⟨-, -, -, -, -, -, -, i34, i3r, i3b, -⟩ := hI.2.2.1
  by_cases hz : 0 ≤ s.1 15 15
  rotate_left
  · refine OKc.q hI (x := -1) (s1 := s) (s2 := iw s 63 0 0) ?_ ?_ sameQ_thrown
    · unfold f142 f116
      rw [if_pos (by omega), ib1_ok (Or.inl rfl), i_o2_some, if_pos rfl]
    · unfold f250
      dsimp only
      rw [ick_ok (by omega) (by omega), iw_ne (by decide), if_neg (by omega)]
  obtain ⟨b5, bx, b6, bY⟩ := i3b hz
  have hw := hI.1.1.1
  have sc := hI.1.1.2.1
  have hV := hI.1.1.2.2.1
  have i2 := hI.2.1
  have hn := cW_n hw
  have hn0 := hw.2.2.1
  have en : (cQ s).2.2.2.1 = (s.1 15 3).toNat := rfl
  have z : ((0 : Nat) : Int) = 0 := rfl
  obtain ⟨u1, u2, u3, -⟩ := hI.2.2.2.2.1
  have r15 : (remS s).1 15 = s.1 15 := remS_ne (by decide) (by decide)
  have l1 := c_swp_lp (N := N) (s := remS s) (remS_OK hw) (by rw [r15]; exact bx) (by rw [r15]; exact bY) (cQ s).2.2.2.1 N 0 0 (s.1 7) (by omega) (by rw [remS_Q]; omega) (by rw [remS_Q]; exact hV)
  rw [remS_cst sc, z, r15] at l1
  generalize hP : reach (s.1 15 13) (s.1 15 14) (s.1 15 15) = P at l1
  have cfin : f142 N s = some (swpB P (cQ s).2.2.2.1 0 (s.1 7) 0, cst (remS s) (swp P (cQ s).2.2.2.1 0 (s.1 7))) := by
    unfold f142 f57 f116
    rw [if_neg (by omega), ib1_ok (Or.inr rfl), i_o2_some, if_neg (by decide), c_remember u3 u2, i_o1_some, l1, i_o2_some]
  have hact : actC s (cst (remS s) (swp P (cQ s).2.2.2.1 0 (s.1 7))) := act_cst
  obtain ⟨G, hG1, hG2⟩ := hand_keep hN hI hact
  have hE := hI.1.2.2.1
  have e8 := kep_eq8 hI hG2
  have hmo := actC_mOK hact hI.1.2.1
  have eqm := kep_mQ hI hact (G := G)
  have e71 : (cst (remS s) (swp P (cQ s).2.2.2.1 0 (s.1 7))).1 71 = s.1 71 := by rw [cst_ne (by decide) (by decide), remS_ne (by decide) (by decide)]
  have e71' : (kepS (cst (remS s) (swp P (cQ s).2.2.2.1 0 (s.1 7))) G).1 71 = s.1 71 := by rw [kepS_ne (by decide) (by decide), e71]
  have l2 := m_swp_lp (N := N) (u := kepS (cst (remS s) (swp P (cQ s).2.2.2.1 0 (s.1 7))) G) (kepS_OK hmo) (by rw [e71', b5]; exact bx) (by rw [e71', b6]; exact bY) (cQ s).2.2.2.1 N 0 0 (sh 0 G) (by omega) (by rw [eqm, ← hE.2.2.1]; omega) (fun j hj => by
    rw [eqm, ← hE.2.2.1] at hj
    rw [← e8 j (by omega) (by omega)]
    have := okq_rg (hV j hj)
    omega)
  rw [kep_pst, z, e71', b5, b6, i34, hP] at l2
  have ge := swp_eq (P := P) (cQ s).2.2.2.1 0 (s.1 7) (sh 0 G) 0 (by omega) (by omega) e8
  have mfin : f250 N (cst (remS s) (swp P (cQ s).2.2.2.1 0 (s.1 7))) = some (swpB P (cQ s).2.2.2.1 0 (s.1 7) 0, pst (kepS (cst (remS s) (swp P (cQ s).2.2.2.1 0 (s.1 7))) G) 0 (swp P (cQ s).2.2.2.1 0 (sh 0 G))) := by
    unfold f250
    dsimp only
    rw [ick_ok (by omega) (by omega), iw_ne (by decide), e71, if_pos (by omega), hG1, i_o1_some, l2, ge.2]
  refine ⟨_, _, _, cfin, mfin, ?_⟩
  have out : ∀ j : Int, 8 ≤ j → swp P (cQ s).2.2.2.1 0 (sh 0 G) j = G j := fun j hj => by
    rw [swp_ne _ _ _ (Or.inr (by omega)), sh_at, Int.zero_add]
  have c8 : (cst (remS s) (swp P (cQ s).2.2.2.1 0 (s.1 7))).1 8 = s.1 8 := by rw [cst_ne (by decide) (by decide), remS_ne (by decide) (by decide)]
  have c6 : (cst (remS s) (swp P (cQ s).2.2.2.1 0 (s.1 7))).1 6 = s.1 6 := by rw [cst_ne (by decide) (by decide), remS_ne (by decide) (by decide)]
  have := i2.2.2.2.2.2.2.1
  have := i2.2.2.2.2.2.2.2
  refine hand_pst hI hk hact hG2 cst_7 (VV_swp _ 0 _ hV) cst_sc (fun j j0 j1 => ?_) ge.1.sy (fun j j0 j1 => ?_) ?_ ?_ (fun j j0 => out j (by omega)) (by rw [c6]; omega) (by rw [c6]; omega)
  · rw [swp_ne _ _ _ (Or.inr (by omega))]
    exact i2.2.2.2.2.2.1 j j0 j1
  · rw [out _ (by omega), hG2.1 _ (by omega), c8]
    exact i2.1 j j0 j1
  · rw [out _ (by decide), hG2.1 _ (by decide), c6]
    exact i2.2.1
  · rw [out _ (by decide), hG2.1 _ (by decide), c6]
    exact i2.2.2.1
end BROOM

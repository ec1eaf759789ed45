/-! Promise 11: gale, as the reference answers it. -/
section MGUST
variable {N : Nat} {s u c m : gI} {p q : Int → Int} {Q R : Cf} {w b k : Int}
theorem VV_eq (h : eqQ Q R) (he : eq8 p q) (hn : Q.2.2.2.1 ≤ 8) (hV : VV Q p) : VV R q := by
  intro k hk
  obtain ⟨e1, e2, e3, e4, e5⟩ := h
  rw [← e3] at hk
  rw [← he k (by omega) (by omega)]
  have nx : ∀ z : Int, (∀ j : Nat, j < Q.2.2.2.1 → (j : Int) ≠ k → p j ≠ z) → ∀ j : Nat, j < R.2.2.2.1 → (j : Int) ≠ k → q j ≠ z := fun z hz j hj ht => by
    rw [← he j (by omega) (by omega)]
    exact hz j (by omega) ht
  have on : ∀ z : Int, onR Q z → onR R z := fun z hz => ⟨hz.1, hz.2.1, by rw [← e1]; exact hz.2.2.1, by rw [← e2]; exact hz.2.2.2⟩
  rcases hV k hk with g | g | g | g
  · exact Or.inl g
  · exact Or.inr (Or.inl g)
  · exact Or.inr (Or.inr (Or.inl ⟨on _ g.1, by rw [← e4 _ g.1]; exact g.2.1, by rw [← e4 _ g.1]; exact g.2.2.1, nx _ g.2.2.2⟩))
  · exact Or.inr (Or.inr (Or.inr ⟨on _ g.1, by rw [← e4 _ g.1]; exact g.2.1, nx _ g.2.2⟩))
theorem m_at153 {f : Int → Int → Int → Int → gI → Option (Int × gI)} {a t x : Int} (hb0 : 0 ≤ b) (hb : b ≤ 680) (h0 : 0 ≤ t) (h1 : t < 8) (a0 : 0 ≤ a) (a1 : a ≤ 100) : f251_at153 N f b w a t x (pst u b p) = f b w (a + (if p t = x then 0 else 1)) (t + 1) (pst u b p) := by
  unfold f251_at153 f251_at173
  rw [iov_ok (by omega) (by omega), ick_ok (by omega) (by omega), pst_78]
  have e : unsh b p (b + t) = p t := by unfold unsh; rw [show b + t - b = t by omega]
  rw [e]
  by_cases g : p t = x
  · rw [if_pos g, if_pos g, iov_ok (by omega) (by omega), iov_ok (by omega) (by omega)]
  · rw [if_neg g, if_neg g, iov_ok (by omega) (by omega), iov_ok (by omega) (by omega)]
theorem m_at70 {f : Int → Int → Int → Int → gI → Option (Int × gI)} {a t : Int} (hN : 5000 ≤ N) (hw : mOK u) (hb0 : 0 ≤ b) (hb : b ≤ 680) (h0 : 0 ≤ w) (h1 : w ≤ 3) (t0 : 0 ≤ t) (t1 : t < 8) (a0 : 0 ≤ a) (a1 : a ≤ 100) (p0 : 0 ≤ p t) (p1 : p t < 64) :
    f251_at70 N f b w a t (p t) 1 (pst u b p) = f251_at128 N f b w a t (p t) (bTo (mQ u) w p t) (pst u b p) := by
  unfold f251_at70 f251_at100 f251_at120
  have e : f228 N b t (p t % 8 + ac (w + 1)) (p t / 8 + al (w + 1)) (pst u b p) = some (bTo (mQ u) w p t, pst u b p) := by
    have ha := acal h0 h1
    rw [m_to1 hN (pst_OK hw) hb0 (by omega) (by omega) (by omega), pst_Q, pst_sh]
    rfl
  rw [if_neg (by decide)]
  rcases acal h0 h1 with ⟨g1, g2, g⟩ | ⟨g1, g2, g⟩ | ⟨g1, g2, g⟩ | ⟨g1, g2, g⟩ <;> rw [g1, g2] at e <;> subst g
  · simp (disch := omega) only [ick_ok, iov_ok, iol_ok, idv_ok, ich_ok, icp_ok, i_o2_some, i_o1_some]
    simp only [Int.reduceMul, Int.reduceSub, Int.reduceLE, if_false]
    rw [e, i_o2_some]
  · simp (disch := omega) only [ick_ok, iov_ok, iol_ok, idv_ok, ich_ok, icp_ok, i_o2_some, i_o1_some]
    simp only [Int.reduceMul, Int.reduceSub, Int.reduceLE, if_false]
    rw [e, i_o2_some]
  · simp (disch := omega) only [ick_ok, iov_ok, iol_ok, idv_ok, ich_ok, icp_ok, i_o2_some, i_o1_some]
    simp only [Int.reduceMul, Int.reduceSub, Int.reduceLE, if_true]
    rw [e, i_o2_some]
  · simp (disch := omega) only [ick_ok, iov_ok, iol_ok, idv_ok, ich_ok, icp_ok, i_o2_some, i_o1_some]
    simp only [Int.reduceMul, Int.reduceSub, Int.reduceLE, if_true]
    rw [e, i_o2_some]
theorem m_gust_lp (hN : 5000 ≤ N) (hw : mOK u) (hk : ∀ t : Nat, t < (mQ u).2.2.2.1 → 0 ≤ u.1 71 (14 + 3 * t) ∧ u.1 71 (14 + 3 * t) ≤ 3) (hb0 : 0 ≤ b) (hb : b ≤ 680) (h0 : 0 ≤ w) (h1 : w ≤ 3) : ∀ (r fuel t : Nat) (a : Int) (p : Int → Int), r < fuel → t + r = (mQ u).2.2.2.1 → VV (mQ u) p → 0 ≤ a → a + r ≤ 8 →
    f251_at5 N fuel b w a t (pst u b p) = some (a + gustN (mQ u) w r t p, pst u b (gust (mQ u) w r t p)) := by
  intro r
  have en : (mQ u).2.2.2.1 = (u.1 71 1).toNat := rfl
  have hn := hw.2.2
  have ne : ∀ (p : Int → Int) (a : Nat), a ≠ 78 → (pst u b p).1 a = u.1 a := fun p a h => ic_ne h
  induction r with
  | zero =>
    intro fuel t a p hf e hV a0 a1
    obtain ⟨fuel, rfl⟩ : ∃ g, fuel = g + 1 := ⟨fuel - 1, by omega⟩
    unfold f251_at5
    rw [m_things, i_o2_some, ne _ _ (by decide), if_pos (by omega)]
    show some (a, pst u b p) = some (a + 0, pst u b p)
    rw [Int.add_zero]
  | succ r ih =>
    intro fuel t a p hf e hV a0 a1
    obtain ⟨fuel, rfl⟩ : ∃ g, fuel = g + 1 := ⟨fuel - 1, by omega⟩
    have hm : t < (mQ u).2.2.2.1 := by omega
    have rp := okq_rg (hV t hm)
    have rk := hk t hm
    have c : ((t + 1 : Nat) : Int) = (t : Int) + 1 := by omega
    have eu : unsh b p (b + t) = p t := by unfold unsh; rw [show b + (t : Int) - b = t by omega]
    have go : ∀ a2 : Int, 0 ≤ a2 → a2 + r ≤ 8 → f251_at5 N fuel b w a2 ((t : Int) + 1) (pst u b (blow1 (mQ u) w p t)) = some (a2 + gustN (mQ u) w r ((t : Int) + 1) (blow1 (mQ u) w p t), pst u b (gust (mQ u) w r ((t : Int) + 1) (blow1 (mQ u) w p t))) := by
      intro a2 h2 h3
      have := ih fuel (t + 1) a2 (blow1 (mQ u) w p t) (by omega) (by omega) (VV_blow1 hw.1.2 hw.2.1.2 hm hV) h2 h3
      rwa [c] at this
    have stay : blow1 (mQ u) w p t = p → f251_at128 N (f251_at5 N fuel) b w a t (p t) (-1) (pst u b p) = some (a + gustN (mQ u) w (r + 1) t p, pst u b (gust (mQ u) w (r + 1) t p)) := by
      intro hb2
      have := go a a0 (by omega)
      unfold f251_at128
      rw [if_pos (by decide), m_at153 hb0 hb (by omega) (by omega) a0 (by omega), if_pos rfl, Int.add_zero]
      unfold gust gustN
      rw [hb2] at this ⊢
      rw [this, if_pos rfl, Int.zero_add]
    have stay2 : blow1 (mQ u) w p t = p → f251_at69 N (f251_at5 N fuel) b w a t (p t) (pst u b p) = some (a + gustN (mQ u) w (r + 1) t p, pst u b (gust (mQ u) w (r + 1) t p)) := by
      intro hb2
      unfold f251_at69 f251_at70
      rw [if_pos rfl]
      exact stay hb2
    unfold f251_at5
    rw [m_things, i_o2_some, ne _ _ (by decide), if_neg (by omega), iov_ok (by omega) (by omega), ick_ok (by omega) (by omega), pst_78, eu]
    dsimp only
    rw [m_thingOf (by omega) (by omega) (by decide) (by decide), i_o2_some, ne _ _ (by decide), Int.add_zero, idv_ok (by omega) (by decide)]
    have ek : (mQ u).2.2.2.2 t = u.1 71 (14 + 3 * t) := rfl
    by_cases g2 : u.1 71 (14 + 3 * t) % 2 = 0
    rotate_left
    · rw [if_neg g2]
      exact stay2 (if_neg fun hh => by have := hh.1.1; rw [ek] at this; omega)
    rw [if_pos g2]
    by_cases g1 : 64 ≤ p t
    · rw [if_pos g1]
      exact stay2 (if_neg fun hh => by have := hh.1.2.1; omega)
    rw [if_neg g1, m_tileAt (by omega) (by omega), i_o2_some, ne _ _ (by decide)]
    have et : (mQ u).2.2.1 (p t) = u.1 69 (2 + p t) := rfl
    by_cases g3 : u.1 69 (2 + p t) = 5
    · rw [if_pos g3]
      exact stay2 (if_neg fun hh => hh.1.2.2.1 (by rw [et]; exact g3))
    rw [if_neg g3, m_tileAt (by omega) (by omega), i_o2_some, ne _ _ (by decide)]
    by_cases g4 : u.1 69 (2 + p t) = 6
    · rw [if_pos g4]
      exact stay2 (if_neg fun hh => hh.1.2.2.2 (by rw [et]; exact g4))
    rw [if_neg g4, m_at70 hN hw hb0 hb h0 h1 (by omega) (by omega) a0 (by omega) (by omega) (by omega)]
    have hin : inWind (mQ u) p t := ⟨by rw [ek]; omega, by omega, by rw [et]; exact g3, by rw [et]; exact g4⟩
    by_cases g5 : bTo (mQ u) w p t < 0
    · unfold f251_at128
      rw [if_pos g5]
      have := stay (if_neg fun hh => by have := hh.2; omega)
      unfold f251_at128 at this
      rw [if_pos (by decide)] at this
      exact this
    unfold f251_at128
    rw [if_neg g5, iov_ok (by omega) (by omega), ick_ok (by omega) (by omega)]
    dsimp only
    have hb2 : blow1 (mQ u) w p t = rollsOn (mQ u) (zup p t (bTo (mQ u) w p t)) t := if_pos ⟨hin, by omega⟩
    rw [pst_w, m_rollsOn hN (pst_OK hw) hb0 (by omega) (by omega) (by omega) (by rw [pst_78]; unfold unsh; rw [show b + (t : Int) - b = t by omega, zup_same]; omega), pst_Q, pst_sh, pst_pst, i_o1_some, ← hb2, m_at153 hb0 hb (by omega) (by omega) a0 (by omega), go _ (by split <;> omega) (by split <;> omega), Int.add_assoc]
    rfl
theorem m_gust (hN : 5000 ≤ N) (hw : mOK u) (hk : ∀ t : Nat, t < (mQ u).2.2.2.1 → 0 ≤ u.1 71 (14 + 3 * t) ∧ u.1 71 (14 + 3 * t) ≤ 3) (hb0 : 0 ≤ b) (hb : b ≤ 680) (h0 : 0 ≤ w) (h1 : w ≤ 3) (hV : VV (mQ u) p) :
    f251 N b w (pst u b p) = some (gustN (mQ u) w (mQ u).2.2.2.1 0 p, pst u b (gust (mQ u) w (mQ u).2.2.2.1 0 p)) := by
  have en : (mQ u).2.2.2.1 = (u.1 71 1).toNat := rfl
  have hn := hw.2.2
  have := m_gust_lp (N := N) hN hw hk hb0 hb h0 h1 (mQ u).2.2.2.1 N 0 0 p (by omega) (by omega) hV (by omega) (by omega)
  rw [Int.zero_add] at this
  exact this
end MGUST

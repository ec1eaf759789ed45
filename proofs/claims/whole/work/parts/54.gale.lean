/-! Promise 11: gale. -/
section GUST
variable {N : Nat} {s u : gI} {p q : Int → Int} {Q R : Cf} {w : Int}
/-- light, on the roof and in the open -/
abbrev inWind (Q : Cf) (p : Int → Int) (t : Int) : Prop := (Q.2.2.2.2 t = 0 ∨ Q.2.2.2.2 t = 2) ∧ p t < 64 ∧ Q.2.2.1 (p t) ≠ 5 ∧ Q.2.2.1 (p t) ≠ 6
def bTo (Q : Cf) (w : Int) (p : Int → Int) (t : Int) : Int := to1 Q p t (p t % 8 + ac (w + 1)) (p t / 8 + al (w + 1))
def blow1 (Q : Cf) (w : Int) (p : Int → Int) (t : Int) : Int → Int := if inWind Q p t ∧ 0 ≤ bTo Q w p t then rollsOn Q (zup p t (bTo Q w p t)) t else p
def gust (Q : Cf) (w : Int) : Nat → Int → (Int → Int) → Int → Int
  | 0, _, p => p
  | r + 1, t, p => gust Q w r (t + 1) (blow1 Q w p t)
def gustN (Q : Cf) (w : Int) : Nat → Int → (Int → Int) → Int
  | 0, _, _ => 0
  | r + 1, t, p => (if blow1 Q w p t t = p t then 0 else 1) + gustN Q w r (t + 1) (blow1 Q w p t)
theorem blow1_ne {t j : Int} (h : j ≠ t) : blow1 Q w p t j = p j := by
  unfold blow1
  split
  · rw [rollsOn_ne h, zup_ne h]
  · rfl
theorem gust_ne {j : Int} : ∀ (r : Nat) (t : Int) (p : Int → Int), (j < t ∨ t + r ≤ j) → gust Q w r t p j = p j
  | 0, _, _, _ => rfl
  | r + 1, t, p, h => by
    unfold gust
    rw [gust_ne r (t + 1) _ (by omega), blow1_ne (by omega)]
theorem VV_blow1 (hW : Q.1 ≤ 8) (hD : Q.2.1 ≤ 8) {m : Nat} (hm : m < Q.2.2.2.1) (hV : VV Q p) : VV Q (blow1 Q w p m) := by
  unfold blow1
  split
  · rename_i h
    exact VV_rollsOn hW hD hm (VV_zup hV (to1_ok hW hD h.2))
  · exact hV
theorem VV_gust (hW : Q.1 ≤ 8) (hD : Q.2.1 ≤ 8) : ∀ (r t : Nat) (p : Int → Int), t + r = Q.2.2.2.1 → VV Q p → VV Q (gust Q w r t p)
  | 0, _, _, _, h => h
  | r + 1, t, p, e, h => by
    unfold gust
    exact VV_gust hW hD r (t + 1) _ (by omega) (VV_blow1 hW hD (by omega) h)
theorem inWind_eq (h : eqQ Q R) (he : eq8 p q) {m : Nat} (hn : Q.2.2.2.1 ≤ 8) (hm : m < Q.2.2.2.1) (hV : VV Q p) : inWind Q p m ↔ inWind R q m := by
  obtain ⟨e1, e2, e3, e4, e5⟩ := h
  unfold inWind
  rw [e5 m hm, ← he m (by omega) (by omega)]
  by_cases g : p m < 64
  · have := okq_on (hV m hm) (by have := okq_rg (hV m hm); omega) g
    rw [e4 _ this.1]
  · constructor
    · intro hh; exact absurd hh.2.1 g
    · intro hh; exact absurd hh.2.1 g
theorem bTo_eq (h : eqQ Q R) (hW : Q.1 ≤ 8) (hD : Q.2.1 ≤ 8) (he : eq8 p q) {m : Nat} (hn : Q.2.2.2.1 ≤ 8) (hm : m < Q.2.2.2.1) : bTo Q w p m = bTo R w q m := by
  unfold bTo
  rw [to1_eqQ h hW hD, to1_congr (by rw [← h.2.2.1]; exact hn) he, he m (by omega) (by omega)]
theorem blow1_eq (h : eqQ Q R) (hW : Q.1 ≤ 8) (hD : Q.2.1 ≤ 8) (he : eq8 p q) {m : Nat} (hn : Q.2.2.2.1 ≤ 8) (hm : m < Q.2.2.2.1) (hV : VV Q p) : eq8 (blow1 Q w p m) (blow1 R w q m) := by
  unfold blow1
  rw [← bTo_eq h hW hD he hn hm]
  by_cases g : inWind Q p m ∧ 0 ≤ bTo Q w p m
  · have hz := to1_ok hW hD g.2
    rw [if_pos g, if_pos ⟨(inWind_eq h he hn hm hV).1 g.1, g.2⟩, rollsOn_eqQ h hW hD hm (by rw [zup_same]; exact okq_mono (fun j hj ht => zup_ne ht) hz)]
    refine rollsOn_congr (by rw [← h.2.2.1]; exact hn) (fun j j0 j1 => ?_) (by omega) (by omega)
    show zup p m (bTo Q w p m) j = zup q m (bTo Q w p m) j
    by_cases hj : j = m
    · subst hj; rw [zup_same, zup_same]
    · rw [zup_ne hj, zup_ne hj]; exact he j j0 j1
  · rw [if_neg g, if_neg (fun hh => g ⟨(inWind_eq h he hn hm hV).2 hh.1, hh.2⟩)]
    exact he
theorem gust_eq (h : eqQ Q R) (hW : Q.1 ≤ 8) (hD : Q.2.1 ≤ 8) (hn : Q.2.2.2.1 ≤ 8) : ∀ (r t : Nat) (p q : Int → Int), t + r = Q.2.2.2.1 → VV Q p → eq8 p q → eq8 (gust Q w r t p) (gust R w r t q) ∧ gustN Q w r t p = gustN R w r t q
  | 0, _, _, _, _, _, he => ⟨he, rfl⟩
  | r + 1, t, p, q, e, hV, he => by
    have hb := blow1_eq (w := w) h hW hD he hn (by omega : t < Q.2.2.2.1) hV
    have ih := gust_eq h hW hD hn r (t + 1) _ _ (by omega) (VV_blow1 hW hD (by omega) hV) hb
    unfold gust gustN
    rw [hb t (by omega) (by omega), he t (by omega) (by omega)]
    have c : ((t + 1 : Nat) : Int) = (t : Int) + 1 := by omega
    rw [c] at ih
    exact ⟨ih.1, by rw [ih.2]⟩
theorem gustN_rg : ∀ (r : Nat) (t : Int) (p : Int → Int), 0 ≤ gustN Q w r t p ∧ gustN Q w r t p ≤ r
  | 0, _, _ => ⟨Int.le_refl _, Int.le_refl _⟩
  | r + 1, t, p => by
    have := gustN_rg r (t + 1) (blow1 Q w p t)
    unfold gustN
    split <;> omega
/-- where the wind may carry to isn't where one stood -/
theorem bTo_far (hW : Q.1 ≤ 8) (hD : Q.2.1 ≤ 8) {t : Int} (h0 : 0 ≤ w) (h1 : w ≤ 3) (h : 0 ≤ bTo Q w p t) (hp : p t < 64) : bTo Q w p t ≠ p t := by
  intro e
  have := (cTo_tl (o := exO Q p t) hW hD h (by show bTo Q w p t < 64; omega)).2.1
  have e2 : bTo Q w p t = 8 * (p t / 8 + al (w + 1)) + (p t % 8 + ac (w + 1)) := this
  rcases (by omega : w = 0 ∨ w = 1 ∨ w = 2 ∨ w = 3) with g | g | g | g <;> subst g
  · have a : ac (0 + 1) = 0 := rfl
    have b : al (0 + 1) = 1 := rfl
    omega
  · have a : ac (1 + 1) = 0 := rfl
    have b : al (1 + 1) = -1 := rfl
    omega
  · have a : ac (2 + 1) = -1 := rfl
    have b : al (2 + 1) = 0 := rfl
    omega
  · have a : ac (3 + 1) = 1 := rfl
    have b : al (3 + 1) = 0 := rfl
    omega
theorem acal (h0 : 0 ≤ w) (h1 : w ≤ 3) : (ac (w + 1) = 0 ∧ al (w + 1) = 1 ∧ w = 0) ∨ (ac (w + 1) = 0 ∧ al (w + 1) = -1 ∧ w = 1) ∨ (ac (w + 1) = -1 ∧ al (w + 1) = 0 ∧ w = 2) ∨ (ac (w + 1) = 1 ∧ al (w + 1) = 0 ∧ w = 3) := by
  rcases (by omega : w = 0 ∨ w = 1 ∨ w = 2 ∨ w = 3) with g | g | g | g <;> subst g
  · exact Or.inl ⟨rfl, rfl, rfl⟩
  · exact Or.inr (Or.inl ⟨rfl, rfl, rfl⟩)
  · exact Or.inr (Or.inr (Or.inl ⟨rfl, rfl, rfl⟩))
  · exact Or.inr (Or.inr (Or.inr ⟨rfl, rfl, rfl⟩))
-- the class
theorem c_isLight {t : Int} (h0 : 0 ≤ t) (h1 : t < 8) : f60 N t s = some (if s.1 18 t = 0 ∨ s.1 18 t = 2 then 1 else 0, s) := by
  unfold f60
  rw [ick_ok h0 h1, ick_ok h0 h1, ib1_ok (Or.inr rfl), ib1_ok (Or.inl rfl)]
  by_cases g : s.1 18 t = 0
  · rw [if_pos g, if_pos (Or.inl g)]
  rw [if_neg g]
  by_cases g2 : s.1 18 t = 2
  · rw [if_pos g2, if_pos (Or.inr g2)]
  · rw [if_neg g2, if_neg (by omega)]
theorem c_isSheltered {c : Int} (h0 : 0 ≤ c) (h1 : c < 64) : f61 N c s = some (if s.1 13 c = 5 ∨ s.1 13 c = 6 then 1 else 0, s) := by
  unfold f61
  rw [ick_ok h0 h1, ick_ok h0 h1, ib1_ok (Or.inr rfl), ib1_ok (Or.inl rfl)]
  by_cases g : s.1 13 c = 5
  · rw [if_pos g, if_pos (Or.inl g)]
  rw [if_neg g]
  by_cases g2 : s.1 13 c = 6
  · rw [if_pos g2, if_pos (Or.inr g2)]
  · rw [if_neg g2, if_neg (by omega)]
theorem c_at86 {f : Int → Int → Int → gI → Option (Int × gI)} {a t x : Int} (h0 : 0 ≤ t) (h1 : t < 8) (a0 : 0 ≤ a) (a1 : a ≤ 100) : f59_at86 N f w a t x (cst s p) = f w (a + (if p t = x then 0 else 1)) (t + 1) (cst s p) := by
  unfold f59_at86 f59_at106
  rw [ick_ok h0 h1, cst_7]
  by_cases g : p t = x
  · rw [if_pos g, if_pos g, iov_ok (by omega) (by omega), iov_ok (by omega) (by omega)]
  · rw [if_neg g, if_neg g, iov_ok (by omega) (by omega), iov_ok (by omega) (by omega)]
theorem c_wind {m : Nat} (hw : cOK s) (hV : VV (cQ s) p) (hm : m < (cQ s).2.2.2.1) (hp : p m < 64) (h0 : 0 ≤ w) (h1 : w ≤ 3) :
    f82 N 9 (p m) w (cst s p) = some (if bTo (cQ s) w p m < 0 then p m else bTo (cQ s) w p m, cst s p) := by
  obtain ⟨⟨hW0, hW⟩, ⟨hD0, hD⟩, -, -⟩ := id hw
  have hon := okq_on (hV m hm) (by have := okq_rg (hV m hm); omega) hp
  have e1 : (cQ s).1 = s.1 12 0 := rfl
  have e2 : (cQ s).2.1 = s.1 12 1 := rfl
  obtain ⟨o1, o2, o3, o4⟩ := id hon.1
  rw [c_step (cst_OK hw) (by rw [cst_Q]; exact hon.1) h0 h1, cst_9, cst_ne (by decide) (by decide), cst_ne (by decide) (by decide)]
  have e : cTo (s.1 12 0) (s.1 12 1) (s.1 13) (oC (s.1 13) (whof (cQ s) p (s.1 9))) (p m % 8 + ac (w + 1)) (p m / 8 + al (w + 1)) = bTo (cQ s) w p m := by
    unfold bTo to1
    symm
    refine cTo_sim fun a1 a2 a3 a4 => ?_
    refine sg_ex hV whof_in (by omega) (by omega) fun k hk hkm hco => ?_
    have : k = m := by omega
    subst this
    rw [co_in hp] at hco
    rcases acal h0 h1 with g | g | g | g <;> omega
  rw [e]
theorem c_gust_lp (hN : 5000 ≤ N) (hw : cOK s) (h0 : 0 ≤ w) (h1 : w ≤ 3) : ∀ (r fuel t : Nat) (a : Int) (p : Int → Int), r < fuel → t + r = (cQ s).2.2.2.1 → VV (cQ s) p → 0 ≤ a → a + r ≤ 8 →
    f59_at4 N fuel w a t (cst s p) = some (a + gustN (cQ s) w r t p, cst s (gust (cQ s) w r t p)) := by
  intro r
  induction r with
  | zero =>
    intro fuel t a p hf e hV a0 a1
    obtain ⟨fuel, rfl⟩ : ∃ g, fuel = g + 1 := ⟨fuel - 1, by omega⟩
    unfold f59_at4
    have hn := hw.2.2.1
    have en : (cQ s).2.2.2.1 = (s.1 15 3).toNat := rfl
    rw [cst_ne (by decide) (by decide), if_pos (by omega)]
    show some (a, cst s p) = some (a + 0, cst s p)
    rw [Int.add_zero]
  | succ r ih =>
    intro fuel t a p hf e hV a0 a1
    obtain ⟨fuel, rfl⟩ : ∃ g, fuel = g + 1 := ⟨fuel - 1, by omega⟩
    have hn := hw.2.2.1
    have en : (cQ s).2.2.2.1 = (s.1 15 3).toNat := rfl
    have hm : t < (cQ s).2.2.2.1 := by omega
    have rp := okq_rg (hV t hm)
    have c : ((t + 1 : Nat) : Int) = (t : Int) + 1 := by omega
    have go : ∀ a2 : Int, 0 ≤ a2 → a2 + r ≤ 8 → f59_at4 N fuel w a2 ((t : Int) + 1) (cst s (blow1 (cQ s) w p t)) = some (a2 + gustN (cQ s) w r ((t : Int) + 1) (blow1 (cQ s) w p t), cst s (gust (cQ s) w r ((t : Int) + 1) (blow1 (cQ s) w p t))) := by
      intro a2 h2 h3
      have := ih fuel (t + 1) a2 (blow1 (cQ s) w p t) (by omega) (by omega) (VV_blow1 hw.1.2 hw.2.1.2 hm hV) h2 h3
      rwa [c] at this
    have stay : blow1 (cQ s) w p t = p → f59_at4 N fuel w a ((t : Int) + 1) (cst s p) = some (a + gustN (cQ s) w (r + 1) t p, cst s (gust (cQ s) w (r + 1) t p)) := by
      intro hb
      have := go a a0 (by omega)
      unfold gust gustN
      rw [hb] at this ⊢
      rw [this, if_pos rfl, Int.zero_add]
    unfold f59_at4
    rw [cst_ne (by decide) (by decide), if_neg (by omega), ick_ok (by omega) (by omega), cst_7]
    dsimp only
    by_cases g1 : 64 ≤ p t
    · rw [if_pos g1, iov_ok (by omega) (by omega)]
      exact stay (if_neg fun hh => by have := hh.1.2.1; omega)
    rw [if_neg g1, c_isLight (by omega) (by omega), i_o2_some, cst_ne (by decide) (by decide)]
    by_cases g2 : s.1 18 t = 0 ∨ s.1 18 t = 2
    rotate_left
    · rw [if_neg g2, if_pos rfl, iov_ok (by omega) (by omega)]
      exact stay (if_neg fun hh => g2 hh.1.1)
    rw [if_pos g2, if_neg (by decide), c_isSheltered (by omega) (by omega), i_o2_some, cst_ne (by decide) (by decide)]
    by_cases g3 : s.1 13 (p t) = 5 ∨ s.1 13 (p t) = 6
    · rw [if_pos g3, if_neg (by decide), iov_ok (by omega) (by omega)]
      refine stay (if_neg fun hh => ?_)
      have a : s.1 13 (p t) ≠ 5 := hh.1.2.2.1
      have b : s.1 13 (p t) ≠ 6 := hh.1.2.2.2
      omega
    rw [if_neg g3, if_pos rfl, c_wind hw hV hm (by omega) h0 h1, i_o2_some]
    have hin : inWind (cQ s) p t := ⟨g2, by omega, fun hh => g3 (Or.inl hh), fun hh => g3 (Or.inr hh)⟩
    by_cases g4 : bTo (cQ s) w p t < 0
    · rw [if_pos g4, if_pos rfl, c_at86 (by omega) (by omega) a0 (by omega), if_pos rfl, Int.add_zero]
      exact stay (if_neg fun hh => by have := hh.2; omega)
    have hz : okq (cQ s) p t (bTo (cQ s) w p t) := to1_ok hw.1.2 hw.2.1.2 (by show 0 ≤ bTo (cQ s) w p t; omega)
    rw [if_neg g4, if_neg (bTo_far hw.1.2 hw.2.1.2 h0 h1 (by omega) (by omega)), c_moveOn hN hw hV hm hz, i_o1_some, c_at86 (by omega) (by omega) a0 (by omega)]
    have hb : blow1 (cQ s) w p t = rollsOn (cQ s) (zup p t (bTo (cQ s) w p t)) t := if_pos ⟨hin, by omega⟩
    show f59_at4 N fuel w (a + if rollsOn (cQ s) (zup p t (bTo (cQ s) w p t)) t t = p t then 0 else 1) (t + 1) (cst s (rollsOn (cQ s) (zup p t (bTo (cQ s) w p t)) t)) = _
    rw [← hb, go _ (by split <;> omega) (by split <;> omega), Int.add_assoc]
    rfl
theorem c_gust (hN : 5000 ≤ N) (hw : cOK s) (h0 : 0 ≤ w) (h1 : w ≤ 3) (hV : VV (cQ s) p) :
    f59 N w (cst s p) = some (gustN (cQ s) w (cQ s).2.2.2.1 0 p, cst s (gust (cQ s) w (cQ s).2.2.2.1 0 p)) := by
  have hn := cW_n hw
  have := c_gust_lp (N := N) hN hw h0 h1 (cQ s).2.2.2.1 N 0 0 p (by omega) (by omega) hV (by omega) (by omega)
  rw [Int.zero_add] at this
  exact this
end GUST

/-! Promise 9: the hose; what the reference does. -/
section MHOSE
variable {N : Nat} {s u : gI} {p q : Int → Int} {Q R : Cf} {w x row d a b t M : Int}
theorem mk8_bits : ∀ x : Fin 256, ∀ i : Fin 8, (0 ≤ i_or (x.val : Int) (i_shl 1 (i.val : Int)) ∧ i_or (x.val : Int) (i_shl 1 (i.val : Int)) < 256) ∧ ∀ j : Fin 8, i_and (i_shr (i_or (x.val : Int) (i_shl 1 (i.val : Int))) (j.val : Int)) 1 = if j = i then 1 else i_and (i_shr (x.val : Int) (j.val : Int)) 1 := by decide +kernel
theorem mk8 {x : Int} {i : Nat} (x0 : 0 ≤ x) (x1 : x < 256) (i1 : i < 8) : (0 ≤ i_or x (i_shl 1 i) ∧ i_or x (i_shl 1 i) < 256) ∧ ∀ j : Nat, j < 8 → i_and (i_shr (i_or x (i_shl 1 i)) j) 1 = if j = i then 1 else i_and (i_shr x j) 1 := by
  obtain ⟨X, rfl⟩ := Int.eq_ofNat_of_zero_le x0
  have h := mk8_bits ⟨X, by omega⟩ ⟨i, i1⟩
  refine ⟨h.1, fun j j1 => ?_⟩
  have h2 := h.2 ⟨j, j1⟩
  by_cases e : j = i
  · subst e
    rw [if_pos rfl] at h2 ⊢
    exact h2
  · rw [if_neg e]
    rw [if_neg (fun q => e (congrArg Fin.val q))] at h2
    exact h2
theorem m_near_lp (hw : mOK u) (r0 : 0 ≤ row ∧ row < 8) (x0 : 0 ≤ x ∧ x < 8) : ∀ (r fuel : Nat) (i b : Int), r < fuel → 0 ≤ i → i + r = u.1 69 0 → (b = -1 ∨ (0 ≤ b ∧ b < 8)) →
    f243_at5 N fuel x row b i u = some (nst (fun j => u.1 69 (2 + (8 * row + j))) x r i b, u) := by
  intro r
  induction r with
  | zero =>
    intro fuel i b hf i0 e hb
    obtain ⟨fuel, rfl⟩ : ∃ g, fuel = g + 1 := ⟨fuel - 1, by omega⟩
    unfold f243_at5
    rw [m_wide, i_o2_some, if_pos (by omega)]
    rfl
  | succ r ih =>
    intro fuel i b hf i0 e hb
    obtain ⟨fuel, rfl⟩ : ∃ g, fuel = g + 1 := ⟨fuel - 1, by omega⟩
    obtain ⟨⟨hW0, hW⟩, -, -⟩ := id hw
    have yes : u.1 69 (2 + (8 * row + i)) = 7 ∧ (b = -1 ∨ far i x < far b x) → f243_at48 N (f243_at5 N fuel) x row i u = some (nst (fun j => u.1 69 (2 + (8 * row + j))) x (r + 1) i b, u) := by
      intro h
      unfold f243_at48 nst
      rw [iov_ok (by omega) (by omega), ih fuel (i + 1) i (by omega) (by omega) (by omega) (by omega)]
      congr 3
      exact (if_pos h).symm
    have no : ¬ (u.1 69 (2 + (8 * row + i)) = 7 ∧ (b = -1 ∨ far i x < far b x)) → f243_at5 N fuel x row b (i + 1) u = some (nst (fun j => u.1 69 (2 + (8 * row + j))) x (r + 1) i b, u) := by
      intro h
      unfold nst
      rw [ih fuel (i + 1) b (by omega) (by omega) (by omega) hb]
      congr 3
      exact (if_neg h).symm
    unfold f243_at5
    rw [m_wide, i_o2_some, if_neg (by omega), iov_ok (by omega) (by omega), iov_ok (by omega) (by omega), m_tileAt (by omega) (by omega), i_o2_some]
    by_cases g : u.1 69 (2 + (8 * row + i)) = 7
    rotate_left
    · rw [if_neg g, iov_ok (by omega) (by omega)]
      exact no (fun h => g h.1)
    rw [if_pos g]
    by_cases g1 : b < 0
    · rw [if_pos g1]
      exact yes ⟨g, Or.inl (by omega)⟩
    rw [if_neg g1, m_far (by omega) (by omega), i_o2_some, m_far (by omega) (by omega), i_o2_some]
    by_cases g2 : far b x ≤ far i x
    · rw [if_pos g2, iov_ok (by omega) (by omega)]
      exact no (fun h => by have := h.2; omega)
    · rw [if_neg g2]
      exact yes ⟨g, Or.inr (by omega)⟩
theorem m_near (hN : 5000 ≤ N) (hw : mOK u) (r0 : 0 ≤ row ∧ row < 8) (x0 : 0 ≤ x ∧ x < 8) : f243 N x row u = some (pip (mQ u) row x, u) := by
  obtain ⟨⟨hW0, hW⟩, -, -⟩ := id hw
  have e : (mQ u).1 = u.1 69 0 := rfl
  unfold f243
  exact m_near_lp hw r0 x0 (mQ u).1.toNat N 0 (-1) (by omega) (by decide) (by omega) (Or.inl rfl)
theorem wk_zup {z : Int} : ∀ (k : Nat) (x : Int), wk Q (zup p t z) t row d k x = wk Q p t row d k x
  | 0, _ => rfl
  | k + 1, x => by
    unfold wk
    rw [to1_zup, wk_zup k]
theorem m_wash_lp (hN : 5000 ≤ N) (hw : mOK u) (hb0 : 0 ≤ b) (hb : b ≤ 680) {m : Nat} {x0 pi : Int} (hm : m < 8) (h00 : 0 ≤ x0 ∧ x0 < 8) : ∀ (k fuel : Nat) (x : Int) (p : Int → Int), k + 3 ≤ fuel → wkH (mQ u) row x d (k + 1) → p m = 8 * row + x → pi = x + d * ((k + 1 : Nat) : Int) →
    f246_at16 N fuel b m x0 row pi d x (pst u b p) = some (if wk (mQ u) p m row d (k + 1) x = 8 * row + x0 then 0 else 1, pst u b (zup p m (wk (mQ u) p m row d (k + 1) x))) := by
  obtain ⟨⟨hW0, hW⟩, ⟨hD0, hD⟩, -⟩ := id hw
  intro k
  induction k with
  | zero =>
    intro fuel x p hf h hp hpi
    obtain ⟨F, rfl⟩ : ∃ F, fuel = F + 2 := ⟨fuel - 2, by omega⟩
    have hd := h.1
    have r0 : 0 ≤ row ∧ row < u.1 69 1 := h.2.1
    have xr : 0 ≤ x ∧ x < u.1 69 0 := h.2.2.1
    have x1 : 0 ≤ x + d ∧ x + d < u.1 69 0 := (wkH_next h).2.2.1
    have ht := (wk_to (p := p) (t := (m : Int)) hW hD h).1 rfl
    have e1 : x + d = pi := by
      rw [hpi]
      show _ = x + d * 1
      rw [Int.mul_one]
    have eu : ∀ p : Int → Int, unsh b p (b + m) = p m := fun p => by unfold unsh; rw [show b + (m : Int) - b = m by omega]
    have st : f228 N b m (x + d) row (pst u b p) = some (to1 (mQ u) p m (x + d) row, pst u b p) := by
      rw [m_to1 hN (pst_OK hw) hb0 (by omega) (by omega) (by omega), pst_Q, pst_sh]
    unfold f246_at16 wk
    rw [iov_ok (by omega) (by omega), ick_ok (by omega) (by omega), iov_ok (by omega) (by omega), iov_ok (by omega) (by omega), pst_78, eu, if_pos hp, iov_ok (by omega) (by omega), st, i_o2_some, iov_ok (by omega) (by omega), if_pos e1]
    unfold f246_at85 f246_at90
    rw [if_neg (by decide)]
    by_cases g : to1 (mQ u) p m (x + d) row < 0
    · simp only [if_pos g]
      rw [if_neg (by omega), zup_eq hp]
      unfold f246_at102
      rw [ib1_ok (Or.inl rfl), ib1_ok (Or.inr rfl)]
      by_cases g2 : x = x0
      · rw [if_pos g2, if_pos (by omega)]
      · rw [if_neg g2, if_neg (by omega)]
    · simp only [if_neg g, if_true]
      rw [if_pos (by omega), iov_ok (by omega) (by omega), ick_ok (by omega) (by omega), iov_ok (by omega) (by omega), pst_w]
      unfold f246_at16
      rw [iov_ok (by omega) (by omega), ick_ok (by omega) (by omega), iov_ok (by omega) (by omega), iov_ok (by omega) (by omega), pst_78, eu, zup_same, if_neg (by omega), ib1_ok (Or.inr rfl), if_neg (by omega)]
  | succ k ih =>
    intro fuel x p hf h hp hpi
    obtain ⟨F, rfl⟩ : ∃ F, fuel = F + 1 := ⟨fuel - 1, by omega⟩
    have hd := h.1
    have r0 : 0 ≤ row ∧ row < u.1 69 1 := h.2.1
    have xr : 0 ≤ x ∧ x < u.1 69 0 := h.2.2.1
    have h' := wkH_next h
    have x1 : 0 ≤ x + d ∧ x + d < u.1 69 0 := h'.2.2.1
    have ht := (wk_to (p := p) (t := (m : Int)) hW hD h).2 (by omega)
    have e1 : x + d ≠ pi := by
      rw [hpi]
      rcases hd with q | q <;> subst q <;> omega
    have e2 : pi = x + d + d * ((k + 1 : Nat) : Int) := by
      rw [hpi]
      rcases hd with q | q <;> subst q <;> omega
    have eu : ∀ p : Int → Int, unsh b p (b + m) = p m := fun p => by unfold unsh; rw [show b + (m : Int) - b = m by omega]
    have st : f228 N b m (x + d) row (pst u b p) = some (to1 (mQ u) p m (x + d) row, pst u b p) := by
      rw [m_to1 hN (pst_OK hw) hb0 (by omega) (by omega) (by omega), pst_Q, pst_sh]
    have stay : f246_at102 N x0 x (pst u b p) = some (if 8 * row + x = 8 * row + x0 then 0 else 1, pst u b (zup p m (8 * row + x))) := by
      rw [zup_eq hp]
      unfold f246_at102
      rw [ib1_ok (Or.inl rfl), ib1_ok (Or.inr rfl)]
      by_cases g2 : x = x0
      · rw [if_pos g2, if_pos (by omega)]
      · rw [if_neg g2, if_neg (by omega)]
    unfold f246_at16 wk
    rw [iov_ok (by omega) (by omega), ick_ok (by omega) (by omega), iov_ok (by omega) (by omega), iov_ok (by omega) (by omega), pst_78, eu, if_pos hp, iov_ok (by omega) (by omega), st, i_o2_some, iov_ok (by omega) (by omega), if_neg e1]
    by_cases g : to1 (mQ u) p m (x + d) row < 0
    · simp only [if_pos g]
      unfold f246_at89 f246_at90
      rw [if_pos rfl]
      exact stay
    simp only [if_neg g]
    rw [iov_ok (by omega) (by omega), iov_ok (by omega) (by omega), iov_ok (by omega) (by omega), m_tileAt (by omega) (by omega), i_o2_some, if_neg (show ¬ k + 1 = 0 by omega)]
    have e69 : (pst u b p).1 69 = u.1 69 := ic_ne (by decide)
    have e6 : (mQ u).2.2.1 (8 * row + (x + d)) = u.1 69 (2 + (8 * row + (x + d))) := rfl
    rw [e69, e6, show 8 * row + x + d = 8 * row + (x + d) by omega]
    by_cases g2 : u.1 69 (2 + (8 * row + (x + d))) = 6
    · rw [if_pos g2, if_pos g2]
      unfold f246_at85 f246_at90
      rw [if_neg (by decide), if_pos (by omega), iov_ok (by omega) (by omega), ick_ok (by omega) (by omega)]
      dsimp only
      rw [iov_ok (by omega) (by omega), pst_w, ht (by omega), ih F (x + d) (zup p m (8 * row + (x + d))) (by omega) h' (zup_same _ _ _) e2, wk_zup, zup_zup]
    · rw [if_neg g2, if_neg g2]
      unfold f246_at89 f246_at90
      rw [if_pos rfl]
      exact stay
theorem m_wash (hN : 5000 ≤ N) (hw : mOK u) (hb0 : 0 ≤ b) (hb : b ≤ 680) {m : Nat} (r0 : 0 ≤ row ∧ row < u.1 69 1) (x0 : 0 ≤ x ∧ x < u.1 69 0) (h : wsh (mQ u) row a p x) (hm : occ p (8 * row + x) (-1) (mQ u).2.2.2.1 = m) (ha : a ≤ 7) :
    f246 N b m x row (pip (mQ u) row x) (pst u b p) = some (wshB (mQ u) row a p x, pst u b (wsh1 (mQ u) row a p x)) := by
  obtain ⟨⟨hW0, hW⟩, ⟨hD0, hD⟩, hn⟩ := id hw
  obtain ⟨m', m1, m2, m3⟩ := wsh_t h.1
  have em : m' = m := by omega
  subst em
  have en : (mQ u).2.2.2.1 = (u.1 71 1).toNat := rfl
  obtain ⟨a1, -, hH, hP⟩ := wsh_H (Q := mQ u) (by show 0 ≤ u.1 69 0; omega) r0 x0 h
  obtain ⟨k, hk⟩ : ∃ k : Nat, a.toNat = k + 1 := ⟨a.toNat - 1, by omega⟩
  have ew : wsh1 (mQ u) row a p x = zup p m' (wTo (mQ u) row a p x) := by unfold wsh1; rw [if_pos h, m2]
  have eb : wshB (mQ u) row a p x = if wTo (mQ u) row a p x = 8 * row + x then 0 else 1 := by
    unfold wshB
    by_cases g : wTo (mQ u) row a p x = 8 * row + x
    · rw [if_pos g, if_neg (fun hh => hh.2 g)]
    · rw [if_neg g, if_pos ⟨h, g⟩]
  have et : wTo (mQ u) row a p x = wk (mQ u) p m' row (wD (mQ u) row x) (k + 1) x := by unfold wTo; rw [m2, hk]
  rw [hk] at hH hP
  have lp := m_wash_lp (N := N) (x0 := x) (pi := pip (mQ u) row x) hN hw hb0 hb (m := m') (by omega) (by omega) k N x p (by omega) hH m3 hP
  rw [← et, ← ew, ← eb] at lp
  unfold wD at lp
  unfold f246
  by_cases g : x ≤ pip (mQ u) row x
  · rw [if_pos g]
    rw [if_pos g] at lp
    exact lp
  · rw [if_neg g]
    rw [if_neg g] at lp
    exact lp
/-- what was marked isn't met again -/
def mkI (Q : Cf) (row a x M : Int) (p : Int → Int) : Prop := (0 ≤ M ∧ M < 256) ∧ ∀ t : Nat, t < Q.2.2.2.1 → i_and (i_shr M t) 1 = 0 ∨ 64 ≤ p t ∨ (p t / 8 = row ∧ (far (pip Q row (p t % 8)) (p t % 8) < a ∨ (far (pip Q row (p t % 8)) (p t % 8) = a ∧ p t % 8 < x)))
theorem mkI_up {x2 : Int} (h : mkI Q row a x M p) (hx : x ≤ x2) : mkI Q row a x2 M p := by
  refine ⟨h.1, fun t ht => ?_⟩
  rcases h.2 t ht with g | g | ⟨g1, g | g⟩
  · exact Or.inl g
  · exact Or.inr (Or.inl g)
  · exact Or.inr (Or.inr ⟨g1, Or.inl g⟩)
  · exact Or.inr (Or.inr ⟨g1, Or.inr ⟨g.1, by omega⟩⟩)
theorem mkI_turn (h : mkI Q row a x M p) : mkI Q row (a + 1) 0 M p := by
  refine ⟨h.1, fun t ht => ?_⟩
  rcases h.2 t ht with g | g | ⟨g1, g | g⟩
  · exact Or.inl g
  · exact Or.inr (Or.inl g)
  · exact Or.inr (Or.inr ⟨g1, Or.inl (by omega)⟩)
  · exact Or.inr (Or.inr ⟨g1, Or.inl (by omega)⟩)
theorem mkI_0 (hn : Q.2.2.2.1 ≤ 8) : mkI Q row 1 0 0 p := by
  refine ⟨by decide, fun t ht => Or.inl ?_⟩
  have : ∀ j : Fin 8, i_and (i_shr 0 (j.val : Int)) 1 = 0 := by decide +kernel
  exact this ⟨t, by omega⟩
theorem mkI_free {m : Nat} (h : mkI Q row a x M p) (x0 : 0 ≤ x ∧ x < 8) (r0 : 0 ≤ row ∧ row < 8) (hm : m < Q.2.2.2.1) (hp : p m = 8 * row + x) (hf : far (pip Q row x) x = a) : i_and (i_shr M m) 1 = 0 := by
  rcases h.2 m hm with g | g | ⟨g1, g2⟩
  · exact g
  · omega
  · have e : p m % 8 = x := by omega
    rw [e] at g2
    omega
theorem mkI_set {m : Nat} (hn : Q.2.2.2.1 ≤ 8) (hW0 : 0 ≤ Q.1) (hW : Q.1 ≤ 8) (hD : Q.2.1 ≤ 8) (h : mkI Q row a x M p) (x0 : 0 ≤ x ∧ x < Q.1) (r0 : 0 ≤ row ∧ row < Q.2.1) (hs : wsh Q row a p x) (hm : occ p (8 * row + x) (-1) Q.2.2.2.1 = m) : mkI Q row a (x + 1) (i_or M (i_shl 1 m)) (wsh1 Q row a p x) := by
  obtain ⟨m', m1, m2, m3⟩ := wsh_t hs.1
  have em : m' = m := by omega
  subst em
  obtain ⟨b1, b2⟩ := mk8 (i := m') h.1.1 h.1.2 (by omega)
  have ew : wsh1 Q row a p x = zup p m' (wTo Q row a p x) := by unfold wsh1; rw [if_pos hs, m2]
  refine ⟨b1, fun t ht => ?_⟩
  rw [ew, b2 t (by omega)]
  by_cases e : t = m'
  rotate_left
  · rw [if_neg e, zup_ne (by omega)]
    exact (mkI_up h (by omega : x ≤ x + 1)).2 t ht
  subst e
  rw [zup_same]
  right
  obtain ⟨a1, -, hH, hP⟩ := wsh_H hW0 r0 x0 hs
  obtain ⟨k, hk⟩ : ∃ k : Nat, a.toNat = k + 1 := ⟨a.toNat - 1, by omega⟩
  have et : wTo Q row a p x = wk Q p t row (wD Q row x) (k + 1) x := by unfold wTo; rw [m2, hk]
  rw [hk] at hH hP
  rw [et]
  rcases wk_at (p := p) (t := (t : Int)) hW hD k x hH with g | ⟨j, j1, g⟩
  · exact Or.inl g
  right
  have hd := hH.1
  rw [g]
  generalize hX : x + wD Q row x * (j : Int) = X
  have bX : 0 ≤ X ∧ X < Q.1 := by
    have := hH.2.2.2.1
    rw [← hX]
    rcases hd with q | q <;> rw [q] at this ⊢ <;> omega
  rw [show (8 * row + X) / 8 = row by omega, show (8 * row + X) % 8 = X by omega]
  refine ⟨rfl, ?_⟩
  rcases pip_ok (Q := Q) (row := row) (x := x) hW0 with ⟨f, -⟩ | ⟨f1, f2, f3, -⟩
  · exact absurd f hs.2.2.1
  have le : far (pip Q row X) X ≤ far (pip Q row x) X := by
    rcases pip_ok (Q := Q) (row := row) (x := X) hW0 with ⟨-, f⟩ | ⟨-, -, -, f⟩
    · exact absurd f3 (f _ f1 f2)
    · exact f _ f1 f2 f3
  have fa := far_abs (i := pip Q row x) (x := X)
  rcases hd with q | q <;> rw [q] at hP hX <;> omega
theorem pst_63 {F : Int} : iw (pst (iw u 63 25 M) b p) 63 25 F = pst (iw u 63 25 F) b p := by
  unfold pst
  refine gI_ext (fun c => ?_) rfl
  by_cases h : c = 63
  · subst h
    rw [iw_at, ic_ne (by decide), ic_ne (by decide), iw_at, iw_at]
    exact zup_zup _ _ _ _
  · rw [iw_ne h]
    by_cases h2 : c = 78
    · subst h2; rw [ic_at, ic_at]
    · rw [ic_ne h2, ic_ne h2, iw_ne h, iw_ne h]
theorem mQ_63 {i z : Int} : mQ (iw u 63 i z) = mQ u := by
  unfold mQ
  rw [iw_ne (by decide), iw_ne (by decide)]
theorem mOK_63 {i z : Int} (h : mOK u) : mOK (iw u 63 i z) := by
  unfold mOK
  rw [iw_ne (by decide), iw_ne (by decide)]
  exact h
theorem m_row_lp (hN : 5000 ≤ N) (hw : mOK u) (hb0 : 0 ≤ b) (hb : b ≤ 680) (r0 : 0 ≤ row ∧ row < u.1 69 1) (a0 : 1 ≤ a) (a1 : a ≤ 7) {f : Int → Int → Int → Int → gI → Option (Int × gI)} : ∀ (r fuel : Nat) (x mv M : Int) (p : Int → Int), r < fuel → 0 ≤ x → x + r = u.1 69 0 → VV (mQ u) p → 0 ≤ mv → mv + r ≤ 1000 → mkI (mQ u) row a x M p →
    ∃ M2, mkI (mQ u) row a (u.1 69 0) M2 (wR (mQ u) row a r x p) ∧ f245_at15 N f fuel b row mv a x (pst (iw u 63 25 M) b p) = f b row (mv + wRN (mQ u) row a r x p) (a + 1) (pst (iw u 63 25 M2) b (wR (mQ u) row a r x p)) := by
  obtain ⟨⟨hW0, hW⟩, ⟨hD0, hD⟩, hn⟩ := id hw
  have en : (mQ u).2.2.2.1 = (u.1 71 1).toNat := rfl
  have u69 : ∀ (M : Int) (p : Int → Int), (pst (iw u 63 25 M) b p).1 69 = u.1 69 := fun M p => by unfold pst; rw [ic_ne (by decide), iw_ne (by decide)]
  have u71 : ∀ (M : Int) (p : Int → Int), (pst (iw u 63 25 M) b p).1 71 = u.1 71 := fun M p => by unfold pst; rw [ic_ne (by decide), iw_ne (by decide)]
  have u63 : ∀ (M : Int) (p : Int → Int), (pst (iw u 63 25 M) b p).1 63 25 = M := fun M p => by unfold pst; rw [ic_ne (by decide), iw_at, zup_same]
  intro r
  induction r with
  | zero =>
    intro fuel x mv M p hf x0 e hV m0 m1 hM
    obtain ⟨fuel, rfl⟩ : ∃ g, fuel = g + 1 := ⟨fuel - 1, by omega⟩
    refine ⟨M, mkI_up hM (by omega), ?_⟩
    unfold f245_at15 wRN wR
    rw [m_wide, i_o2_some, u69, if_pos (by omega), iov_ok (by omega) (by omega), Int.add_zero]
  | succ r ih =>
    intro fuel x mv M p hf x0 e hV m0 m1 hM
    obtain ⟨fuel, rfl⟩ : ∃ g, fuel = g + 1 := ⟨fuel - 1, by omega⟩
    have hV2 := VV_wsh1 (Q := mQ u) (a := a) (by show 0 ≤ u.1 69 0; omega) hW hD r0 (x := x) ⟨x0, by show x < u.1 69 0; omega⟩ hV
    have rb := wshB_rg (Q := mQ u) (row := row) (a := a) (p := p) (x := x)
    have skip : ¬ wsh (mQ u) row a p x → ∃ M2, mkI (mQ u) row a (u.1 69 0) M2 (wR (mQ u) row a (r + 1) x p) ∧ f245_at15 N f fuel b row mv a (x + 1) (pst (iw u 63 25 M) b p) = f b row (mv + wRN (mQ u) row a (r + 1) x p) (a + 1) (pst (iw u 63 25 M2) b (wR (mQ u) row a (r + 1) x p)) := by
      intro h
      obtain ⟨h1, h2⟩ := wsh_no h
      unfold wRN wR
      rw [h1, h2, Int.zero_add]
      exact ih fuel (x + 1) mv M p (by omega) (by omega) (by omega) hV m0 (by omega) (mkI_up hM (by omega))
    have near := m_near (N := N) (u := pst (iw u 63 25 M) b p) (row := row) (x := x) hN (pst_OK (mOK_63 hw)) (by omega) (by omega)
    rw [pst_Q, mQ_63] at near
    have pr := pip_ok (Q := mQ u) (row := row) (x := x) (by show 0 ≤ u.1 69 0; omega)
    have eW : (mQ u).1 = u.1 69 0 := rfl
    have wh := m_thingAt (N := N) (s := pst (iw u 63 25 M) b p) (b := b) (c := 8 * row + x) (but := -1) hN (by rw [u71]; exact hn.1) (by rw [u71]; exact hn.2) hb0 (by omega)
    rw [pst_sh, u71, ← en] at wh
    have e6 : (mQ u).2.2.1 (8 * row + x) = u.1 69 (2 + (8 * row + x)) := rfl
    unfold f245_at15
    rw [m_wide, i_o2_some, u69, if_neg (by omega), iov_ok (by omega) (by omega), iov_ok (by omega) (by omega)]
    dsimp only
    rw [m_tileAt (by omega) (by omega), i_o2_some, u69]
    by_cases g2 : u.1 69 (2 + (8 * row + x)) = 6
    rotate_left
    · rw [if_neg g2]
      unfold f245_at56
      rw [near, i_o2_some, if_pos (by decide), iov_ok (by omega) (by omega)]
      exact skip (fun hh => g2 hh.2.1)
    rw [if_pos g2, wh, i_o2_some]
    unfold f245_at56
    rw [near, i_o2_some]
    by_cases g1 : occ p (8 * row + x) (-1) (mQ u).2.2.2.1 < 0
    · rw [if_pos g1, iov_ok (by omega) (by omega)]
      exact skip (fun hh => by have := hh.1; omega)
    rw [if_neg g1]
    by_cases g3 : pip (mQ u) row x < 0
    · rw [if_pos g3, iov_ok (by omega) (by omega)]
      exact skip (fun hh => hh.2.2.1 (by omega))
    have pr2 : 0 ≤ pip (mQ u) row x ∧ pip (mQ u) row x < u.1 69 0 := by omega
    rw [if_neg g3, m_far (by omega) (by omega), i_o2_some]
    by_cases g4 : far (pip (mQ u) row x) x = a
    rotate_left
    · rw [if_neg g4, iov_ok (by omega) (by omega)]
      exact skip (fun hh => g4 hh.2.2.2)
    have hs : wsh (mQ u) row a p x := ⟨by omega, g2, by omega, g4⟩
    obtain ⟨m, q1, q2, q3⟩ := wsh_t hs.1
    have free := mkI_free hM (by omega) (by omega) q1 q3 g4
    have hM2 := mkI_set (by omega) (by omega) hW hD hM ⟨x0, by omega⟩ r0 hs q2
    have wa := m_wash (N := N) (u := iw u 63 25 (i_or M (i_shl 1 m))) (b := b) (row := row) (x := x) (a := a) (p := p) (m := m) hN (mOK_63 hw) hb0 hb (by rw [iw_ne (by decide)]; exact r0) (by rw [iw_ne (by decide)]; omega) (by rw [mQ_63]; exact hs) (by rw [mQ_63]; exact q2) a1
    rw [mQ_63] at wa
    rw [if_pos g4, u63, q2, if_pos free]
    dsimp only
    rw [pst_63, wa, i_o2_some]
    unfold f245_at135 wRN wR
    rw [← Int.add_assoc]
    have go := ih fuel (x + 1) (mv + wshB (mQ u) row a p x) (i_or M (i_shl 1 m)) (wsh1 (mQ u) row a p x) (by omega) (by omega) (by omega) hV2 (by omega) (by omega) hM2
    by_cases g5 : wshB (mQ u) row a p x = 0
    · rw [if_pos g5, iov_ok (by omega) (by omega), iov_ok (by omega) (by omega), g5]
      rw [g5] at go
      exact go
    · have g6 : wshB (mQ u) row a p x = 1 := by omega
      rw [if_neg g5, iov_ok (by omega) (by omega), iov_ok (by omega) (by omega), g6]
      rw [g6] at go
      exact go
theorem m_wA_lp (hN : 5000 ≤ N) (hw : mOK u) (hb0 : 0 ≤ b) (hb : b ≤ 680) (r0 : 0 ≤ row ∧ row < u.1 69 1) : ∀ (r fuel : Nat) (a mv M : Int) (p : Int → Int), r < fuel → 1 ≤ a → a + r = 8 → VV (mQ u) p → 0 ≤ mv → mv + 8 * r ≤ 100 → mkI (mQ u) row a 0 M p →
    ∃ M2, f245_at5 N fuel b row mv a (pst (iw u 63 25 M) b p) = some (mv + wAN (mQ u) row r a p, pst (iw u 63 25 M2) b (wA (mQ u) row r a p)) := by
  obtain ⟨⟨hW0, hW⟩, ⟨hD0, hD⟩, hn⟩ := id hw
  intro r
  induction r with
  | zero =>
    intro fuel a mv M p hf a0 e hV m0 m1 hM
    obtain ⟨fuel, rfl⟩ : ∃ g, fuel = g + 1 := ⟨fuel - 1, by omega⟩
    refine ⟨M, ?_⟩
    unfold f245_at5 wAN wA
    rw [if_pos (by omega), Int.add_zero]
  | succ r ih =>
    intro fuel a mv M p hf a0 e hV m0 m1 hM
    obtain ⟨fuel, rfl⟩ : ∃ g, fuel = g + 1 := ⟨fuel - 1, by omega⟩
    have eW : (mQ u).1 = u.1 69 0 := rfl
    have rg := wRN_rg (Q := mQ u) (row := row) (a := a) (mQ u).1.toNat 0 p
    have hV2 := VV_wR (Q := mQ u) (a := a) (by omega) hW hD r0 (mQ u).1.toNat 0 p (by decide) (by omega) hV
    obtain ⟨M2, h1, h2⟩ := m_row_lp (N := N) (f := f245_at5 N fuel) hN hw hb0 hb r0 a0 (by omega) (mQ u).1.toNat N 0 mv M p (by omega) (by decide) (by omega) hV m0 (by omega) hM
    obtain ⟨M3, h3⟩ := ih fuel (a + 1) (mv + wRN (mQ u) row a (mQ u).1.toNat 0 p) M2 _ (by omega) (by omega) (by omega) hV2 (by omega) (by omega) (mkI_turn h1)
    refine ⟨M3, ?_⟩
    unfold f245_at5 wAN wA
    rw [if_neg (by omega), h2, h3, Int.add_assoc]
theorem m_washRow (hN : 5000 ≤ N) (hw : mOK u) (hb0 : 0 ≤ b) (hb : b ≤ 680) (r0 : 0 ≤ row ∧ row < u.1 69 1) (hV : VV (mQ u) p) : ∃ M2, f247 N b row (pst u b p) = some (wAN (mQ u) row 7 1 p, pst (iw u 63 25 M2) b (wA (mQ u) row 7 1 p)) := by
  have en : (mQ u).2.2.2.1 = (u.1 71 1).toNat := rfl
  have hn := hw.2.2
  obtain ⟨M2, h⟩ := m_wA_lp (N := N) hN hw hb0 hb r0 7 N 1 0 0 p (by omega) (by decide) (by decide) hV (by decide) (by decide) (mkI_0 (by omega))
  rw [Int.zero_add] at h
  refine ⟨M2, ?_⟩
  have e0 : iw (pst u b p) 63 25 0 = pst (iw u 63 25 0) b p := by
    have := pst_63 (u := u) (M := u.1 63 25) (b := b) (p := p) (F := 0)
    have e : iw u 63 25 (u.1 63 25) = u := by
      refine gI_ext (fun c => ?_) rfl
      by_cases h : c = 63
      · subst h; rw [iw_at]; exact zup_eq rfl
      · rw [iw_ne h]
    rwa [e] at this
  unfold f247 f245
  dsimp only
  rw [e0, h, i_o2_some]
-- class and reference wash alike
theorem pip_eq (h : eqQ Q R) (hW0 : 0 ≤ Q.1) (hW : Q.1 ≤ 8) (hD : Q.2.1 ≤ 8) (r0 : 0 ≤ row ∧ row < Q.2.1) : pip Q row x = pip R row x := by
  unfold pip
  rw [← h.1]
  refine nst_congr _ _ _ fun j j0 j1 => h.2.2.2.1 _ ⟨by omega, by omega, by omega, by omega⟩
theorem wk_eq (h : eqQ Q R) (hn : Q.2.2.2.1 ≤ 8) (hW : Q.1 ≤ 8) (hD : Q.2.1 ≤ 8) (he : eq8 p q) : ∀ (k : Nat) (x : Int), wkH Q row x d k → wk Q p t row d k x = wk R q t row d k x := by
  intro k
  induction k with
  | zero => intro x _; rfl
  | succ k ih =>
    intro x hH
    have h' := wkH_next hH
    have on : onR Q (8 * row + (x + d)) := ⟨by have := h'.2.1; have := h'.2.2.1; omega, by have := h'.2.1; have := h'.2.2.1; omega, by have := h'.2.1; have := h'.2.2.1; omega, by have := h'.2.1; have := h'.2.2.1; omega⟩
    unfold wk
    rw [ih (x + d) h', to1_eqQ h hW hD, to1_congr (by rw [← h.2.2.1]; exact hn) he, h.2.2.2.1 _ on]
theorem wsh_eq (h : eqQ Q R) (hn : Q.2.2.2.1 ≤ 8) (hW0 : 0 ≤ Q.1) (hW : Q.1 ≤ 8) (hD : Q.2.1 ≤ 8) (he : eq8 p q) (r0 : 0 ≤ row ∧ row < Q.2.1) (x0 : 0 ≤ x ∧ x < Q.1) :
    eq8 (wsh1 Q row a p x) (wsh1 R row a q x) ∧ wshB Q row a p x = wshB R row a q x := by
  have on : onR Q (8 * row + x) := ⟨by omega, by omega, by omega, by omega⟩
  have eo : occ p (8 * row + x) (-1) Q.2.2.2.1 = occ q (8 * row + x) (-1) R.2.2.2.1 := by rw [← h.2.2.1]; exact occ_eq8 he _ hn
  have ep := pip_eq (x := x) h hW0 hW hD r0
  have ed : wD Q row x = wD R row x := by unfold wD; rw [ep]
  have ei : wsh Q row a p x ↔ wsh R row a q x := by
    unfold wsh
    rw [eo, ep, h.2.2.2.1 _ on]
  by_cases g : wsh Q row a p x
  rotate_left
  · have g' := fun hh => g (ei.2 hh)
    rw [(wsh_no g).1, (wsh_no g).2, (wsh_no g').1, (wsh_no g').2]
    exact ⟨he, rfl⟩
  have g' := ei.1 g
  have et : wTo Q row a p x = wTo R row a q x := by
    unfold wTo
    rw [wk_eq h hn hW hD he _ _ (wsh_H hW0 r0 x0 g).2.2.1, eo, ed]
  refine ⟨?_, ?_⟩
  · unfold wsh1
    rw [if_pos g, if_pos g', et, eo]
    exact he.up rfl
  · unfold wshB
    by_cases g2 : wTo R row a q x = 8 * row + x
    · rw [if_neg (show ¬ (wsh Q row a p x ∧ wTo Q row a p x ≠ 8 * row + x) from fun hh => hh.2 (et.trans g2)), if_neg (show ¬ (wsh R row a q x ∧ wTo R row a q x ≠ 8 * row + x) from fun hh => hh.2 g2)]
    · rw [if_pos (show wsh Q row a p x ∧ wTo Q row a p x ≠ 8 * row + x from ⟨g, fun hh => g2 (et.symm.trans hh)⟩), if_pos (show wsh R row a q x ∧ wTo R row a q x ≠ 8 * row + x from ⟨g', g2⟩)]
theorem wR_eq (h : eqQ Q R) (hn : Q.2.2.2.1 ≤ 8) (hW0 : 0 ≤ Q.1) (hW : Q.1 ≤ 8) (hD : Q.2.1 ≤ 8) (r0 : 0 ≤ row ∧ row < Q.2.1) : ∀ (r : Nat) (x : Int) (p q : Int → Int), 0 ≤ x → x + r ≤ Q.1 → eq8 p q → eq8 (wR Q row a r x p) (wR R row a r x q) ∧ wRN Q row a r x p = wRN R row a r x q
  | 0, _, _, _, _, _, he => ⟨he, rfl⟩
  | r + 1, x, p, q, h0, h1, he => by
    obtain ⟨g1, g2⟩ := wsh_eq (a := a) h hn hW0 hW hD he r0 ⟨h0, by omega⟩
    obtain ⟨i1, i2⟩ := wR_eq h hn hW0 hW hD r0 r (x + 1) _ _ (by omega) (by omega) g1
    unfold wR wRN
    rw [g2, i2]
    exact ⟨i1, rfl⟩
theorem wA_eq (h : eqQ Q R) (hn : Q.2.2.2.1 ≤ 8) (hW0 : 0 ≤ Q.1) (hW : Q.1 ≤ 8) (hD : Q.2.1 ≤ 8) (r0 : 0 ≤ row ∧ row < Q.2.1) : ∀ (r : Nat) (a : Int) (p q : Int → Int), eq8 p q → eq8 (wA Q row r a p) (wA R row r a q) ∧ wAN Q row r a p = wAN R row r a q
  | 0, _, _, _, he => ⟨he, rfl⟩
  | r + 1, a, p, q, he => by
    obtain ⟨g1, g2⟩ := wR_eq (a := a) h hn hW0 hW hD r0 Q.1.toNat 0 p q (by decide) (by omega) he
    obtain ⟨i1, i2⟩ := wA_eq h hn hW0 hW hD r0 r (a + 1) _ _ g1
    unfold wA wAN
    rw [← h.1, g2, i2]
    exact ⟨i1, rfl⟩
end MHOSE

/-! The reference: copies of a state, a throw tried on one. -/
section MCOPY
variable {N : Nat} {s : gI}
theorem zcpy_zero (f g : Int → Int) (a b : Int) : zcpy f g a b 0 = g := by
  funext j
  unfold zcpy
  rw [if_neg (by omega)]
theorem zcpy_succ (f g : Int → Int) (a b k : Int) (h0 : 0 ≤ k) : zup (zcpy f g a b k) (b + k) (f (a + k)) = zcpy f g a b (k + 1) := by
  funext j
  unfold zup zcpy
  by_cases h : j = b + k
  · rw [if_pos h, if_pos (by omega)]
    congr 1; omega
  · rw [if_neg h]
    by_cases h2 : b ≤ j ∧ j < b + k
    · rw [if_pos h2, if_pos (by omega)]
    · rw [if_neg h2, if_neg (by omega)]
theorem m_copies_lp {a b n : Int} (ha : 0 ≤ a) (hb : 0 ≤ b) (ha2 : a + n ≤ 700) (hb2 : b + n ≤ 700) (hd : a + n ≤ b ∨ b + n ≤ a ∨ b ≤ a) : ∀ (m fuel : Nat) (k : Int), 0 ≤ k → k + m = n → m < fuel →
    f215_at3 N fuel a b n k (ic s 78 (zcpy (s.1 78) (s.1 78) a b k)) = some (ic s 78 (zcpy (s.1 78) (s.1 78) a b n)) := by
  intro m
  induction m with
  | zero =>
    intro fuel k h0 h hf
    obtain ⟨fuel, rfl⟩ : ∃ g, fuel = g + 1 := ⟨fuel - 1, by omega⟩
    unfold f215_at3
    rw [if_pos (by omega)]
    have e : k = n := by omega
    rw [e]
  | succ m ih =>
    intro fuel k h0 h hf
    obtain ⟨fuel, rfl⟩ : ∃ g, fuel = g + 1 := ⟨fuel - 1, by omega⟩
    unfold f215_at3
    rw [if_neg (by omega)]
    simp (disch := omega) only [ick_ok, iov_ok, iol_ok, idv_ok, ich_ok, icp_ok, i_o2_some, i_o1_some]
    rw [iw_ic, ic_at, ic_ic]
    have e : zcpy (s.1 78) (s.1 78) a b k (a + k) = s.1 78 (a + k) := by
      unfold zcpy
      rw [if_neg (by omega)]
    rw [e, zcpy_succ _ _ _ _ _ h0]
    exact ih fuel (k + 1) (by omega) (by omega) (by omega)
theorem m_copies {a b n : Int} (hN : 5000 ≤ N) (ha : 0 ≤ a) (hb : 0 ≤ b) (hn : 0 ≤ n) (ha2 : a + n ≤ 700) (hb2 : b + n ≤ 700) (hd : a + n ≤ b ∨ b + n ≤ a ∨ b ≤ a) : f215 N a b n s = some (ic s 78 (zcpy (s.1 78) (s.1 78) a b n)) := by
  have := m_copies_lp (N := N) (s := s) ha hb ha2 hb2 hd n.toNat N 0 (by omega) (by omega) (by omega)
  rw [zcpy_zero, ic_self] at this
  exact this
/-- a state that holds a copy of another one's rows -/
def cop (s : gI) (a b : Int) : gI := ic s 78 (zcpy (s.1 78) (s.1 78) a b 18)
theorem cop_sh {a b j : Int} (h0 : 0 ≤ j) (h1 : j < 18) : sh b ((cop s a b).1 78) j = sh a (s.1 78) j := by
  unfold cop sh
  rw [ic_at]
  unfold zcpy
  rw [if_pos (by omega), show a + (b + j - b) = a + j by omega]
theorem cop_out {a b j : Int} (h : j < b ∨ b + 18 ≤ j) : (cop s a b).1 78 j = s.1 78 j := by
  unfold cop
  rw [ic_at]
  unfold zcpy
  rw [if_neg (by omega)]
theorem cop_Q {a b : Int} : mQ (cop s a b) = mQ s := mQ_ic
theorem cop_OK {a b : Int} (h : mOK s) : mOK (cop s a b) := mOK_ic h
theorem m_tries (hN : 5000 ≤ N) (hw : mOK s) {a b per t x y z : Int} (ha : 0 ≤ a) (hb0 : 0 ≤ b) (hb : b ≤ 680) (ha2 : a ≤ 680) (hd : a + 18 ≤ b ∨ b + 18 ≤ a) (ht0 : 0 ≤ t) (ht : t < 8) (hx : 0 ≤ x ∧ x < 8) (hy : 0 ≤ y ∧ y < 8) (hz0 : 0 ≤ z) (hz : z ≤ 8) :
    f262 N a b per t x y z s = some (pst (cop s a b) b (thrown (mQ s) (zup (sh b ((cop s a b).1 78)) (8 + t) per) t (x + sX z) (y + sY z))) := by
  unfold f262
  rw [m_copies hN ha hb0 (by omega) (by omega) (by omega) (by omega), i_o1_some]
  have := m_throwsAt (N := N) (s := cop s a b) hN (cop_OK hw) (b := b) (per := per) hb0 hb ht0 ht hx hy hz0 hz
  rw [cop_Q] at this
  show i_o1 (f235 N b per t x y z (cop s a b)) _ = _
  rw [this, i_o1_some]
end MCOPY
/-! What depends on eight things alone. -/
def eq8 (p q : Int → Int) : Prop := ∀ j, 0 ≤ j → j < 8 → p j = q j
section EQ8
variable {p q : Int → Int} {Q : Cf}
theorem eq8.rf : eq8 p p := fun _ _ _ => rfl
theorem eq8.sy (h : eq8 p q) : eq8 q p := fun j h0 h1 => (h j h0 h1).symm
theorem eq8.tr {r : Int → Int} (h : eq8 p q) (h2 : eq8 q r) : eq8 p r := fun j h0 h1 => (h j h0 h1).trans (h2 j h0 h1)
theorem eq8.up (h : eq8 p q) {t x y : Int} (hxy : x = y) : eq8 (zup p t x) (zup q t y) := fun j h0 h1 => by
  subst hxy
  unfold zup
  split
  · rfl
  · exact h j h0 h1
theorem eq8.far {t x : Int} (h : eq8 p q) (ht : 8 ≤ t) : eq8 (zup p t x) q := fun j h0 h1 => by
  rw [zup_ne (by omega)]
  exact h j h0 h1
theorem occ_congr (h : eq8 p q) (c t : Int) : ∀ k : Nat, k ≤ 8 → occ p c t k = occ q c t k
  | 0, _ => rfl
  | k + 1, hk => by
    have ih := occ_congr h c t k (by omega)
    unfold occ
    rw [ih, h k (by omega) (by omega)]
theorem exO_congr (hn : Q.2.2.2.1 ≤ 8) (h : eq8 p q) (t : Int) : exO Q p t = exO Q q t := funext fun c => occ_congr h c t _ hn
theorem to1_congr (hn : Q.2.2.2.1 ≤ 8) (h : eq8 p q) (t x y : Int) : to1 Q p t x y = to1 Q q t x y := by
  unfold to1
  rw [exO_congr hn h]
theorem rollT_congr (hn : Q.2.2.2.1 ≤ 8) (h : eq8 p q) (t c : Int) : rollT Q p t c = rollT Q q t c := by
  unfold rollT
  rw [exO_congr hn h]
theorem rollsOn_congr (hn : Q.2.2.2.1 ≤ 8) (h : eq8 p q) {t : Int} (h0 : 0 ≤ t) (h1 : t < 8) : eq8 (rollsOn Q p t) (rollsOn Q q t) := by
  unfold rollsOn
  rw [h t h0 h1]
  split
  · exact h
  · exact h.up (rollT_congr hn h t _)
theorem knock_congr (hn : Q.2.2.2.1 ≤ 8) (h : eq8 p q) {t : Int} (h0 : 0 ≤ t) (h1 : t < 8) (x y : Int) (st : Bool) : eq8 (knock Q p t x y st) (knock Q q t x y st) := by
  have e1 := to1_congr hn h t x (y + 1)
  have e2 := to1_congr hn (h.up (t := t) e1) t x (y + 2)
  unfold knock
  rw [e2, e1]
  split
  · exact rollsOn_congr hn (h.up rfl) h0 h1
  · exact h
theorem thrown_congr (hn : Q.2.2.2.1 ≤ 8) (h : eq8 p q) {t : Int} (h0 : 0 ≤ t) (h1 : t < 8) (x y : Int) : eq8 (thrown Q p t x y) (thrown Q q t x y) := by
  have hp : eq8 (zup p t 64) (zup q t 64) := h.up rfl
  have eo := occ_congr hp (8 * y + x) t Q.2.2.2.1 hn
  have ro := occ_rg (zup q t 64) (8 * y + x) t Q.2.2.2.1
  unfold thrown
  rw [eo]
  split
  · exact h.up rfl
  · split
    · rename_i hh
      have hk := knock_congr hn hp (t := occ (zup q t 64) (8 * y + x) t Q.2.2.2.1) hh (by omega) x y (decide (Q.2.2.2.2 t = 3))
      refine rollsOn_congr hn (hk.up ?_) h0 h1
      rw [hk _ hh (by omega)]
    · refine rollsOn_congr hn (hp.up ?_) h0 h1
      rw [to1_congr hn hp]
end EQ8

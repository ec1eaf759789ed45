/-! The class: steps, landings, rolls, putting, moving on, throwing, taking back. -/
def cQ (s : gI) : Cf := (s.1 12 0, s.1 12 1, s.1 13, (s.1 15 3).toNat, s.1 18)
def cOK (s : gI) : Prop := (2 ≤ s.1 12 0 ∧ s.1 12 0 ≤ 8) ∧ (2 ≤ s.1 12 1 ∧ s.1 12 1 ≤ 8) ∧ (0 ≤ s.1 15 3 ∧ s.1 15 3 ≤ 8) ∧ ∀ c, 0 ≤ c → c < 64 → 0 ≤ s.1 13 c ∧ s.1 13 c ≤ 8
/-- the class' scene with the things at these places -/
def cst (s : gI) (p : Int → Int) : gI := ic (ic s 7 p) 9 (whof (cQ s) p (s.1 9))
section CMOVE
variable {N : Nat} {s : gI} {p q : Int → Int}
theorem cst_7 : (cst s p).1 7 = p := by
  unfold cst
  rw [ic_ne (by decide), ic_at]
theorem cst_9 : (cst s p).1 9 = whof (cQ s) p (s.1 9) := ic_at
theorem cst_ne {a : Nat} (h7 : a ≠ 7) (h9 : a ≠ 9) : (cst s p).1 a = s.1 a := by
  unfold cst
  rw [ic_ne h9, ic_ne h7]
theorem cst_Q : cQ (cst s p) = cQ s := by
  unfold cQ
  rw [cst_ne (by decide) (by decide), cst_ne (by decide) (by decide), cst_ne (by decide) (by decide), cst_ne (by decide) (by decide)]
theorem cst_OK (h : cOK s) : cOK (cst s p) := by
  unfold cOK
  rw [cst_ne (by decide) (by decide), cst_ne (by decide) (by decide), cst_ne (by decide) (by decide)]
  exact h
theorem cst_cst : cst (cst s p) q = cst s q := by
  unfold cst
  have e : cQ (ic (ic s 7 p) 9 (whof (cQ s) p (s.1 9))) = cQ s := cst_Q
  rw [e, ic_at, whof_whof, ic_comm (by decide : (9 : Nat) ≠ 7), ic_ic, ic_ic]
/-- a scene that is what its places say -/
def scOK (s : gI) : Prop := ∀ c, 0 ≤ c → c < 64 → s.1 9 c = occ2 (s.1 7) c (s.1 15 3).toNat
theorem cst_self (h : scOK s) : cst s (s.1 7) = s := by
  have e : whof (cQ s) (s.1 7) (s.1 9) = s.1 9 := by
    funext c
    unfold whof
    split
    · rename_i q; exact (h c q.1 q.2).symm
    · rfl
  unfold cst
  rw [e, ic_self, ic_self]
theorem cst_sc : scOK (cst s p) := by
  intro c h0 h1
  rw [cst_9, cst_7, cst_ne (by decide) (by decide)]
  exact if_pos ⟨h0, h1⟩
theorem c_cellOf {z : Int} (h0 : 0 ≤ z) (h1 : z < 192) : f89 N z s = some (co z, s) := by
  unfold f89 co
  simp (disch := omega) only [ick_ok, iov_ok, iol_ok, idv_ok, ich_ok, icp_ok, i_o2_some, i_o1_some]
  split
  · split <;> rfl
  · rfl
theorem co_rg {z : Int} (h0 : 0 ≤ z) (h1 : z < 192) : co z = -1 ∨ (0 ≤ co z ∧ co z < 64) := by
  unfold co
  split
  · split
    · exact Or.inl rfl
    · exact Or.inr ⟨by omega, by omega⟩
  · exact Or.inr ⟨by omega, by omega⟩
theorem c_put_raw {t z : Int} (ht0 : 0 ≤ t) (ht : t < 8) (ha0 : 0 ≤ s.1 7 t) (ha : s.1 7 t < 192) (h0 : 0 ≤ z) (h1 : z < 192) :
    f88 N t z s = some (ic (ic s 7 (zup (s.1 7) t z)) 9 (if co z = -1 then (if co (s.1 7 t) = -1 then s.1 9 else zup (s.1 9) (co (s.1 7 t)) (-1)) else zup (if co (s.1 7 t) = -1 then s.1 9 else zup (s.1 9) (co (s.1 7 t)) (-1)) (co z) t)) := by
  have r1 := co_rg ha0 ha
  have r2 := co_rg h0 h1
  unfold f88
  simp (disch := omega) only [ick_ok, iov_ok, iol_ok, idv_ok, ich_ok, icp_ok, i_o2_some, i_o1_some, c_cellOf]
  have at22 : ∀ u : gI, u.1 7 = s.1 7 → f88_at22 N t z u = some (if co z = -1 then iw u 7 t z else iw (iw u 7 t z) 9 (co z) t) := by
    intro u _
    unfold f88_at22
    simp (disch := omega) only [ick_ok, iov_ok, iol_ok, idv_ok, ich_ok, icp_ok, i_o2_some, i_o1_some, c_cellOf]
    by_cases h : co z = -1
    · rw [if_pos h, if_pos h]
    · rw [if_neg h, if_neg h]
  by_cases h : co (s.1 7 t) = -1
  · rw [if_pos h, at22 s rfl]
    simp only [if_pos h]
    by_cases h2 : co z = -1
    · rw [if_pos h2, if_pos h2, iw_ic]
      congr 1
      have : s.1 9 = (ic s 7 (zup (s.1 7) t z)).1 9 := (ic_ne (by decide)).symm
      rw [this, ic_self]
    · rw [if_neg h2, if_neg h2, iw_ic, iw_ic, ic_ne (by decide)]
  · rw [if_neg h, at22 _ (iw_ne (by decide))]
    simp only [if_neg h]
    by_cases h2 : co z = -1
    · rw [if_pos h2, if_pos h2, iw_ic, iw_ic, ic_ne (by decide), ic_comm (by decide)]
    · rw [if_neg h2, if_neg h2, iw_ic, iw_ic, iw_ic, ic_ne (by decide), ic_ne (by decide), ic_at, ic_comm (by decide : (9 : Nat) ≠ 7), ic_ic]
theorem c_put {m : Nat} {z : Int} (hV : VV (cQ s) p) (hn : (cQ s).2.2.2.1 ≤ 8) (hm : m < (cQ s).2.2.2.1) (hz : okq (cQ s) p m z) : f88 N m z (cst s p) = some (cst s (zup p m z)) := by
  have a1 := okq_rg (hV m hm)
  have a2 := okq_rg hz
  rw [c_put_raw (by omega) (by omega) (by rw [cst_7]; omega) (by rw [cst_7]; omega) (by omega) (by omega), cst_7, cst_9]
  have e := whof_put hV hm hz (s.1 9)
  rw [e]
  unfold cst
  rw [ic_comm (by decide : (9 : Nat) ≠ 7), ic_ic, ic_ic]
theorem c_step {r : Nat} {c w : Int} (hw : cOK s) (hon : onR (cQ s) c) (h0 : 0 ≤ w) (h1 : w ≤ 3) :
    f82 N r c w s = some (if cTo (s.1 12 0) (s.1 12 1) (s.1 13) (oC (s.1 13) (s.1 r)) (c % 8 + ac (w + 1)) (c / 8 + al (w + 1)) < 0 then c else cTo (s.1 12 0) (s.1 12 1) (s.1 13) (oC (s.1 13) (s.1 r)) (c % 8 + ac (w + 1)) (c / 8 + al (w + 1)), s) := by
  obtain ⟨⟨hW0, hW⟩, ⟨hD0, hD⟩, -, -⟩ := id hw
  obtain ⟨o1, o2, o3, o4⟩ := hon
  have o3 : c % 8 < s.1 12 0 := o3
  have o4 : c / 8 < s.1 12 1 := o4
  have at48 : ∀ x y : Int, -1 ≤ x → x ≤ 8 → -1 ≤ y → y ≤ 8 → (y < 0 → 0 ≤ x ∧ x < s.1 12 0) → f82_at48 N r c x y s = some (if cTo (s.1 12 0) (s.1 12 1) (s.1 13) (oC (s.1 13) (s.1 r)) x y < 0 then c else cTo (s.1 12 0) (s.1 12 1) (s.1 13) (oC (s.1 13) (s.1 r)) x y, s) := by
    intro x y hx0 hx1 hy0 hy1 hy
    unfold f82_at48 cTo
    by_cases h2 : 0 ≤ y
    rotate_left
    · obtain ⟨b1, b2⟩ := hy (by omega)
      simp only [if_neg h2, if_neg (Int.not_lt.mpr b1), if_neg (Int.not_le.mpr b2), if_pos (show y < s.1 12 1 by omega)]
      rw [if_neg (by decide)]
    simp only [if_pos h2]
    by_cases h3 : x < 0
    · simp only [if_pos h3]; rw [if_neg (by decide)]
    simp only [if_neg h3]
    by_cases h4 : s.1 12 0 ≤ x
    · simp only [if_pos h4]; rw [if_neg (by decide)]
    simp only [if_neg h4]
    by_cases h5 : y < s.1 12 1
    rotate_left
    · simp only [if_neg h5]; rw [if_neg (by decide)]
    simp only [if_pos h5]
    simp (disch := omega) only [ick_ok, iov_ok, iol_ok, idv_ok, ich_ok, icp_ok, i_o2_some, i_o1_some]
    rw [show y * 8 + x = 8 * y + x by omega]
    have eo : oC (s.1 13) (s.1 r) (8 * y + x) = if s.1 13 (8 * y + x) = 7 then -1 else s.1 r (8 * y + x) := by
      unfold oC
      rw [if_pos (by omega)]
    have eo2 : oC (s.1 13) (s.1 r) (128 + (8 * y + x)) = s.1 r (8 * y + x) := by
      unfold oC
      rw [if_neg (by omega), show 128 + (8 * y + x) - 128 = 8 * y + x by omega]
    rw [eo, eo2]
    by_cases h6 : s.1 13 (8 * y + x) = 7
    · simp only [if_pos h6, if_neg (show ¬ s.1 13 (8 * y + x) = 8 by omega), if_pos (show (-1 : Int) < 0 by decide)]
      by_cases h7 : 0 ≤ s.1 r (8 * y + x)
      · simp only [if_pos h7, if_neg (Int.not_lt.mpr h7)]
        rw [if_neg (by decide)]
      · simp only [if_neg h7, if_pos (Int.not_le.mp h7)]
        rw [if_neg (by omega)]
    · simp only [if_neg h6]
      by_cases h7 : s.1 13 (8 * y + x) = 8
      · simp only [if_pos h7]
        rw [if_pos (by decide)]
      · simp only [if_neg h7]
        by_cases h8 : s.1 r (8 * y + x) < 0
        · simp only [if_pos h8]
          rw [if_neg (by omega)]
        · simp only [if_neg h8]
          rw [if_pos (by decide)]
  unfold f82 f82_at45
  simp (disch := omega) only [ick_ok, iov_ok, iol_ok, idv_ok, ich_ok, icp_ok, i_o2_some, i_o1_some]
  have hw4 : w = 0 ∨ w = 1 ∨ w = 2 ∨ w = 3 := by omega
  rcases hw4 with rfl | rfl | rfl | rfl
  · rw [if_pos rfl]
    show f82_at48 N r c (c % 8) (c / 8 + 1) s = _
    rw [at48 _ _ (by omega) (by omega) (by omega) (by omega) (by omega), show c % 8 + ac (0 + 1) = c % 8 from Int.add_zero _, show al (0 + 1) = 1 from rfl]
  · rw [if_neg (by decide), if_pos rfl, at48 _ _ (by omega) (by omega) (by omega) (by omega) (by omega), show c % 8 + ac (1 + 1) = c % 8 from Int.add_zero _, show al (1 + 1) = -1 from rfl]
  · rw [if_neg (by decide), if_neg (by decide), if_pos rfl, at48 _ _ (by omega) (by omega) (by omega) (by omega) (by omega), show c / 8 + al (2 + 1) = c / 8 from Int.add_zero _, show ac (2 + 1) = -1 from rfl]
  · rw [if_neg (by decide), if_neg (by decide), if_neg (by decide), at48 _ _ (by omega) (by omega) (by omega) (by omega) (by omega), show c / 8 + al (3 + 1) = c / 8 from Int.add_zero _, show ac (3 + 1) = 1 from rfl]
theorem c_rest_lp {r : Nat} (hw : cOK s) : ∀ (k fuel : Nat) (st met cell i : Int) (mt : Int → Bool), k < fuel → 0 ≤ i → i + k = st → st ≤ 64 → onR (cQ s) cell → mt cell = true → (∀ j, 0 ≤ j → j < 64 → gb met j = mt j) →
    f84_at11 N r fuel st met cell i s = some (roll (s.1 12 0) (s.1 12 1) (s.1 13) (oC (s.1 13) (s.1 r)) k mt cell, s) := by
  intro k
  induction k with
  | zero =>
    intro fuel st met cell i mt hf h0 hi h64 hon hc hm
    obtain ⟨fuel, rfl⟩ : ∃ g, fuel = g + 1 := ⟨fuel - 1, by omega⟩
    unfold f84_at11
    rw [if_pos (by omega)]
    rfl
  | succ k ih =>
    intro fuel st met cell i mt hf h0 hi h64 hon hc hm
    obtain ⟨fuel, rfl⟩ : ∃ g, fuel = g + 1 := ⟨fuel - 1, by omega⟩
    obtain ⟨⟨hW0, hW⟩, ⟨hD0, hD⟩, -, ht⟩ := id hw
    obtain ⟨o1, o2, o3, o4⟩ := id hon
    obtain ⟨t0, t1⟩ := ht cell o1 o2
    unfold f84_at11 roll
    rw [if_neg (by omega)]
    simp (disch := omega) only [ick_ok, iov_ok, iol_ok, idv_ok, ich_ok, icp_ok, i_o2_some, i_o1_some]
    by_cases h1 : s.1 13 cell - 1 < 0
    · have e : nxt (s.1 12 0) (s.1 12 1) (s.1 13) (oC (s.1 13) (s.1 r)) cell = -1 := by
        unfold nxt
        rw [show s.1 13 cell = 0 by omega]
        exact if_pos ⟨rfl, rfl⟩
      rw [if_pos h1, e, if_pos (by decide)]
    rw [if_neg h1]
    by_cases h2 : s.1 13 cell - 1 ≤ 3
    rotate_left
    · have e : nxt (s.1 12 0) (s.1 12 1) (s.1 13) (oC (s.1 13) (s.1 r)) cell = -1 := by
        unfold nxt
        have : s.1 13 cell = 5 ∨ s.1 13 cell = 6 ∨ s.1 13 cell = 7 ∨ s.1 13 cell = 8 := by omega
        rcases this with h | h | h | h <;> rw [h] <;> exact if_pos ⟨rfl, rfl⟩
      rw [if_neg h2, e, if_pos (by decide)]
    rw [if_pos h2, c_step hw hon (by omega) h2, show s.1 13 cell - 1 + 1 = s.1 13 cell by omega]
    have e : nxt (s.1 12 0) (s.1 12 1) (s.1 13) (oC (s.1 13) (s.1 r)) cell = cTo (s.1 12 0) (s.1 12 1) (s.1 13) (oC (s.1 13) (s.1 r)) (cell % 8 + ac (s.1 13 cell)) (cell / 8 + al (s.1 13 cell)) := by
      unfold nxt
      refine if_neg ?_
      have : s.1 13 cell = 1 ∨ s.1 13 cell = 2 ∨ s.1 13 cell = 3 ∨ s.1 13 cell = 4 := by omega
      rcases this with h | h | h | h <;> rw [h] <;> decide
    rw [← e]
    have hr := cTo_rg (s.1 12 0) (s.1 12 1) (s.1 13) (oC (s.1 13) (s.1 r)) (x := cell % 8 + ac (s.1 13 cell)) (y := cell / 8 + al (s.1 13 cell)) hW hD
    rw [← e] at hr
    generalize nxt (s.1 12 0) (s.1 12 1) (s.1 13) (oC (s.1 13) (s.1 r)) cell = z at hr
    have bit : ∀ d : Int, 0 ≤ d → d < 64 → (i_cmp (j_and (j_ushr met d) 1) 0 = 0) = (mt d = false) := by
      intro d hd0 hd1
      rw [j_ushr_bit hd0 hd1, hm d hd0 hd1, i_cmp_eq]
      cases mt d <;> simp
    simp only [i_o2_some]
    by_cases h3 : z < 0
    · rw [if_pos h3, if_pos h3, if_pos o2, if_neg (by rw [bit cell o1 o2, hc]; decide)]
    rw [if_neg h3, if_neg h3]
    by_cases h4 : 64 ≤ z
    · rw [if_pos h4, if_neg (by omega)]
    rw [if_neg h4, if_pos (by omega)]
    cases hz : mt z with
    | true => rw [if_neg (by rw [bit z (by omega) (by omega), hz]; decide), if_pos rfl]
    | false =>
      rw [if_pos (by rw [bit z (by omega) (by omega), hz]), if_neg (by decide)]
      refine ih fuel st _ z (i + 1) _ (by omega) (by omega) (by omega) h64 ?_ ?_ ?_
      · have e1 : (cQ s).1 = s.1 12 0 := rfl
        have e2 : (cQ s).2.1 = s.1 12 1 := rfl
        exact ⟨by omega, by omega, by omega, by omega⟩
      · simp
      · intro j hj0 hj1
        rw [gb_or, hm j hj0 hj1, gb_shl (by omega) (by omega) hj0 hj1]
theorem c_rest {r : Nat} {c st : Int} (hN : 5000 ≤ N) (hw : cOK s) (hon : onR (cQ s) c) (h0 : 0 ≤ st) (h1 : st ≤ 64) : f84 N r c st s = some (roll (s.1 12 0) (s.1 12 1) (s.1 13) (oC (s.1 13) (s.1 r)) st.toNat (fun j => decide (j = c)) c, s) := by
  unfold f84
  exact c_rest_lp hw st.toNat N st _ c 0 _ (by omega) (by omega) (by omega) h1 hon (by simp) (fun j hj0 hj1 => gb_shl hon.1 hon.2.1 hj0 hj1)
theorem c_stepsOf {t : Int} (h0 : 0 ≤ t) (h1 : t < 8) : f53 N t s = some ((rf (s.1 18 t) : Int), s) := by
  unfold f53 rf
  simp (disch := omega) only [ick_ok, iov_ok, iol_ok, idv_ok, ich_ok, icp_ok, i_o2_some, i_o1_some]
  split
  · rfl
  · split <;> rfl
end CMOVE

/-! The reference: rolling on, knocking, throwing. -/
section MTHROW
variable {N : Nat} {s : gI}
theorem m_roll_step (hN : 5000 ≤ N) (hw : mOK s) {b t kd cell met : Int} {fuel : Nat} (hb : b ≤ 692) (h0 : 0 ≤ cell) (h1 : cell < 64) :
    f231_at26 N (fuel + 1) b t kd cell met 1 s = f231_at87 N (f231_at26 N fuel) b t kd cell met (nxt (s.1 69 0) (s.1 69 1) (sh 2 (s.1 69)) (mO s b t) cell) s := by
  have a1 := ac_rg (s.1 69 (2 + cell))
  have a2 := al_rg (s.1 69 (2 + cell))
  have e59 : f231_at59 N (f231_at26 N fuel) b t kd cell met (s.1 69 (2 + cell)) s = f231_at87 N (f231_at26 N fuel) b t kd cell met (cTo (s.1 69 0) (s.1 69 1) (sh 2 (s.1 69)) (mO s b t) (cell % 8 + ac (s.1 69 (2 + cell))) (cell / 8 + al (s.1 69 (2 + cell)))) s := by
    unfold f231_at59
    simp (disch := omega) only [m_across, m_along, m_comesTo hN hw hb, ick_ok, iov_ok, iol_ok, idv_ok, ich_ok, icp_ok, i_o2_some, i_o1_some]
  simp (disch := omega) only [f231_at26, m_tileAt, m_across, m_along, ick_ok, iov_ok, iol_ok, idv_ok, ich_ok, icp_ok, i_o2_some, i_o1_some]
  rw [if_neg (by decide)]
  unfold nxt
  rw [sh_at]
  by_cases h2 : ac (s.1 69 (2 + cell)) = 0
  · rw [if_pos h2]
    by_cases h3 : al (s.1 69 (2 + cell)) = 0
    · rw [if_pos h3, if_pos ⟨h2, h3⟩]
    · rw [if_neg h3, if_neg (fun q => h3 q.2), e59]
  · rw [if_neg h2, if_neg (fun q => h2 q.1), e59]
theorem m_roll_lp (hN : 5000 ≤ N) (hw : mOK s) {b t : Int} (hb : b ≤ 692) : ∀ (k fuel : Nat) (cell met : Int) (mt : Int → Bool), k < fuel → 0 ≤ cell → cell < 64 → (∀ j, 0 ≤ j → j < 64 → gb met j = mt j) → cntB mt 64 + k = 65 →
    f231_at26 N fuel b t 0 cell met 1 s = some (roll (s.1 69 0) (s.1 69 1) (sh 2 (s.1 69)) (mO s b t) k mt cell, s) := by
  intro k
  induction k with
  | zero => intro fuel cell met mt _ _ _ _ hc; have := cntB_le mt 64; omega
  | succ k ih =>
    intro fuel cell met mt hf h0 h1 hm hc
    obtain ⟨fuel, rfl⟩ : ∃ g, fuel = g + 1 := ⟨fuel - 1, by omega⟩
    rw [m_roll_step hN hw hb h0 h1]
    unfold roll
    have hr := nxt_rg (s.1 69 0) (s.1 69 1) (sh 2 (s.1 69)) (mO s b t) (c := cell) hw.1.2 hw.2.1.2
    generalize nxt (s.1 69 0) (s.1 69 1) (sh 2 (s.1 69)) (mO s b t) cell = z at hr
    unfold f231_at87 f231_at116
    by_cases h2 : z < 0
    · rw [if_pos h2, if_pos h2]
    rw [if_neg h2, if_neg h2]
    by_cases h3 : 64 ≤ z
    · rw [if_pos h3, if_pos h3, if_neg (by omega)]
    rw [if_neg h3, if_neg h3, j_shr_bit (by omega) (by omega), hm z (by omega) (by omega)]
    cases hz : mt z with
    | true => simp [i_cmp]
    | false =>
      rw [show i_cmp (if false = true then 1 else 0) 1 = -1 from rfl, if_neg (by decide), if_pos (by omega), if_neg (by decide : ¬ (false = true))]
      refine Eq.trans (if_pos rfl) ?_
      refine ih fuel z _ _ (by omega) (by omega) (by omega) ?_ ?_
      · intro j hj0 hj1
        rw [gb_or, hm j hj0 hj1, gb_shl (by omega) (by omega) hj0 hj1]
      · rw [cntB_add mt z (by omega) hz, if_pos (by omega)]
        omega
theorem cnt_one {c : Int} (h0 : 0 ≤ c) (h1 : c < 64) : cntB (fun j => decide (j = c)) 64 = 1 := by
  obtain ⟨n, rfl⟩ := Int.eq_ofNat_of_zero_le h0
  have : ∀ a : Fin 64, cntB (fun j => decide (j = (a.val : Int))) 64 = 1 := by decide +kernel
  exact this ⟨n, by omega⟩
theorem m_rolled (hN : 5000 ≤ N) (hw : mOK s) {b t kd c : Int} (hb : b ≤ 692) (h0 : 0 ≤ c) (h1 : c < 64) : f231 N b t kd c s = some (roll (s.1 69 0) (s.1 69 1) (sh 2 (s.1 69)) (mO s b t) (rf kd) (fun j => decide (j = c)) c, s) := by
  unfold f231 rf
  dsimp only
  by_cases h2 : kd = 0
  · rw [if_pos h2, if_pos h2, h2]
    exact m_roll_lp hN hw hb 64 N c _ _ (by omega) h0 h1 (fun j hj0 hj1 => gb_shl h0 h1 hj0 hj1) (by rw [cnt_one h0 h1])
  rw [if_neg h2, if_neg h2]
  have h2' := h2
  obtain ⟨N, rfl⟩ : ∃ g, N = g + 1 := ⟨N - 1, by omega⟩
  by_cases h3 : kd = 2
  · rw [if_pos h3, if_pos h3, m_roll_step hN hw hb h0 h1]
    unfold roll
    have hr := nxt_rg (s.1 69 0) (s.1 69 1) (sh 2 (s.1 69)) (mO s b t) (c := c) hw.1.2 hw.2.1.2
    generalize nxt (s.1 69 0) (s.1 69 1) (sh 2 (s.1 69)) (mO s b t) c = z at hr
    unfold f231_at87 f231_at116
    by_cases h2 : z < 0
    · rw [if_pos h2, if_pos h2]
    rw [if_neg h2, if_neg h2]
    by_cases h4 : 64 ≤ z
    · rw [if_pos h4, if_pos h4, if_neg (by omega)]
    rw [if_neg h4, if_neg h4, j_shr_bit (by omega) (by omega), gb_shl h0 h1 (by omega) (by omega)]
    dsimp only
    by_cases hz : z = c
    · subst hz
      simp [i_cmp]
    · obtain ⟨N, rfl⟩ : ∃ g, N = g + 1 := ⟨N - 1, by omega⟩
      have e1 : (if decide (z = c) = true then (1 : Int) else 0) = 0 := by simp [hz]
      rw [e1, show i_cmp 0 1 = -1 from rfl, if_neg (by decide), if_pos (by omega), if_neg h2', if_neg (by simp [hz]), f231_at26, if_pos rfl]
      rfl
  · rw [if_neg h3, if_neg h3, f231_at26, if_pos rfl]
    rfl
theorem mQ_ic {F : Int → Int} : mQ (ic s 78 F) = mQ s := by
  unfold mQ
  rw [ic_ne (by decide), ic_ne (by decide)]
theorem mOK_ic {F : Int → Int} (h : mOK s) : mOK (ic s 78 F) := by
  unfold mOK
  rw [ic_ne (by decide), ic_ne (by decide)]
  exact h
theorem mO_ex {b t : Int} (hb : 0 ≤ b) : mO s b t = exO (mQ s) (sh b (s.1 78)) t := by
  funext c
  exact if_neg (Int.not_lt.mpr hb)
/-- the state rows from b on replaced -/
def pst (s : gI) (b : Int) (p : Int → Int) : gI := ic s 78 (unsh b p)
theorem pst_78 {b : Int} {p : Int → Int} : (pst s b p).1 78 = unsh b p := ic_at
theorem pst_sh {b : Int} {p : Int → Int} : sh b ((pst s b p).1 78) = p := by rw [pst_78, sh_unsh]
theorem pst_Q {b : Int} {p : Int → Int} : mQ (pst s b p) = mQ s := mQ_ic
theorem pst_OK {b : Int} {p : Int → Int} (h : mOK s) : mOK (pst s b p) := mOK_ic h
theorem pst_pst {b : Int} {p q : Int → Int} : pst (pst s b p) b q = pst s b q := ic_ic
theorem pst_self {b : Int} : pst s b (sh b (s.1 78)) = s := by
  unfold pst
  rw [unsh_sh, ic_self]
theorem pst_w {b t x : Int} {p : Int → Int} : iw (pst s b p) 78 (b + t) x = pst s b (zup p t x) := by
  rw [iw_ic, pst_78, zup_unsh]
  exact ic_ic
theorem pst_w0 {b t x : Int} : iw s 78 (b + t) x = pst s b (zup (sh b (s.1 78)) t x) := by
  have := pst_w (s := s) (b := b) (t := t) (x := x) (p := sh b (s.1 78))
  rwa [pst_self] at this
theorem m_to1 (hN : 5000 ≤ N) (hw : mOK s) {b t x y : Int} (hb0 : 0 ≤ b) (hb : b ≤ 692) (hx : x ≤ 10000) (hy : -10000 ≤ y ∧ y ≤ 10000) : f228 N b t x y s = some (to1 (mQ s) (sh b (s.1 78)) t x y, s) := by
  rw [m_comesTo hN hw hb hx hy, mO_ex hb0]
  rfl
theorem m_rollsOn (hN : 5000 ≤ N) (hw : mOK s) {b t : Int} (hb0 : 0 ≤ b) (hb : b ≤ 692) (ht0 : 0 ≤ t) (ht : t < 8) (hp : 0 ≤ s.1 78 (b + t)) : f232 N b t s = some (pst s b (rollsOn (mQ s) (sh b (s.1 78)) t)) := by
  unfold f232 rollsOn
  simp (disch := omega) only [ick_ok, iov_ok, iol_ok, idv_ok, ich_ok, icp_ok, i_o2_some, i_o1_some, m_thingOf]
  rw [sh_at]
  by_cases h : 64 ≤ s.1 78 (b + t)
  · rw [if_pos h, if_pos h, pst_self]
  · rw [if_neg h, if_neg h, m_rolled hN hw hb hp (by omega), i_o2_some, pst_w0, mO_ex hb0]
    simp only [Int.add_zero]
    rfl
theorem to1_rg (Q : Cf) (hW : Q.1 ≤ 8) (hD : Q.2.1 ≤ 8) (p : Int → Int) (t x y : Int) : -1 ≤ to1 Q p t x y ∧ to1 Q p t x y < 192 := by
  have := cTo_rg Q.1 Q.2.1 Q.2.2.1 (exO Q p t) (x := x) (y := y) hW hD
  unfold to1
  omega
theorem m_knocks (hN : 5000 ≤ N) (hw : mOK s) {b t x y z : Int} (hb0 : 0 ≤ b) (hb : b ≤ 692) (ht0 : 0 ≤ t) (ht : t < 8) (hx : x ≤ 100) (hy : -100 ≤ y ∧ y ≤ 100) (hz : z = 0 ∨ z = 1) :
    f236 N b t x y z s = some (pst s b (knock (mQ s) (sh b (s.1 78)) t x y (decide (z = 1)))) := by
  have r1 := to1_rg (mQ s) hw.1.2 hw.2.1.2 (sh b (s.1 78)) t x (y + 1)
  unfold f236 knock
  simp (disch := omega) only [ick_ok, iov_ok, iol_ok, idv_ok, ich_ok, icp_ok, i_o2_some, i_o1_some, m_to1 hN hw hb0 hb]
  by_cases h1 : 0 ≤ to1 (mQ s) (sh b (s.1 78)) t x (y + 1)
  rotate_left
  · rw [if_neg h1, if_neg h1, pst_self]
  rw [if_pos h1, if_pos h1, pst_w0]
  have fin : ∀ q : Int, 0 ≤ q → f236_at77 N b t q (b + t) (pst s b (zup (sh b (s.1 78)) t (to1 (mQ s) (sh b (s.1 78)) t x (y + 1)))) = some (pst s b (rollsOn (mQ s) (zup (sh b (s.1 78)) t q) t)) := by
    intro q hq
    unfold f236_at77
    simp (disch := omega) only [ick_ok, iov_ok, iol_ok, idv_ok, ich_ok, icp_ok, i_o2_some, i_o1_some, pst_w]
    rw [m_rollsOn hN (pst_OK hw) hb0 hb ht0 ht (by rw [pst_78]; unfold unsh; rw [show b + t - b = t by omega, zup_zup, zup_same]; exact hq), pst_sh, pst_Q, pst_pst, i_o1_some, zup_zup]
  have r2 := to1_rg (mQ s) hw.1.2 hw.2.1.2 (zup (sh b (s.1 78)) t (to1 (mQ s) (sh b (s.1 78)) t x (y + 1))) t x (y + 2)
  unfold f236_at55 f236_at56
  by_cases h2 : z = 0
  · subst h2
    rw [if_pos (show (0 : Int) = 0 from rfl)]
    simp (disch := omega) only [ick_ok, iov_ok, iol_ok, idv_ok, ich_ok, icp_ok, i_o2_some, i_o1_some]
    rw [if_neg (show ¬ (0 : Int) ≤ -1 by decide), fin _ h1, if_neg (by simp)]
  · have h3 : z = 1 := by omega
    subst h3
    rw [if_neg h2]
    by_cases h4 : 64 ≤ to1 (mQ s) (sh b (s.1 78)) t x (y + 1)
    · rw [if_pos h4]
      simp (disch := omega) only [ick_ok, iov_ok, iol_ok, idv_ok, ich_ok, icp_ok, i_o2_some, i_o1_some]
      rw [if_neg (show ¬ (0 : Int) ≤ -1 by decide), fin _ h1, if_neg (by omega)]
    · rw [if_neg h4]
      have e1 := m_to1 (s := pst s b (zup (sh b (s.1 78)) t (to1 (mQ s) (sh b (s.1 78)) t x (y + 1)))) (b := b) (t := t) (x := x) (y := y + 2) hN (pst_OK hw) hb0 hb (by omega) (by omega)
      rw [pst_Q, pst_sh] at e1
      simp (disch := omega) only [ick_ok, iov_ok, iol_ok, idv_ok, ich_ok, icp_ok, i_o2_some, i_o1_some, e1]
      by_cases h5 : 0 ≤ to1 (mQ s) (zup (sh b (s.1 78)) t (to1 (mQ s) (sh b (s.1 78)) t x (y + 1))) t x (y + 2)
      · rw [if_pos h5, fin _ h5, if_pos ⟨by decide, by omega, h5⟩]
      · rw [if_neg h5, fin _ h1, if_neg (fun q => h5 q.2.2)]
end MTHROW

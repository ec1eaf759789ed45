/-! The reference: throws. -/
section MTOSS
variable {N : Nat} {s : gI}
theorem slip_cases {z : Int} (h0 : 0 ≤ z) (h1 : z ≤ 8) : z = 0 ∨ z = 1 ∨ z = 2 ∨ z = 3 ∨ z = 4 ∨ z = 5 ∨ z = 6 ∨ z = 7 ∨ z = 8 := by omega
theorem sK_rg {z : Int} (h0 : 0 ≤ z) (h1 : z ≤ 8) : 0 ≤ sK z ∧ sK z ≤ 8 := by
  unfold sK
  split
  · omega
  · split <;> omega
theorem sX_rg {z : Int} (h0 : 0 ≤ z) (h1 : z ≤ 8) : -1 ≤ sX z ∧ sX z ≤ 1 := by
  have := sK_rg h0 h1
  unfold sX
  omega
theorem sY_rg {z : Int} (h0 : 0 ≤ z) (h1 : z ≤ 8) : -1 ≤ sY z ∧ sY z ≤ 1 := by
  have := sK_rg h0 h1
  unfold sY
  omega
theorem m_slipX {z : Int} (h0 : 0 ≤ z) (h1 : z ≤ 8) : f233 N z s = some (sX z, s) := by
  unfold f233 f233_at20 sX sK
  split
  · simp (disch := omega) only [ick_ok, iov_ok, iol_ok, idv_ok, ich_ok, icp_ok, i_o2_some, i_o1_some]
  · split
    · simp (disch := omega) only [ick_ok, iov_ok, iol_ok, idv_ok, ich_ok, icp_ok, i_o2_some, i_o1_some]
    · simp (disch := omega) only [ick_ok, iov_ok, iol_ok, idv_ok, ich_ok, icp_ok, i_o2_some, i_o1_some]
theorem m_slipY {z : Int} (h0 : 0 ≤ z) (h1 : z ≤ 8) : f234 N z s = some (sY z, s) := by
  unfold f234 f234_at20 sY sK
  split
  · simp (disch := omega) only [ick_ok, iov_ok, iol_ok, idv_ok, ich_ok, icp_ok, i_o2_some, i_o1_some]
  · split
    · simp (disch := omega) only [ick_ok, iov_ok, iol_ok, idv_ok, ich_ok, icp_ok, i_o2_some, i_o1_some]
    · simp (disch := omega) only [ick_ok, iov_ok, iol_ok, idv_ok, ich_ok, icp_ok, i_o2_some, i_o1_some]
theorem m_rollsP (hN : 5000 ≤ N) (hw : mOK s) {b t : Int} {p : Int → Int} (hb0 : 0 ≤ b) (hb : b ≤ 692) (ht0 : 0 ≤ t) (ht : t < 8) (hp : 0 ≤ p t) : f232 N b t (pst s b p) = some (pst s b (rollsOn (mQ s) p t)) := by
  have e : (pst s b p).1 78 (b + t) = p t := by
    rw [pst_78]
    unfold unsh
    congr 1; omega
  rw [m_rollsOn hN (pst_OK hw) hb0 hb ht0 ht (by rw [e]; exact hp), pst_sh, pst_Q, pst_pst]
theorem m_throwsAt (hN : 5000 ≤ N) (hw : mOK s) {b per t x y z : Int} (hb0 : 0 ≤ b) (hb : b ≤ 680) (ht0 : 0 ≤ t) (ht : t < 8) (hx : 0 ≤ x ∧ x < 8) (hy : 0 ≤ y ∧ y < 8) (hz0 : 0 ≤ z) (hz : z ≤ 8) :
    f235 N b per t x y z s = some (pst s b (thrown (mQ s) (zup (sh b (s.1 78)) (8 + t) per) t (x + sX z) (y + sY z))) := by
  have rx := sX_rg hz0 hz
  have ry := sY_rg hz0 hz
  unfold f235
  simp (disch := omega) only [ick_ok, iov_ok, iol_ok, idv_ok, ich_ok, icp_ok, i_o2_some, i_o1_some, m_slipX hz0 hz, m_slipY hz0 hz, m_wide, m_deep]
  rw [show b + 8 + t = b + (8 + t) by omega, pst_w0 (s := s) (t := 8 + t) (x := per), pst_w]
  generalize zup (sh b (s.1 78)) (8 + t) per = P
  generalize hX : x + sX z = X at rx
  generalize hY : y + sY z = Y at ry
  have hXr : -1 ≤ X ∧ X ≤ 8 := by omega
  have hYr : -1 ≤ Y ∧ Y ≤ 8 := by omega
  have eW : (pst s b (zup P t 64)).1 69 = s.1 69 := ic_ne (by decide)
  have eT : (pst s b (zup P t 64)).1 71 = s.1 71 := ic_ne (by decide)
  rw [eW]
  have off : ∀ A : Int, (X < 0 ∨ s.1 69 0 ≤ X ∨ s.1 69 1 ≤ Y ∨ Y < 0) → f235_at70 N b t X Y (pst s b (zup P t 64)) = some (pst s b (thrown (mQ s) P t X Y)) := by
    intro _ hA
    unfold f235_at70 thrown
    simp (disch := omega) only [ick_ok, iov_ok, iol_ok, idv_ok, ich_ok, icp_ok, i_o2_some, i_o1_some, m_wide, pst_w, zup_zup]
    rw [eW, if_pos (show X < 0 ∨ (mQ s).1 ≤ X ∨ (mQ s).2.1 ≤ Y ∨ Y < 0 from hA)]
    by_cases h1 : 0 ≤ Y
    · rw [if_pos h1, if_neg (by omega)]
    rw [if_neg h1]
    by_cases h2 : X < 0
    · rw [if_pos h2, if_neg (by omega)]
    rw [if_neg h2]
    by_cases h3 : s.1 69 0 ≤ X
    · rw [if_pos h3, if_neg (fun q => absurd q.2.2 (Int.not_lt.mpr h3))]
    · rw [if_neg h3, if_pos ⟨by omega, by omega, Int.not_le.mp h3⟩]
  by_cases h1 : X < 0
  · rw [if_pos h1]; exact off 0 (Or.inl h1)
  rw [if_neg h1]
  by_cases h2 : s.1 69 0 ≤ X
  · rw [if_pos h2]; exact off 0 (Or.inr (Or.inl h2))
  rw [if_neg h2]
  by_cases h3 : s.1 69 1 ≤ Y
  · rw [if_pos h3]; exact off 0 (Or.inr (Or.inr (Or.inl h3)))
  rw [if_neg h3]
  by_cases h4 : 0 ≤ Y
  rotate_left
  · rw [if_neg h4]; exact off 0 (Or.inr (Or.inr (Or.inr (by omega))))
  rw [if_pos h4]
  obtain ⟨⟨hW0, hW⟩, ⟨hD0, hD⟩, hn0, hn⟩ := id hw
  have eA := m_thingAt (N := N) (s := pst s b (zup P t 64)) hN (by rw [eT]; exact hn0) (by rw [eT]; exact hn) (b := b) (c := 8 * Y + X) (but := t) hb0 (by omega)
  rw [pst_sh, eT] at eA
  rw [eA]
  simp only [i_o2_some]
  unfold thrown
  rw [if_neg (show ¬ (X < 0 ∨ (mQ s).1 ≤ X ∨ (mQ s).2.1 ≤ Y ∨ Y < 0) by
    have e1 : (mQ s).1 = s.1 69 0 := rfl
    have e2 : (mQ s).2.1 = s.1 69 1 := rfl
    omega)]
  have eN : (mQ s).2.2.2.1 = (s.1 71 1).toNat := rfl
  rw [eN]
  have ro := occ_rg (zup P t 64) (8 * Y + X) t (s.1 71 1).toNat
  generalize hh : occ (zup P t 64) (8 * Y + X) t (s.1 71 1).toNat = h at ro
  by_cases h5 : h < 0
  · rw [if_pos h5, if_neg (by omega)]
    have e1 := m_to1 (N := N) (s := pst s b (zup P t 64)) (b := b) (t := t) (x := X) (y := Y) hN (pst_OK hw) hb0 (by omega) (by omega) (by omega)
    rw [pst_sh, pst_Q] at e1
    rw [e1]
    unfold f235_at219 f235_at220
    simp (disch := omega) only [ick_ok, iov_ok, iol_ok, idv_ok, ich_ok, icp_ok, i_o2_some, i_o1_some, pst_w]
    by_cases h6 : 0 ≤ to1 (mQ s) (zup P t 64) t X Y
    · rw [if_pos h6, if_neg (by omega), m_rollsP hN hw hb0 (by omega) ht0 ht (by rw [zup_same]; exact h6), i_o1_some]
    · rw [if_neg h6, if_pos (by omega), m_rollsP hN hw hb0 (by omega) ht0 ht (by rw [zup_same]; omega), i_o1_some]
  · rw [if_neg h5, if_pos (by omega)]
    have kn : ∀ w : Int, (w = 0 ∨ w = 1) → f235_at153 N b t (8 * Y + X) h w Y X h b (pst s b (zup P t 64)) = some (pst s b (rollsOn (mQ s) (zup (knock (mQ s) (zup P t 64) h X Y (decide (w = 1))) t (if knock (mQ s) (zup P t 64) h X Y (decide (w = 1)) h = 8 * Y + X then 64 else 8 * Y + X)) t)) := by
      intro w hw1
      have e1 := m_knocks (N := N) (s := pst s b (zup P t 64)) (b := b) (t := h) (x := X) (y := Y) (z := w) hN (pst_OK hw) hb0 (by omega) (by omega) (by omega) (by omega) (by omega) hw1
      rw [pst_sh, pst_Q, pst_pst] at e1
      unfold f235_at153
      rw [e1, i_o1_some]
      simp (disch := omega) only [ick_ok, iov_ok, iol_ok, idv_ok, ich_ok, icp_ok, i_o2_some, i_o1_some]
      have e2 : (pst s b (knock (mQ s) (zup P t 64) h X Y (decide (w = 1)))).1 78 (b + h) = knock (mQ s) (zup P t 64) h X Y (decide (w = 1)) h := by
        rw [pst_78]
        unfold unsh
        congr 1; omega
      rw [e2]
      unfold f235_at184 f235_at220
      simp (disch := omega) only [ick_ok, iov_ok, iol_ok, idv_ok, ich_ok, icp_ok, i_o2_some, i_o1_some, pst_w]
      by_cases h6 : knock (mQ s) (zup P t 64) h X Y (decide (w = 1)) h = 8 * Y + X
      · rw [if_pos h6, if_pos h6, m_rollsP hN hw hb0 (by omega) ht0 ht (by rw [zup_same]; omega), i_o1_some]
      · rw [if_neg h6, if_neg h6, m_rollsP hN hw hb0 (by omega) ht0 ht (by rw [zup_same]; omega), i_o1_some]
    simp (disch := omega) only [m_thingOf, i_o2_some]
    rw [eT]
    have eK : (mQ s).2.2.2.2 t = s.1 71 (14 + 3 * t + 0) := by
      show s.1 71 (14 + 3 * t) = _
      rw [Int.add_zero]
    rw [eK]
    by_cases h6 : s.1 71 (14 + 3 * t + 0) = 3
    · rw [if_pos h6, kn 1 (Or.inr rfl), h6]
      rfl
    · rw [if_neg h6, kn 0 (Or.inl rfl)]
      have e3 : decide (s.1 71 (14 + 3 * t + 0) = 3) = decide ((0 : Int) = 1) := by
        rw [decide_eq_false h6]; rfl
      rw [e3]
end MTOSS

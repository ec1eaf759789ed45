/-! Promise 8: toss; and the way of all that is done by hand. -/
section TOSS
variable {N : Nat} {s u c m : gI} {k : Int}
/-- the class' cells behind an action by hand -/
def actC (s c : gI) : Prop := (∀ a : Nat, a ≠ 6 → a ≠ 7 → a ≠ 8 → a ≠ 9 → a ≠ 41 → a ≠ 42 → a ≠ 27 → a ≠ 30 → c.1 a = s.1 a) ∧ c.2 = s.2 ∧ c.1 41 = (remS s).1 41 ∧ c.1 42 = (remS s).1 42
/-- the reference ahead of its action by hand, behind keeps -/
def kepS (c : gI) (G : Int → Int) : gI := iw (ic (iw c 63 0 0) 78 G) 63 23 (if c.1 63 23 < 16 then c.1 63 23 + 1 else 16)
/-- the reference's cells behind its action -/
def actM (u m : gI) : Prop := (∀ a : Nat, a ≠ 63 → a ≠ 76 → a ≠ 77 → a ≠ 78 → m.1 a = u.1 a) ∧ m.2 68 = u.2 68 ∧ m.1 63 2 = u.1 63 2 ∧ m.1 63 23 = u.1 63 23 ∧ ∀ j, 18 ≤ j → j < 588 → m.1 78 j = u.1 78 j
theorem kepS_78 {G : Int → Int} : (kepS c G).1 78 = G := by
  unfold kepS
  rw [iw_ne (by decide), ic_at]
theorem kepS_ne {G : Int → Int} {a : Nat} (h1 : a ≠ 63) (h2 : a ≠ 78) : (kepS c G).1 a = c.1 a := by
  unfold kepS
  rw [iw_ne h1, ic_ne h2, iw_ne h1]
theorem kepS_Q {G : Int → Int} : mQ (kepS c G) = mQ c := by
  unfold mQ
  rw [kepS_ne (by decide) (by decide), kepS_ne (by decide) (by decide)]
theorem kepS_OK {G : Int → Int} (h : mOK c) : mOK (kepS c G) := by
  unfold mOK
  rw [kepS_ne (by decide) (by decide), kepS_ne (by decide) (by decide)]
  exact h
theorem remS_ne {a : Nat} (h1 : a ≠ 41) (h2 : a ≠ 42) : (remS s).1 a = s.1 a := by
  unfold remS
  rw [ic_ne h1, ic_ne h2]
theorem actC_mOK (h : actC s c) (hm : mOK s) : mOK c := by
  unfold mOK
  rw [h.1 69 (by decide) (by decide) (by decide) (by decide) (by decide) (by decide) (by decide) (by decide), h.1 71 (by decide) (by decide) (by decide) (by decide) (by decide) (by decide) (by decide) (by decide)]
  exact hm
theorem hand_keep (hN : 5000 ≤ N) (hI : INV k s) (h : actC s c) : ∃ G, f217 N (iw c 63 0 0) = some (kepS c G) ∧ kepG s G := by
  have e63 := h.1 63 (by decide) (by decide) (by decide) (by decide) (by decide) (by decide) (by decide) (by decide)
  have e78 := h.1 78 (by decide) (by decide) (by decide) (by decide) (by decide) (by decide) (by decide) (by decide)
  have e1 : (iw c 63 0 0).1 63 23 = s.1 63 23 := by rw [iw_at, zup_ne (by decide), e63]
  have e2 : (iw c 63 0 0).1 78 = s.1 78 := by rw [iw_ne (by decide), e78]
  obtain ⟨u1, u2, -⟩ := hI.2.2.2.2.1
  obtain ⟨G, g1, g2, g3, g4⟩ := m_keeps (N := N) (s := iw c 63 0 0) hN (by rw [e1, u1]; exact u2)
  rw [e1, e2] at g3 g4
  rw [e2] at g2
  refine ⟨G, ?_, g2, g3, g4⟩
  rw [g1, e1]
  unfold kepS
  rw [e63]
theorem hand_fin (hI : INV k s) (hk : 0 ≤ k) (h : actC s c) {G : Int → Int} (hG : kepG s G) (hm : actM (kepS c G) m) (hv : scnV (k + 1) s m) : INV (k + 1) m := by
  have e63 := h.1 63 (by decide) (by decide) (by decide) (by decide) (by decide) (by decide) (by decide) (by decide)
  have ne : ∀ a : Nat, a ≠ 63 → a ≠ 76 → a ≠ 77 → a ≠ 78 → m.1 a = c.1 a := fun a a1 a2 a3 a4 => by rw [hm.1 a a1 a2 a3 a4, kepS_ne a1 a4]
  have k63 : ∀ i : Int, i ≠ 0 → i ≠ 23 → (kepS c G).1 63 i = s.1 63 i := fun i i0 i1 => by
    unfold kepS
    rw [iw_at, zup_ne i1, ic_ne (by decide), iw_at, zup_ne i0, e63]
  refine INV_hand hI ⟨fun a ha => ?_, ?_, ?_, ?_⟩ hG ?_ ?_ ?_ ?_ hk hv
  · rw [ne a (by omega) (by omega) (by omega) (by omega), h.1 a (by omega) (by omega) (by omega) (by omega) (by omega) (by omega) (by omega) (by omega)]
  · rw [ne 1 (by decide) (by decide) (by decide) (by decide), h.1 1 (by decide) (by decide) (by decide) (by decide) (by decide) (by decide) (by decide) (by decide)]
  · rw [hm.2.2.1, k63 2 (by decide) (by decide)]
  · rw [hm.2.1]
    show c.2 68 = s.2 68
    rw [h.2.1]
  · rw [ne 42 (by decide) (by decide) (by decide) (by decide), h.2.2.2]
  · rw [ne 41 (by decide) (by decide) (by decide) (by decide), h.2.2.1]
  · rw [hm.2.2.2.1]
    unfold kepS
    rw [iw_at, zup_same, e63]
  · intro j j0 j1
    rw [hm.2.2.2.2 j j0 j1, kepS_78]
/-- a throw that may be asked for, as the reference sees it -/
def mayM (s : gI) (p t x y : Int) : Prop := (0 ≤ p ∧ p < s.1 71 0) ∧ (0 ≤ t ∧ t < s.1 71 1) ∧ (0 ≤ x ∧ x < s.1 69 0 ∧ 0 ≤ y ∧ y < s.1 69 1) ∧ s.1 78 t = 64
theorem m_mayM (hw : mOK s) {p t x y : Int} : (mayM s p t x y → f241 N p t x y s = some (1, s)) ∧ (¬ mayM s p t x y → f241 N p t x y s = some (0, s)) := by
  have hn := hw.2.2
  unfold f241
  rw [m_isPerson, i_o2_some]
  by_cases h1 : 0 ≤ p ∧ p < s.1 71 0
  rotate_left
  · refine ⟨fun q => absurd q.1 h1, fun _ => ?_⟩
    rw [if_neg h1, if_pos rfl, ib1_ok (Or.inl rfl)]
  rw [if_pos h1, if_neg (by decide), m_isThing, i_o2_some]
  by_cases h2 : 0 ≤ t ∧ t < s.1 71 1
  rotate_left
  · refine ⟨fun q => absurd q.2.1 h2, fun _ => ?_⟩
    rw [if_neg h2, if_pos rfl, ib1_ok (Or.inl rfl)]
  rw [if_pos h2, if_neg (by decide), m_isCell, i_o2_some]
  by_cases h3 : 0 ≤ x ∧ x < s.1 69 0 ∧ 0 ≤ y ∧ y < s.1 69 1
  rotate_left
  · refine ⟨fun q => absurd q.2.2.1 h3, fun _ => ?_⟩
    rw [if_neg h3, if_pos rfl, ib1_ok (Or.inl rfl)]
  rw [if_pos h3, if_neg (by decide), ick_ok (by omega) (by omega), if01]
  by_cases h4 : s.1 78 t = 64
  · refine ⟨fun _ => by rw [if_pos h4], fun q => absurd ⟨h1, h2, h3, h4⟩ q⟩
  · refine ⟨fun q => absurd q.2.2.2 h4, fun _ => by rw [if_neg h4]⟩
theorem mayM_P (hI : INV k s) (e69 : u.1 69 = s.1 69) (e71 : u.1 71 = s.1 71) (e78 : u.1 78 = s.1 78) {p t x y : Int} : mayM u p t x y ↔ mayP s p t x y := by
  obtain ⟨e0, e1, e2, e3, e4⟩ := INV_eq hI
  have hn := hI.1.1.1.2.2.1
  unfold mayM mayP
  rw [e69, e71, e78, e0, e1, e2, e3]
  constructor
  · rintro ⟨a, b, c, d⟩
    exact ⟨a, b, c, by rw [← e4 t b.1 (by omega)]; exact d⟩
  · rintro ⟨a, b, c, d⟩
    exact ⟨a, b, c, by rw [e4 t b.1 (by omega)]; exact d⟩
theorem q_toss (hN : 5000 ≤ N) (hI : INV k s) (hk : 0 ≤ k) {p t x y z : Int} : OKc k s (f140 N p t x y z) (f242 N p t x y z) := by
  have hw := hI.1.1.1
  have hp4 := hI.1.2.2.2.2.2.1
  have i2 := hI.2.1
  have em : mayM (iw s 63 0 0) p t x y ↔ mayP s p t x y := mayM_P hI (iw_ne (by decide)) (iw_ne (by decide)) (iw_ne (by decide))
  have hm := m_mayM (N := N) (s := iw s 63 0 0) (INV_thrown (x := 0) hI).1.2.1 (p := p) (t := t) (x := x) (y := y)
  rw [em] at hm
  rcases c_canThrow (N := N) (s := s) hw (p := p) (t := t) (x := x) (y := y) with ⟨h, hc⟩ | ⟨h, hc⟩
  rotate_left
  · refine OKc.q hI (x := -1) (s1 := s) (s2 := iw s 63 0 0) ?_ ?_ sameQ_thrown
    · unfold f140
      rw [hc, i_o2_some, if_pos rfl]
    · unfold f242
      dsimp only
      rw [hm.2 h, i_o2_some, if_pos rfl]
  by_cases hz : 0 ≤ z ∧ z ≤ 8
  rotate_left
  · refine OKc.q hI (x := -1) (s1 := s) (s2 := iw s 63 0 0) ?_ ?_ sameQ_thrown
    · unfold f140
      rw [hc, i_o2_some, if_neg (by decide)]
      by_cases g : z < 0
      · rw [if_pos g]
      · rw [if_neg g, if_neg (by omega)]
    · unfold f242
      dsimp only
      rw [hm.1 h, i_o2_some, if_neg (by decide), m_within, i_o2_some, if_neg hz, if_pos rfl]
  obtain ⟨⟨p0, p1⟩, ⟨t0, t1⟩, ⟨x0, x1, y0, y1⟩, h64⟩ := id h
  obtain ⟨T, rfl⟩ := Int.eq_ofNat_of_zero_le t0
  obtain ⟨⟨hW0, hW⟩, ⟨hD0, hD⟩, ⟨hn0, hn⟩, -⟩ := id hw
  obtain ⟨u1, u2, u3, -⟩ := hI.2.2.2.2.1
  have rx := sX_rg hz.1 hz.2
  have ry := sY_rg hz.1 hz.2
  have hT : T < (cQ s).2.2.2.1 := by
    show T < (s.1 15 3).toNat
    omega
  -- the class
  have ne4 : ∀ a : Nat, a ≠ 8 → a ≠ 41 → a ≠ 42 → (iw (remS s) 8 T p).1 a = s.1 a := fun a a1 a2 a3 => by rw [iw_ne a1, remS_ne a2 a3]
  have eQ4 : cQ (iw (remS s) 8 T p) = cQ s := by
    unfold cQ
    rw [ne4 12 (by decide) (by decide) (by decide), ne4 13 (by decide) (by decide) (by decide), ne4 15 (by decide) (by decide) (by decide), ne4 18 (by decide) (by decide) (by decide)]
  have e47 := ne4 7 (by decide) (by decide) (by decide)
  have hw4 : cOK (iw (remS s) 8 T p) := by
    unfold cOK
    rw [ne4 12 (by decide) (by decide) (by decide), ne4 13 (by decide) (by decide) (by decide), ne4 15 (by decide) (by decide) (by decide)]
    exact hw
  have sc4 : scOK (iw (remS s) 8 T p) := by
    unfold scOK
    rw [ne4 9 (by decide) (by decide) (by decide), e47, ne4 15 (by decide) (by decide) (by decide)]
    exact hI.1.1.2.1
  have l1 := c_land (N := N) (s := iw (remS s) 8 T p) (p := s.1 7) (m := T) (x := x + sX z) (y := y + sY z) hN hw4 (by rw [eQ4]; exact hI.1.1.2.2.1) (by rw [eQ4]; exact hT) h64 (by omega) (by omega)
  rw [← e47, cst_self sc4, e47, eQ4] at l1
  have TV := VV_thrown hw.1.2 hw.2.1.2 hT hI.1.1.2.2.1 (x + sX z) (y + sY z)
  have Tout : ∀ j, (j < 0 ∨ 8 ≤ j) → thrown (cQ s) (s.1 7) T (x + sX z) (y + sY z) j = s.1 7 j := fun j hj => thrown_out (cW_n hw) (by omega) hj
  have Tn : ∀ j : Int, s.1 15 3 ≤ j → j < 8 → thrown (cQ s) (s.1 7) T (x + sX z) (y + sY z) j = 64 := fun j j0 j1 => by
    rw [thrown_ne (by omega) (fun hh => ?_)]
    · exact i2.2.2.2.2.2.1 j j0 j1
    · have := hit_at hh
      have e : (cQ s).2.2.2.1 = (s.1 15 3).toNat := rfl
      omega
  have hact : actC s (cst (iw (remS s) 8 T p) (thrown (cQ s) (s.1 7) T (x + sX z) (y + sY z))) := by
    refine ⟨fun a a6 a7 a8 a9 a41 a42 _ _ => ?_, rfl, ?_, ?_⟩
    · rw [cst_ne a7 a9, ne4 a a8 a41 a42]
    · rw [cst_ne (by decide) (by decide), iw_ne (by decide)]
    · rw [cst_ne (by decide) (by decide), iw_ne (by decide)]
  obtain ⟨G, hG1, hG2⟩ := hand_keep hN hI hact
  have c8 : ∀ a : Nat, a ≠ 7 → a ≠ 9 → a ≠ 8 → a ≠ 41 → a ≠ 42 → (cst (iw (remS s) 8 T p) (thrown (cQ s) (s.1 7) T (x + sX z) (y + sY z))).1 a = s.1 a := fun a a7 a9 a8 a1 a2 => by rw [cst_ne a7 a9, ne4 a a8 a1 a2]
  have c7 : (cst (iw (remS s) 8 T p) (thrown (cQ s) (s.1 7) T (x + sX z) (y + sY z))).1 7 = thrown (cQ s) (s.1 7) T (x + sX z) (y + sY z) := cst_7
  have c88 : (cst (iw (remS s) 8 T p) (thrown (cQ s) (s.1 7) T (x + sX z) (y + sY z))).1 8 = zup (s.1 8) T p := by rw [cst_ne (by decide) (by decide), iw_at, remS_ne (by decide) (by decide)]
  have csc : scOK (cst (iw (remS s) 8 T p) (thrown (cQ s) (s.1 7) T (x + sX z) (y + sY z))) := cst_sc
  have cfin : f140 N p T x y z s = some (tol (thrown (cQ s) (s.1 7) T (x + sX z) (y + sY z) T), cst (iw (remS s) 8 T p) (thrown (cQ s) (s.1 7) T (x + sX z) (y + sY z))) := by
    unfold f140
    rw [hc, i_o2_some, if_neg (by decide), if_neg (by omega), if_pos (by omega), c_remember u3 u2, i_o1_some, ick_ok (by omega) (by omega)]
    simp (disch := omega) only [ick_ok, iov_ok, iol_ok, idv_ok, ich_ok, icp_ok, i_o2_some, i_o1_some, i_slipX, i_slipY]
    rw [l1, i_o2_some, c7, c_told, i_o2_some]
  generalize cst (iw (remS s) 8 T p) (thrown (cQ s) (s.1 7) T (x + sX z) (y + sY z)) = c at hact hG1 c8 c7 c88 csc cfin
  -- the reference
  have hmo := actC_mOK hact hI.1.2.1
  have e69 := c8 69 (by decide) (by decide) (by decide) (by decide) (by decide)
  have e71 := c8 71 (by decide) (by decide) (by decide) (by decide) (by decide)
  have e78 := c8 78 (by decide) (by decide) (by decide) (by decide) (by decide)
  have em2 : mayM (iw c 63 0 0) p T x y ↔ mayP s p T x y := mayM_P hI (by rw [iw_ne (by decide), e69]) (by rw [iw_ne (by decide), e71]) (by rw [iw_ne (by decide), e78])
  have hm2 := m_mayM (N := N) (s := iw c 63 0 0) (p := p) (t := T) (x := x) (y := y) (by unfold mOK; rw [iw_ne (by decide), iw_ne (by decide)]; exact hmo)
  rw [em2] at hm2
  have l2 := m_throwsAt (N := N) (s := kepS c G) (b := 0) (per := p) (t := T) (x := x) (y := y) (z := z) hN (kepS_OK hmo) (by decide) (by decide) (by omega) (by omega) (by omega) (by omega) hz.1 hz.2
  have eqm : mQ (kepS c G) = mQ s := by
    rw [kepS_Q]
    unfold mQ
    rw [e69, e71]
  rw [eqm, kepS_78] at l2
  have hn8 : (mQ s).2.2.2.1 ≤ 8 := by rw [RS_n hI.1]; exact cW_n hw
  have g8 : eq8 (zup (sh 0 G) (8 + T) p) (s.1 7) := fun j j0 j1 => by
    rw [zup_ne (by omega), sh_at, Int.zero_add, hG2.1 j (by omega)]
    exact (INV_eq hI).2.2.2.2 j j0 j1
  have hE : eq8 (thrown (mQ s) (zup (sh 0 G) (8 + T) p) T (x + sX z) (y + sY z)) (thrown (cQ s) (s.1 7) T (x + sX z) (y + sY z)) := by
    rw [thrown_eqQ hI.1.2.2.1 hw.1.2 hw.2.1.2 hT hI.1.1.2.2.1]
    exact thrown_congr hn8 g8 (by omega) (by omega) _ _
  have hout : ∀ j, 8 ≤ j → thrown (mQ s) (zup (sh 0 G) (8 + T) p) T (x + sX z) (y + sY z) j = zup (sh 0 G) (8 + T) p j := fun j hj => thrown_out hn8 (by omega) (Or.inr hj)
  generalize thrown (mQ s) (zup (sh 0 G) (8 + T) p) T (x + sX z) (y + sY z) = M at l2 hE hout
  have m78 : ∀ j, (pst (kepS c G) 0 M).1 78 j = M j := fun j => by
    rw [pst_78]
    unfold unsh
    congr 1; omega
  have mne : ∀ a : Nat, a ≠ 63 → a ≠ 78 → (pst (kepS c G) 0 M).1 a = c.1 a := fun a a1 a2 => by
    unfold pst
    rw [ic_ne a2, kepS_ne a1 a2]
  refine ⟨tol (thrown (cQ s) (s.1 7) T (x + sX z) (y + sY z) T), c, pst (kepS c G) 0 M, cfin, ?_, ?_⟩
  · unfold f242
    dsimp only
    rw [hm2.1 h, i_o2_some, if_neg (by decide), m_within, i_o2_some, if_pos hz, if_neg (by decide), hG1, i_o1_some, l2, i_o1_some, ick_ok (by omega) (by omega), m78, m_told, i_o2_some, hE T (by omega) (by omega)]
  · refine hand_fin hI hk hact hG2 (m := pst (kepS c G) 0 M) ⟨fun a a1 _ _ a2 => ?_, rfl, ?_, ?_, ?_⟩ ?_
    · unfold pst
      rw [ic_ne a2]
    · unfold pst
      rw [ic_ne (by decide)]
    · unfold pst
      rw [ic_ne (by decide)]
    · intro j j0 j1
      rw [m78, hout j (by omega), zup_ne (by omega), sh_at, Int.zero_add, kepS_78]
    · refine ⟨?_, ?_, ?_, ?_, ?_, ?_, ?_, ?_, ?_⟩
      · rw [mne 7 (by decide) (by decide), c7]; exact TV
      · unfold scOK at csc ⊢
        rw [mne 9 (by decide) (by decide), mne 7 (by decide) (by decide), mne 15 (by decide) (by decide)]
        exact csc
      · intro j j0 j1
        rw [m78, mne 7 (by decide) (by decide), c7]
        exact hE j j0 j1
      · intro j j0 j1
        rw [m78, hout _ (by omega), mne 8 (by decide) (by decide), c88]
        by_cases hj : j = T
        · subst hj; rw [zup_same, zup_same]
        · rw [zup_ne (by omega), zup_ne hj, sh_at, Int.zero_add, hG2.1 _ (by omega)]
          exact i2.1 j j0 j1
      · rw [m78, hout _ (by decide), zup_ne (by omega), sh_at, Int.zero_add, hG2.1 _ (by decide), mne 6 (by decide) (by decide), c8 6 (by decide) (by decide) (by decide) (by decide) (by decide)]
        exact i2.2.1
      · rw [m78, hout _ (by decide), zup_ne (by omega), sh_at, Int.zero_add, hG2.1 _ (by decide), mne 6 (by decide) (by decide), c8 6 (by decide) (by decide) (by decide) (by decide) (by decide)]
        exact i2.2.2.1
      · intro j j0 j1
        rw [mne 7 (by decide) (by decide), c7]
        exact Tn j j0 j1
      · rw [mne 6 (by decide) (by decide), c8 6 (by decide) (by decide) (by decide) (by decide) (by decide)]
        have := i2.2.2.2.2.2.2.1
        omega
      · rw [mne 6 (by decide) (by decide), c8 6 (by decide) (by decide) (by decide) (by decide) (by decide)]
        have := i2.2.2.2.2.2.2.2
        omega
end TOSS

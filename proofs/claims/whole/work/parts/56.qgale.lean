/-! Promise 11: gale answered alike; and how an action by hand ends. -/
section QGALE
variable {N : Nat} {s u c m : gI} {k : Int} {p : Int → Int} {w : Int}
theorem hand_pst (hI : INV k s) (hk : 0 ≤ k) (h : actC s c) {G M P : Int → Int} (hG : kepG s G) (h7 : c.1 7 = P) (hV : VV (cQ s) P) (hsc : scOK c) (hP : ∀ j, s.1 15 3 ≤ j → j < 8 → P j = 64)
    (hM : eq8 M P) (hM8 : ∀ j, 0 ≤ j → j < 8 → M (8 + j) = c.1 8 j) (hM4 : M 16 = c.1 6 4) (hM5 : M 17 = c.1 6 5) (hMo : ∀ j, 18 ≤ j → M j = G j) (h4 : 0 ≤ c.1 6 4 ∧ c.1 6 4 ≤ 100 * (k + 1)) (h5 : 0 ≤ c.1 6 5 ∧ c.1 6 5 ≤ 19800 * (k + 1)) :
    INV (k + 1) (pst (kepS c G) 0 M) := by
  have m78 : ∀ j, (pst (kepS c G) 0 M).1 78 j = M j := fun j => by
    rw [pst_78]
    unfold unsh
    congr 1; omega
  have mne : ∀ a : Nat, a ≠ 63 → a ≠ 78 → (pst (kepS c G) 0 M).1 a = c.1 a := fun a a1 a2 => by
    unfold pst
    rw [ic_ne a2, kepS_ne a1 a2]
  refine hand_fin hI hk h hG (m := pst (kepS c G) 0 M) ⟨fun a a1 _ _ a2 => ?_, rfl, ?_, ?_, ?_⟩ ?_
  · unfold pst
    rw [ic_ne a2]
  · unfold pst
    rw [ic_ne (by decide)]
  · unfold pst
    rw [ic_ne (by decide)]
  · intro j j0 j1
    rw [m78, hMo j j0, kepS_78]
  · refine ⟨?_, ?_, ?_, ?_, ?_, ?_, ?_, ?_, ?_⟩
    · rw [mne 7 (by decide) (by decide), h7]; exact hV
    · unfold scOK at hsc ⊢
      rw [mne 9 (by decide) (by decide), mne 7 (by decide) (by decide), mne 15 (by decide) (by decide)]
      exact hsc
    · intro j j0 j1
      rw [m78, mne 7 (by decide) (by decide), h7]
      exact hM j j0 j1
    · intro j j0 j1
      rw [m78, mne 8 (by decide) (by decide)]
      exact hM8 j j0 j1
    · rw [m78, mne 6 (by decide) (by decide)]; exact hM4
    · rw [m78, mne 6 (by decide) (by decide)]; exact hM5
    · intro j j0 j1
      rw [mne 7 (by decide) (by decide), h7]
      exact hP j j0 j1
    · rw [mne 6 (by decide) (by decide)]; exact h4
    · rw [mne 6 (by decide) (by decide)]; exact h5
theorem remS_Q : cQ (remS s) = cQ s := by
  unfold cQ
  rw [remS_ne (by decide) (by decide), remS_ne (by decide) (by decide), remS_ne (by decide) (by decide), remS_ne (by decide) (by decide)]
theorem remS_OK (h : cOK s) : cOK (remS s) := by
  unfold cOK
  rw [remS_ne (by decide) (by decide), remS_ne (by decide) (by decide), remS_ne (by decide) (by decide)]
  exact h
theorem remS_sc (h : scOK s) : scOK (remS s) := by
  unfold scOK
  rw [remS_ne (by decide) (by decide), remS_ne (by decide) (by decide), remS_ne (by decide) (by decide)]
  exact h
theorem remS_cst (h : scOK s) : cst (remS s) (s.1 7) = remS s := by
  have := cst_self (remS_sc h)
  rwa [remS_ne (by decide) (by decide)] at this
theorem act_cst : actC s (cst (remS s) p) := by
  refine ⟨fun a a6 a7 a8 a9 a41 a42 _ _ => ?_, rfl, ?_, ?_⟩
  · rw [cst_ne a7 a9, remS_ne a41 a42]
  · rw [cst_ne (by decide) (by decide)]
  · rw [cst_ne (by decide) (by decide)]
/-- what the reference has before it acts by hand -/
theorem kep_pst {G : Int → Int} : pst (kepS c G) 0 (sh 0 G) = kepS c G := by
  have := pst_self (s := kepS c G) (b := 0)
  rwa [kepS_78] at this
theorem kep_eq8 (hI : INV k s) {G : Int → Int} (hG : kepG s G) : eq8 (s.1 7) (sh 0 G) := fun j j0 j1 => by
  rw [sh_at, Int.zero_add, hG.1 j (by omega)]
  exact ((INV_eq hI).2.2.2.2 j j0 j1).symm
theorem kep_mQ (hI : INV k s) (h : actC s c) {G : Int → Int} : mQ (kepS c G) = mQ s := by
  rw [kepS_Q]
  unfold mQ
  rw [h.1 69 (by decide) (by decide) (by decide) (by decide) (by decide) (by decide) (by decide) (by decide), h.1 71 (by decide) (by decide) (by decide) (by decide) (by decide) (by decide) (by decide) (by decide)]
theorem q_gale (hN : 5000 ≤ N) (hI : INV k s) (hk : 0 ≤ k) {w : Int} : OKc k s (f143 N w) (f252 N w) := by
  by_cases hz : 0 ≤ w ∧ w ≤ 3
  rotate_left
  · refine OKc.q hI (x := -1) (s1 := s) (s2 := iw s 63 0 0) ?_ ?_ sameQ_thrown
    · unfold f143
      by_cases g : w < 0
      · rw [if_pos g]
      · rw [if_neg g, if_neg (by omega)]
    · unfold f252
      dsimp only
      rw [m_within, i_o2_some, if_neg hz, if_pos rfl]
  have hw := hI.1.1.1
  have sc := hI.1.1.2.1
  have hV := hI.1.1.2.2.1
  have i2 := hI.2.1
  have hn := cW_n hw
  have en : (cQ s).2.2.2.1 = (s.1 15 3).toNat := rfl
  obtain ⟨u1, u2, u3, -⟩ := hI.2.2.2.2.1
  have l1 := c_gust (N := N) (s := remS s) (p := s.1 7) hN (remS_OK hw) hz.1 hz.2 (by rw [remS_Q]; exact hV)
  rw [remS_cst sc, remS_Q] at l1
  have cfin : f143 N w s = some (gustN (cQ s) w (cQ s).2.2.2.1 0 (s.1 7), cst (remS s) (gust (cQ s) w (cQ s).2.2.2.1 0 (s.1 7))) := by
    unfold f143
    rw [if_neg (by omega), if_pos (by omega), c_remember u3 u2, i_o1_some, l1, i_o2_some]
  have hact : actC s (cst (remS s) (gust (cQ s) w (cQ s).2.2.2.1 0 (s.1 7))) := act_cst
  obtain ⟨G, hG1, hG2⟩ := hand_keep hN hI hact
  have hE := hI.1.2.2.1
  have e8 := kep_eq8 hI hG2
  have hVm : VV (mQ s) (sh 0 G) := VV_eq hE e8 hn hV
  have hmo := actC_mOK hact hI.1.2.1
  have hkd : ∀ t : Nat, t < (mQ s).2.2.2.1 → 0 ≤ (mQ s).2.2.2.2 t ∧ (mQ s).2.2.2.2 t ≤ 3 := fun t ht => by
    rw [← hE.2.2.1] at ht
    rw [← hE.2.2.2.2 t ht]
    exact hI.2.2.1.1 t (by omega) (by omega)
  have eqm := kep_mQ hI hact (G := G)
  have l2 := m_gust (N := N) (u := kepS (cst (remS s) (gust (cQ s) w (cQ s).2.2.2.1 0 (s.1 7))) G) (p := sh 0 G) (w := w) hN (kepS_OK hmo) (fun t ht => by
    rw [eqm] at ht
    have := hkd t ht
    rw [← eqm] at this
    exact this) (by decide : (0 : Int) ≤ 0) (by decide) hz.1 hz.2 (by rw [eqm]; exact hVm)
  rw [kep_pst, eqm] at l2
  have ge := gust_eq (w := w) hE hw.1.2 hw.2.1.2 hn (cQ s).2.2.2.1 0 (s.1 7) (sh 0 G) (by omega) hV e8
  rw [← hE.2.2.1] at l2
  have z : ((0 : Nat) : Int) = 0 := rfl
  rw [z] at ge
  have mfin : f252 N w (cst (remS s) (gust (cQ s) w (cQ s).2.2.2.1 0 (s.1 7))) = some (gustN (cQ s) w (cQ s).2.2.2.1 0 (s.1 7), pst (kepS (cst (remS s) (gust (cQ s) w (cQ s).2.2.2.1 0 (s.1 7))) G) 0 (gust (mQ s) w (cQ s).2.2.2.1 0 (sh 0 G))) := by
    unfold f252
    dsimp only
    rw [m_within, i_o2_some, if_pos hz, if_neg (by decide), hG1, i_o1_some, l2, i_o2_some, ge.2]
  refine ⟨_, _, _, cfin, mfin, ?_⟩
  · have out : ∀ j : Int, 8 ≤ j → gust (mQ s) w (cQ s).2.2.2.1 0 (sh 0 G) j = G j := fun j hj => by
      rw [gust_ne _ _ _ (Or.inr (by omega)), sh_at, Int.zero_add]
    have c8 : (cst (remS s) (gust (cQ s) w (cQ s).2.2.2.1 0 (s.1 7))).1 8 = s.1 8 := by rw [cst_ne (by decide) (by decide), remS_ne (by decide) (by decide)]
    have c6 : (cst (remS s) (gust (cQ s) w (cQ s).2.2.2.1 0 (s.1 7))).1 6 = s.1 6 := by rw [cst_ne (by decide) (by decide), remS_ne (by decide) (by decide)]
    have := i2.2.2.2.2.2.2.1
    have := i2.2.2.2.2.2.2.2
    have hn0 := hw.2.2.1
    refine hand_pst hI hk hact hG2 cst_7 (VV_gust hw.1.2 hw.2.1.2 _ 0 _ (by omega) hV) cst_sc (fun j j0 j1 => ?_) ge.1.sy (fun j j0 j1 => ?_) ?_ ?_ (fun j j0 => out j (by omega)) (by rw [c6]; omega) (by rw [c6]; omega)
    · rw [gust_ne _ _ _ (Or.inr (by omega))]
      exact i2.2.2.2.2.2.1 j j0 j1
    · rw [out _ (by omega), hG2.1 _ (by omega), c8]
      exact i2.1 j j0 j1
    · rw [out _ (by decide), hG2.1 _ (by decide), c6]
      exact i2.2.1
    · rw [out _ (by decide), hG2.1 _ (by decide), c6]
      exact i2.2.2.1
end QGALE

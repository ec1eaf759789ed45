/-! Promise 9: the hose answered alike. -/
section QHOSE
variable {N : Nat} {s u c m : gI} {k : Int} {p q : Int → Int} {Q : Cf}
theorem sameQ_63 {i z : Int} (h2 : i ≠ 2) (h23 : i ≠ 23) : sameQ s (iw s 63 i z) :=
  ⟨fun a ha => iw_ne (by omega), by rw [iw_ne (by decide)], by rw [iw_at, zup_ne (fun h => h2 h.symm)], by rw [iw_at, zup_ne (fun h => h23 h.symm)], fun j _ => by rw [iw_ne (by decide)], rfl⟩
theorem pst_63' {b F : Int} : iw (pst u b p) 63 25 F = pst (iw u 63 25 F) b p := by
  have := pst_63 (u := u) (M := u.1 63 25) (b := b) (p := p) (F := F)
  have e : iw u 63 25 (u.1 63 25) = u := by
    refine gI_ext (fun c => ?_) rfl
    by_cases h : c = 63
    · subst h; rw [iw_at]; exact zup_eq rfl
    · rw [iw_ne h]
  rwa [e] at this
theorem q_hose (hN : 5000 ≤ N) (hI : INV k s) (hk : 0 ≤ k) {row : Int} : OKc k s (f141 N row) (f249 N row) := by
  obtain ⟨e0, e1, e2, e3, e4⟩ := INV_eq hI
  by_cases hz : 0 ≤ row ∧ row < s.1 12 1
  rotate_left
  · refine OKc.q hI (x := -1) (s1 := s) (s2 := iw s 63 0 0) ?_ ?_ sameQ_thrown
    · unfold f141
      rw [c_isRow, i_o2_some, if_neg hz, if_pos rfl]
    · unfold f249
      dsimp only
      rw [m_isRow, i_o2_some, iw63 (by decide), e1, if_neg hz, if_pos rfl]
  have hw := hI.1.1.1
  have sc := hI.1.1.2.1
  have hV := hI.1.1.2.2.1
  have i2 := hI.2.1
  have hn := cW_n hw
  have hn0 := hw.2.2.1
  obtain ⟨⟨hW0, hW⟩, ⟨hD0, hD⟩, -, -⟩ := id hw
  have en : (cQ s).2.2.2.1 = (s.1 15 3).toNat := rfl
  have eW : (cQ s).1 = s.1 12 0 := rfl
  obtain ⟨u1, u2, u3, -⟩ := hI.2.2.2.2.1
  have l1 := c_washRow (N := N) (s := remS s) (row := row) (p := s.1 7) hN (remS_OK hw) (by rw [remS_ne (by decide) (by decide)]; exact hz) (by rw [remS_Q]; exact hV)
  rw [remS_cst sc, remS_Q] at l1
  have cfin : f141 N row s = some (wAN (cQ s) row 7 1 (s.1 7), cst (remS s) (wA (cQ s) row 7 1 (s.1 7))) := by
    unfold f141
    rw [c_isRow, i_o2_some, if_pos hz, if_neg (by decide), c_remember u3 u2, i_o1_some, l1, i_o2_some]
  have hact : actC s (cst (remS s) (wA (cQ s) row 7 1 (s.1 7))) := act_cst
  obtain ⟨G, hG1, hG2⟩ := hand_keep hN hI hact
  have hE := hI.1.2.2.1
  have e8 := kep_eq8 hI hG2
  have hVm : VV (mQ s) (sh 0 G) := VV_eq hE e8 hn hV
  have hmo := actC_mOK hact hI.1.2.1
  have eqm := kep_mQ hI hact (G := G)
  have k69 : (kepS (cst (remS s) (wA (cQ s) row 7 1 (s.1 7))) G).1 69 1 = s.1 12 1 := by
    rw [kepS_ne (by decide) (by decide), cst_ne (by decide) (by decide), remS_ne (by decide) (by decide), e1]
  obtain ⟨M2, l2⟩ := m_washRow (N := N) (u := kepS (cst (remS s) (wA (cQ s) row 7 1 (s.1 7))) G) (b := 0) (row := row) (p := sh 0 G) hN (kepS_OK hmo) (by decide) (by decide) (by rw [k69]; exact hz) (by rw [eqm]; exact hVm)
  rw [kep_pst, eqm] at l2
  have ge := wA_eq (row := row) hE hn (by omega) hW hD hz 7 1 (s.1 7) (sh 0 G) e8
  have e11 : (iw (cst (remS s) (wA (cQ s) row 7 1 (s.1 7))) 63 0 0).1 69 1 = s.1 12 1 := by
    rw [iw_ne (by decide), cst_ne (by decide) (by decide), remS_ne (by decide) (by decide), e1]
  have mfin : f249 N row (cst (remS s) (wA (cQ s) row 7 1 (s.1 7))) = some (wAN (cQ s) row 7 1 (s.1 7), pst (iw (kepS (cst (remS s) (wA (cQ s) row 7 1 (s.1 7))) G) 63 25 M2) 0 (wA (mQ s) row 7 1 (sh 0 G))) := by
    unfold f249
    dsimp only
    rw [m_isRow, i_o2_some, e11, if_pos hz, if_neg (by decide), hG1, i_o1_some, l2, i_o2_some, ge.2]
  refine ⟨_, _, _, cfin, mfin, ?_⟩
  rw [← pst_63']
  refine sameQ_inv (sameQ_63 (by decide) (by decide)) ?_
  have out : ∀ j : Int, 8 ≤ j → wA (mQ s) row 7 1 (sh 0 G) j = G j := fun j hj => by
    rw [wA_ne (Or.inr (by rw [← hE.2.2.1]; omega)), sh_at, Int.zero_add]
  have c8 : (cst (remS s) (wA (cQ s) row 7 1 (s.1 7))).1 8 = s.1 8 := by rw [cst_ne (by decide) (by decide), remS_ne (by decide) (by decide)]
  have c6 : (cst (remS s) (wA (cQ s) row 7 1 (s.1 7))).1 6 = s.1 6 := by rw [cst_ne (by decide) (by decide), remS_ne (by decide) (by decide)]
  have := i2.2.2.2.2.2.2.1
  have := i2.2.2.2.2.2.2.2
  refine hand_pst hI hk hact hG2 cst_7 (VV_wA (by omega) hW hD hz 7 1 _ hV) cst_sc (fun j j0 j1 => ?_) ge.1.sy (fun j j0 j1 => ?_) ?_ ?_ (fun j j0 => out j (by omega)) (by rw [c6]; omega) (by rw [c6]; omega)
  · rw [wA_ne (Or.inr (by omega))]
    exact i2.2.2.2.2.2.1 j j0 j1
  · rw [out _ (by omega), hG2.1 _ (by omega), c8]
    exact i2.1 j j0 j1
  · rw [out _ (by decide), hG2.1 _ (by decide), c6]
    exact i2.2.1
  · rw [out _ (by decide), hG2.1 _ (by decide), c6]
    exact i2.2.2.1
end QHOSE

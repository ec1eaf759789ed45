/-! Where the reference answers gain, next and await, wherever it is asked that tells the same: the class's answer, and its mark of a throw is 0. (Cut from their own proofs by a program of mine.) -/
section ZMARK
variable {N : Nat} {s u v : gI} {k p t x y a : Int}
def yl_OK1 (s : gI) (fc fm : gI → Option (Int × gI)) : Prop := ∃ v s1, fc s = some (v, s1) ∧ sameQ s s1 ∧ ∀ w, sameQ s w → ∃ s2, fm w = some (v, s2) ∧ sameQ s s2 ∧ s2.1 63 0 = 0 ∧ s2.2 = w.2
noncomputable def yl_gn (s : gI) (p t c : Int) : Int := meanV (cQ s) (s.1 7) t.toNat c (s.1 16 p) (s.1 20) - 80 * wIn (s.1 7) (s.1 20) (cQ s).2.2.2.1
theorem yl_gnQ {w : gI} {c : Int} (h : sameQ s w) : yl_gn w p t c = yl_gn s p t c := by
  unfold yl_gn
  rw [sameQ_cQ h, h.1 7 (by omega), h.1 16 (by omega), h.1 20 (by omega)]
theorem y_gainM (hN : 5000 ≤ N) (hI : INV k s) (h : mayP s p t x y) : ∃ v, f266 N p t x y s = some (yl_gn s p t (8 * y + x), v) ∧ sameQ s v ∧ v.1 63 0 = 0 ∧ v.2 = s.2 := by
  have hI1 := INV_thrown (x := 0) hI
  have hw := hI.1.1.1
  have hp4 := hI.1.2.2.2.2.2.1
  have e4 := (INV_eq hI).2.2.2.2
  have hm := m_mayThrow (N := N) hI (p := p) (t := t) (x := x) (y := y)
  obtain ⟨⟨p0, p1⟩, ⟨t0, t1⟩, ⟨x0, x1, y0, y1⟩, h64⟩ := id h
  obtain ⟨P, rfl⟩ := Int.eq_ofNat_of_zero_le p0
  obtain ⟨T, rfl⟩ := Int.eq_ofNat_of_zero_le t0
  obtain ⟨⟨hW0, hW⟩, ⟨hD0, hD⟩, ⟨hn0, hn⟩, -⟩ := id hw
  have hT : T < (cQ s).2.2.2.1 := by
    show T < (s.1 15 3).toNat
    omega
  have ar := hI.1.1.2.2.2.1 P (by omega) (by omega)
  have e1 : cQ (iw s 63 0 0) = cQ s := sameQ_cQ sameQ_thrown
  have h8 : eq8 (sh 0 ((iw s 63 0 0).1 78)) (s.1 7) := fun j j0 j1 => by rw [sh_at, Int.zero_add, iw63 (by decide)]; exact e4 j j0 j1
  obtain ⟨v, m1, m2⟩ := m_meanOf (N := N) (s := iw s 63 0 0) (u := iw s 63 0 0) (p := s.1 7) (a := 0) (b := 588) (per := P) (m := T) (cell := 8 * y + x) hN hI1.1.ry (by rw [e1]; exact hI.1.1.2.2.1) h8 (by decide) (by decide) (by decide) (by decide) (Or.inl (by decide)) (by rw [iw63 (by decide)]; omega) (by rw [e1]; exact hT) (by omega) (by omega) trl.rf
  have h8v : eq8 (sh 0 (v.1 78)) (s.1 7) := fun j j0 j1 => by rw [sh_at, Int.zero_add, m2.at (by omega), iw63 (by decide)]; exact e4 j j0 j1
  have m3 := m_worthR (N := N) (s := iw s 63 0 0) (u := v) (T := s.1 7) (b := 0) hN hI1.1.ry (by decide) (by decide) (fun a ha => m2.ne ha) h8v
  rw [e1, iw63 (by decide)] at m3
  rw [e1, iw63 (by decide), iw63 (by decide)] at m1
  have rg := meanV_rg (p := s.1 7) (m := T) (cell := 8 * y + x) hI.1.ry ar.1 ar.2
  have rw1 := wIn_rg (p := s.1 7) (wo := s.1 20) (n := (cQ s).2.2.2.1) (cW_n hw) hI.1.1.2.2.2.2
  refine ⟨v, ?_, sameQ_thrown.tr (sameQ_trl (by decide) m2), ?_, m2.l2⟩
  rotate_left
  · rw [m2.ne (by decide), iw_at, zup_same]
  show f266 N P T x y s = some (meanV (cQ s) (s.1 7) T (8 * y + x) (s.1 16 P) (s.1 20) - 80 * wIn (s.1 7) (s.1 20) (cQ s).2.2.2.1, v)
  unfold f266
  rw [hm.1 h, i_o2_some, if_neg (by decide)]
  unfold f266_at18
  dsimp only
  rw [iw_at, zup_same, if_pos (by decide), iov_ok (by omega) (by omega), iov_ok (by omega) (by omega), m1, i_o2_some, m3, i_o2_some, iov_ok (by omega) (by omega), iov_ok (by omega) (by omega)]
theorem y_gain (hN : 5000 ≤ N) (hI : INV k s) (h : mayP s p t x y) : yl_OK1 s (f149 N p t x y) (f266 N p t x y) := by
  refine ⟨yl_gn s p t (8 * y + x), s, ?_, sameQ.rf, fun w hq => ?_⟩
  · obtain ⟨⟨p0, p1⟩, ⟨t0, t1⟩, ⟨x0, x1, y0, y1⟩, h64⟩ := id h
    obtain ⟨P, rfl⟩ := Int.eq_ofNat_of_zero_le p0
    obtain ⟨T, rfl⟩ := Int.eq_ofNat_of_zero_le t0
    have hw := hI.1.1.1
    obtain ⟨⟨hW0, hW⟩, ⟨hD0, hD⟩, ⟨hn0, hn⟩, -⟩ := id hI.1.1.1
    have hp4 := hI.1.2.2.2.2.2.1
    have hT : T < (cQ s).2.2.2.1 := by
      show T < (s.1 15 3).toNat
      omega
    have c1 := c_gainOf (N := N) (per := P) (m := T) (cell := 8 * y + x) hN hI.1.1 (by omega) hT h64 (by omega) (by omega)
    have mg := mean_gain (cell := 8 * y + x) (arm := s.1 16 P) hI.1.1 hT h64
    rw [← mg] at c1
    rcases c_canThrow (N := N) (s := s) hw (p := (P : Int)) (t := (T : Int)) (x := x) (y := y) with ⟨_, hc⟩ | ⟨g, -⟩
    rotate_left
    · exact absurd h g
    show f149 N P T x y s = some (meanV (cQ s) (s.1 7) T (8 * y + x) (s.1 16 P) (s.1 20) - 80 * wIn (s.1 7) (s.1 20) (cQ s).2.2.2.1, s)
    unfold f149
    rw [hc, i_o2_some, if_neg (by decide), iov_ok (by omega) (by omega), iov_ok (by omega) (by omega), show y * 8 + x = 8 * y + x by omega, c1, i_o2_some]
  · obtain ⟨v, h1, h2, h3⟩ := y_gainM (N := N) (s := w) (p := p) (t := t) (x := x) (y := y) hN (sameQ_inv hq hI) (by
      obtain ⟨h1, h2, h3, h4⟩ := id h
      have e7 := hq.1 7 (by omega)
      have e12 := hq.1 12 (by omega)
      have e15 := hq.1 15 (by omega)
      unfold mayP
      rw [e7, e12, e15]
      exact h)
    rw [yl_gnQ hq] at h1
    exact ⟨v, h1, hq.tr h2, h3⟩
theorem y_next (hN : 5000 ≤ N) (hI : INV k s) (ha : 0 ≤ a ∧ a ≤ 3) (hm : mayN s) : yl_OK1 s (f150 N a) (f268 N a) := by
  have hs := hI.1
  have hw := hI.1.1.1
  have hP4 := hI.1.2.2.2.2.2.1
  have hn := cW_n hw
  have en : (cQ s).2.2.2.1 = (s.1 15 3).toNat := rfl
  obtain ⟨vc, b, c1, c2, c3, c4, c5, c6, c7⟩ := c_next (N := N) (s := s) hN hs.1 ⟨by have := hm.1; omega, hP4.2⟩ (inH_any _ hm.2)
  have cfin : f150 N a s = some (if a = 0 then b.1 else if a = 1 then b.2.1 else if a = 2 then b.2.2.1 else b.2.2.2, vc) := by
    unfold f150
    rw [if_neg (by omega), if_neg (by omega), (c_mayN hN hw).1 hm, i_o2_some, if_neg (by decide), c1, i_o1_some, c4, c5, c6, c7]
    by_cases g0 : a = 0
    · rw [if_pos g0, if_pos g0]
    rw [if_neg g0, if_neg g0]
    by_cases g1 : a = 1
    · rw [if_pos g1, if_pos g1]
    rw [if_neg g1, if_neg g1]
    by_cases g2 : a = 2
    · rw [if_pos g2, if_pos g2]
    · rw [if_neg g2, if_neg g2]
  have qc : sameQ s vc := ⟨fun a ha => c2.1 a (by omega), by rw [c2.1 1 (by omega)], by rw [c2.1 63 (by omega)], by rw [c2.1 63 (by omega)], fun j _ => by rw [c2.1 78 (by omega)], by rw [c2.2]⟩
  refine ⟨_, vc, cfin, qc, fun w hq => ?_⟩
  have q1 : sameQ s (iw w 63 0 0) := hq.tr sameQ_thrown
  have hI1 := sameQ_inv q1 hI
  have hs1 := hI1.1
  have e7 : (iw w 63 0 0).1 7 = s.1 7 := q1.1 7 (by omega)
  have e12 : (iw w 63 0 0).1 12 = s.1 12 := q1.1 12 (by omega)
  have e15 : (iw w 63 0 0).1 15 = s.1 15 := q1.1 15 (by omega)
  have e16 : (iw w 63 0 0).1 16 = s.1 16 := q1.1 16 (by omega)
  have e20 : (iw w 63 0 0).1 20 = s.1 20 := q1.1 20 (by omega)
  have eQ := sameQ_cQ q1
  have eg : gnOf (iw w 63 0 0) = gnOf s := by
    funext q t c
    unfold gnOf gT
    rw [eQ, e7, e16, e20]
  have ech : chA (iw w 63 0 0) = chA s := by
    funext j
    unfold chA
    rw [e12, e7, e15, eg]
  have ewH : wH (iw w 63 0 0) = wH s := by
    unfold wH
    rw [e7, e20, eQ]
  obtain ⟨v2, m1, m2, m3⟩ := m_people_lp (N := N) (s := iw w 63 0 0) (a := a) hN hs1 (s.1 15 0).toNat N 0 (iw w 63 0 0) (by omega) (by rw [e15]; omega) trl.rf (fun b hb => by cases hb)
  rw [ech, e15, ewH, c3] at m3
  rw [ech, e15, c3] at m2
  obtain ⟨b1, b2, b3, b4⟩ := m2 b rfl
  have e71 : w.1 71 0 = s.1 15 0 := by
    rw [hq.1 71 (by omega)]
    exact (INV_eq hI).2.2.1
  have h78 : ∀ j, j < 588 → (iw w 63 0 0).1 78 j = s.1 78 j := fun j hj => q1.2.2.2.2.1 j hj
  have mh := m_inHand (N := N) (s := w) hN (sameQ_inv hq hI).1.2.1 (b := 0) (by decide) (by decide)
  have ei : inH (sh 0 (w.1 78)) (w.1 71 1).toNat = inH (s.1 7) (s.1 15 3).toNat := by
    rw [hq.1 71 (by omega), (INV_eq hI).2.2.2.1]
    refine inH_congr fun j hj => ?_
    rw [sh_at, Int.zero_add, hq.2.2.2.2.1 _ (by omega)]
    exact (INV_eq hI).2.2.2.2 j (by omega) (by omega)
  rw [ei] at mh
  have e8v : eq8 (sh 0 (v2.1 78)) (s.1 7) := fun j j0 j1 => by
    rw [sh_at, Int.zero_add, m1.at (by omega), h78 _ (by omega)]
    exact (INV_eq hI).2.2.2.2 j j0 j1
  have mw := m_worthR (N := N) (s := iw w 63 0 0) (u := v2) (T := s.1 7) (b := 0) hN hs1.ry (by decide) (by decide) (fun a ha => m1.ne ha) e8v
  rw [e20, eQ] at mw
  have mw : f261 N 0 v2 = some (wH s, v2) := mw
  have rwH := wIn_rg (p := s.1 7) (wo := s.1 20) (n := (cQ s).2.2.2.1) (by omega) hs.1.2.2.2.2
  have eH : wH s = wIn (s.1 7) (s.1 20) (cQ s).2.2.2.1 := rfl
  have ecd : cdM (some b) = b.2.1 * 1024 + b.2.2.1 * 64 + b.2.2.2 := rfl
  have evl : vlM (80 * wH s) (some b) = b.1 + 80 * wH s := rfl
  refine ⟨v2, ?_, q1.tr (sameQ_trl (by decide) m1), by rw [m1.ne (by decide), iw_at, zup_same], m1.l2⟩
  unfold f268
  rw [m_within, i_o2_some, if_pos ha, if_neg (by decide), m_people, i_o2_some, e71, if_neg (by have := hm.1; omega), mh, i_o2_some, if_neg (by have := hm.2; omega)]
  unfold f268_at30
  dsimp only
  rw [iw_at, zup_same, if_pos (by decide)]
  have m3' : f268_at49 N N a (-1) 0 0 (iw w 63 0 0) = _ := m3
  rw [m3', mw, i_o2_some, ecd, evl]
  by_cases g0 : a = 0
  · rw [if_pos g0, if_pos g0, iov_ok (by omega) (by omega), iov_ok (by omega) (by omega), show b.1 + 80 * wH s - 80 * wH s = b.1 by omega]
  rw [if_neg g0, if_neg g0]
  by_cases g1 : a = 1
  · rw [if_pos g1, if_pos g1, idv_ok (by omega) (by decide), show (b.2.1 * 1024 + b.2.2.1 * 64 + b.2.2.2) / 1024 = b.2.1 by omega]
  rw [if_neg g1, if_neg g1]
  by_cases g2 : a = 2
  · rw [if_pos g2, if_pos g2, idv_ok (by omega) (by decide), idv_ok (by omega) (by decide), show (b.2.1 * 1024 + b.2.2.1 * 64 + b.2.2.2) / 64 % 16 = b.2.2.1 by omega]
  · rw [if_neg g2, if_neg g2, idv_ok (by omega) (by decide), show (b.2.1 * 1024 + b.2.2.1 * 64 + b.2.2.2) % 64 = b.2.2.2 by omega]
theorem y_await (hN : 5000 ≤ N) (hI : INV k s) (hk : 0 ≤ k) (hk2 : k ≤ 5000) (ha : 0 ≤ a ∧ a ≤ 1) : yl_OK1 s (f155 N a) (f275 N a) := by
  obtain ⟨e0, e1, e2, e3, e4⟩ := INV_eq hI
  have hw := hI.1.1.1
  have sc := hI.1.1.2.1
  have hV := hI.1.1.2.2.1
  have hwo := hI.1.1.2.2.2.2
  have hE := hI.1.2.2.1
  have i2 := hI.2.1
  have hn := cW_n hw
  have hn0 := hw.2.2.1
  have en : (cQ s).2.2.2.1 = (s.1 15 3).toNat := rfl
  obtain ⟨-, -, -, -, -, -, -, -, -, -, i31, i316⟩ := hI.2.2.1
  obtain ⟨-, -, -, -, -, -, -, l0, l1⟩ := id hI
  have r4 := i2.2.2.2.2.2.2.1
  have r5 := i2.2.2.2.2.2.2.2
  have rt := tilS_rg (s := s) (d := s.1 6 4)
  have ct := c_till (N := N) i316 r4.1 (by omega)
  -- the reference, in a state that tells the same
  have m : ∀ w : gI, sameQ s w → ∃ w2, (sameQ s w2 ∧ w2.1 63 0 = 0 ∧ w2.2 = w.2) ∧ f275 N a w = some (if a = 0 then tilS s (s.1 6 4) else wIn (dyI s (tilS s (s.1 6 4)).toNat (s.1 7) (s.1 6 4) (s.1 6 5)).1 (s.1 20) (s.1 15 3).toNat - (dyI s (tilS s (s.1 6 4)).toNat (s.1 7) (s.1 6 4) (s.1 6 5)).2.2 - (wIn (s.1 7) (s.1 20) (s.1 15 3).toNat - s.1 6 5), w2) := by
    intro w hq
    have q1 : sameQ s (iw w 63 0 0) := hq.tr sameQ_thrown
    have hI1 := sameQ_inv q1 hI
    have hmo := hI1.1.2.1
    have hmw := hI1.1.2.2.2.2.2.2.2.2.2
    have u78 : ∀ j, j < 588 → (iw w 63 0 0).1 78 j = s.1 78 j := q1.2.2.2.2.1
    have t63 : (iw w 63 0 0).1 63 0 = 0 := by rw [iw_at, zup_same]
    have uw20 : ∀ t : Nat, t < (s.1 15 3).toNat → mwo (iw w 63 0 0) t = s.1 20 t := fun t ht => by
      unfold mwo
      rw [q1.1 71 (by omega)]
      exact hI.1.2.2.2.2.2.2.2.2.1 t (by omega) (by omega)
    generalize hu : iw w 63 0 0 = u at q1 hI1 hmo hmw u78 t63 uw20
    have u71 := q1.1 71 (by omega)
    have u72 := q1.1 72 (by omega)
    have u73 := q1.1 73 (by omega)
    have c71 : (cop u 0 588).1 71 = s.1 71 := by unfold cop; rw [ic_ne (by decide), u71]
    have c72 : (cop u 0 588).1 72 = s.1 72 := by unfold cop; rw [ic_ne (by decide), u72]
    have c73 : (cop u 0 588).1 73 = s.1 73 := by unfold cop; rw [ic_ne (by decide), u73]
    have eM : mQ (cop u 0 588) = mQ s := by rw [cop_Q, sameQ_mQ q1]
    have cM : ∀ j, 0 ≤ j → j < 18 → sh 588 ((cop u 0 588).1 78) j = s.1 78 j := fun j j0 j1 => by
      rw [cop_sh j0 j1, sh_at, Int.zero_add, u78 j (by omega)]
    have e8 : eq8 (s.1 7) (sh 588 ((cop u 0 588).1 78)) := fun j j0 j1 => by
      rw [cM j j0 (by omega)]
      exact (e4 j j0 j1).symm
    have g16 : sh 588 ((cop u 0 588).1 78) 16 = s.1 6 4 := by rw [cM 16 (by decide) (by decide)]; exact i2.2.1
    have g17 : sh 588 ((cop u 0 588).1 78) 17 = s.1 6 5 := by rw [cM 17 (by decide) (by decide)]; exact i2.2.2.1
    have hmw' : mWo (cop u 0 588) := by
      unfold mWo cop
      rw [ic_ne (by decide)]
      exact hmw
    have hww : ∀ t : Nat, t < (s.1 15 3).toNat → mwo (cop u 0 588) t = s.1 20 t := fun t ht => by
      have := uw20 t ht
      unfold mwo at this ⊢
      unfold cop
      rw [ic_ne (by decide)]
      exact this
    obtain ⟨v2, h2, F2, k2⟩ := m_await_lp (N := N) (s := s) (u := cop u 0 588) (a := a) hN (cop_OK hmo) hmw' c71 c72 c73 (by rw [c71]; exact e3) (by rw [c71]; exact i31) i316 hww l0 l1 (tilS s (s.1 6 4)).toNat N 0 (cop u 0 588) (sh 588 ((cop u 0 588).1 78)) (by omega) (by decide) (by omega) (by omega) (by rw [g16]; omega) pr_self (by rw [eM]; exact VV_eq hE e8 hn hV) (by rw [g16]; exact r4.1) (by rw [g16]; omega) (by rw [g17]; exact r5.1) (by rw [g17]; omega)
    have eR := dyI_eqR (s := s) (by omega) (tilS s (s.1 6 4)).toNat (s.1 7) (s.1 6 4) (s.1 6 5) (sh 588 ((cop u 0 588).1 78)) ⟨e8, g16, g17⟩
    have rgI := dyI_rg (s := s) (tilS s (s.1 6 4)).toNat (s.1 7) (s.1 6 4) (s.1 6 5)
    generalize hT : dyI s (tilS s (s.1 6 4)).toNat (s.1 7) (s.1 6 4) (s.1 6 5) = T at eR rgI
    have dne : ∀ j : Int, 8 ≤ j → j ≠ 16 → j ≠ 17 → dyRI s (tilS s (s.1 6 4)).toNat (sh 588 ((cop u 0 588).1 78)) j = (cop u 0 588).1 78 (588 + j) := fun j j0 h1 h2 => by rw [dyRI_ne hn0 j0 h1 h2, sh_at]
    have dneg : ∀ (r : Nat) (M : Int → Int) (j : Int), j < 0 → dyRI s r M j = M j := by
      intro r
      induction r with
      | zero => intro M j _; rfl
      | succ r ih =>
        intro M j hj
        unfold dyRI
        rw [ih _ j hj]
        unfold dyR
        rw [zup_ne (by omega), zup_ne (by omega), dyP_ne (Or.inl hj) hn0.1]
    have v78 : ∀ j, j < 588 → v2.1 78 j = s.1 78 j := fun j hj => by
      have := pr_at (t := j - 588) h2
      rw [show 588 + (j - 588) = j by omega] at this
      rw [this, dneg _ _ _ (by omega), sh_at, show 588 + (j - 588) = j by omega, cop_out (by omega)]
      exact u78 j hj
    have vs : sameQ s v2 := by
      refine ⟨fun b hb => ?_, ?_, ?_, ?_, v78, ?_⟩
      · rw [h2.1 b (by omega) (by omega) (by omega)]
        unfold cop
        rw [ic_ne (by omega)]
        exact q1.1 b hb
      · rw [h2.1 1 (by decide) (by decide) (by decide)]
        unfold cop
        rw [ic_ne (by decide)]
        exact q1.2.1
      · rw [h2.1 63 (by decide) (by decide) (by decide)]
        unfold cop
        rw [ic_ne (by decide)]
        exact q1.2.2.1
      · rw [h2.1 63 (by decide) (by decide) (by decide)]
        unfold cop
        rw [ic_ne (by decide)]
        exact q1.2.2.2.1
      · rw [h2.2.1]
        exact q1.2.2.2.2.2
    have z63 : v2.1 63 0 = 0 := by
      rw [h2.1 63 (by decide) (by decide) (by decide)]
      unfold cop
      rw [ic_ne (by decide)]
      exact t63
    have z2 : v2.2 = w.2 := by
      rw [h2.2.1, ← hu]
      rfl
    refine ⟨v2, ⟨vs, z63, z2⟩, ?_⟩
    have cp : f215 N 0 588 18 u = some (cop u 0 588) := m_copies hN (by decide) (by decide) (by decide) (by decide) (by decide) (by decide)
    unfold f275 f275_at15
    rw [m_within, i_o2_some, if_pos ha, if_neg (by decide)]
    dsimp only
    rw [hu, t63, if_pos (by decide), cp, i_o1_some, k2]
    unfold f275_at41
    rw [if_neg (by decide), Int.zero_add]
    by_cases g : a = 0
    · rw [if_pos g, if_pos g, show ((tilS s (s.1 6 4)).toNat : Int) = tilS s (s.1 6 4) by omega]
    have mOK2 := (sameQ_inv vs hI).1.2.1
    have mWo2 := (sameQ_inv vs hI).1.2.2.2.2.2.2.2.2.2
    have w1 := m_worth (N := N) (s := v2) hN mOK2 mWo2 (b := 588) (by decide) (by decide)
    have w2 := m_worth (N := N) (s := v2) hN mOK2 mWo2 (b := 0) (by decide) (by decide)
    have v71 := vs.1 71 (by omega)
    rw [v71, e3] at w1 w2
    have ew : ∀ t : Nat, t < (s.1 15 3).toNat → mwo v2 t = s.1 20 t := fun t ht => by
      unfold mwo
      rw [v71]
      exact hI.1.2.2.2.2.2.2.2.2.1 t (by omega) (by omega)
    have w1e : wIn (sh 588 (v2.1 78)) (mwo v2) (s.1 15 3).toNat = wIn T.1 (s.1 20) (s.1 15 3).toNat := wIn_congr (fun j hj => by
      rw [sh_at, pr_at h2]
      exact (eR.1 j (by omega) (by omega)).symm) ew
    have w2e : wIn (sh 0 (v2.1 78)) (mwo v2) (s.1 15 3).toNat = wIn (s.1 7) (s.1 20) (s.1 15 3).toNat := wIn_congr (fun j hj => by
      rw [sh_at, Int.zero_add, v78 j (by omega)]
      exact e4 j (by omega) (by omega)) ew
    rw [w1e] at w1
    rw [w2e] at w2
    have p1 : v2.1 78 605 = T.2.2 := by
      have := pr_at (t := 17) h2
      have : v2.1 78 605 = dyRI s (tilS s (s.1 6 4)).toNat (sh 588 ((cop u 0 588).1 78)) 17 := this
      rw [this, eR.2.2]
    have p2 : v2.1 78 17 = s.1 6 5 := by rw [v78 17 (by decide)]; exact i2.2.2.1
    have b1 := wIn_rg (p := T.1) (wo := s.1 20) (n := (s.1 15 3).toNat) (by omega) hwo
    have b2 := wIn_rg (p := s.1 7) (wo := s.1 20) (n := (s.1 15 3).toNat) (by omega) hwo
    rw [if_neg g, w1, i_o2_some, w2, i_o2_some, iov_ok (by omega) (by omega), ick_ok (by omega) (by omega), ick_ok (by omega) (by omega), p1, p2, iov_ok (by omega) (by omega), iov_ok (by omega) (by omega), if_neg g]
    congr 2
    omega
  by_cases g : a = 0
  · refine ⟨tilS s (s.1 6 4), s, ?_, sameQ.rf, fun w hq => ?_⟩
    rotate_left
    · obtain ⟨w2, h1, h2⟩ := m w hq
      rw [if_pos g] at h2
      exact ⟨w2, h2, h1.1, h1.2⟩
    unfold f155
    rw [if_neg (by omega), if_pos ha.2, ct, i_o2_some, if_pos g]
  have hS : dcs (held s) (s.1 7) (s.1 6 4) (s.1 6 5) (held s) := by
    have := dcs_self (s := held s) (by
      unfold scOK
      rw [held_ne (by decide), held_ne (by decide), held_ne (by decide)]
      exact sc)
    rwa [held_ne (by decide), held_ne (by decide)] at this
  have he : ∀ {a : Nat}, a ≠ 31 → (held s).1 a = s.1 a := fun h => held_ne h
  have lr0 : lawR (held s) 0 25 := lawR_eq l0 (he (by decide)) (he (by decide)) (he (by decide)) (he (by decide)) (he (by decide))
  have lr1 : lawR (held s) 1 28 := lawR_eq l1 (he (by decide)) (he (by decide)) (he (by decide)) (he (by decide)) (he (by decide))
  obtain ⟨v2, h2, k2⟩ := c_await_lp (N := N) (s := held s) (n := tilS s (s.1 6 4)) (b0 := wIn (s.1 7) (s.1 20) (s.1 15 3).toNat - s.1 6 5) hN (held_OK hw) (by unfold cWo; rw [he (by decide)]; exact hwo) (by rw [he (by decide)]; exact i316) lr0 lr1 (by omega) (tilS s (s.1 6 4)).toNat N 0 (held s) (s.1 7) (s.1 6 4) (s.1 6 5) (by omega) (by decide) (by omega) hS (by rw [held_cQ]; exact hV) r4.1 (by omega) r5.1 (by omega)
  have eLV : ∀ (lc : Nat) (l wo d : Int), lc ≤ 28 → lawV (held s) lc l wo d = lawV s lc l wo d := fun lc l wo d h => by
    unfold lawV
    rw [he (by omega), he (by omega)]
  have eC : ∀ p d, dyC (held s) p d = dyC s p d := fun p d => by
    unfold dyC
    rw [he (by decide), he (by decide), eLV _ _ _ _ (by decide)]
  have eP : ∀ p d, dyP (held s) p d = dyP s p d := fun p d => by
    unfold dyP dyS
    rw [he (by decide)]
  have eT : ∀ p d, dyT (held s) p d = dyT s p d := fun p d => by
    unfold dyT dyS
    rw [he (by decide), he (by decide), eLV _ _ _ _ (by decide)]
  have eI : ∀ (r : Nat) (p : Int → Int) (d m : Int), dyI (held s) r p d m = dyI s r p d m := by
    intro r
    induction r with
    | zero => intro p d m; rfl
    | succ r ih =>
      intro p d m
      unfold dyI
      rw [eP, eC, eT, ih]
  rw [eI, he (by decide), he (by decide)] at k2
  rw [eI] at h2
  have rgI := dyI_rg (s := s) (tilS s (s.1 6 4)).toNat (s.1 7) (s.1 6 4) (s.1 6 5)
  have T1 : ∀ j, (j < 0 ∨ 8 ≤ j) → (dyI s (tilS s (s.1 6 4)).toNat (s.1 7) (s.1 6 4) (s.1 6 5)).1 j = s.1 7 j := fun j hj => dyI_ne (by omega) hn0.1 _ _ _ _
  obtain ⟨v3, k3, h3, h3'⟩ := c_release2 (N := N) hN hI h2 T1
  have qs : sameQ s v3 := by
    refine ⟨fun b hb => ?_, ?_, ?_, ?_, fun j hj => ?_, ?_⟩
    · rw [h3 b (by omega) (by omega), he (by omega)]
    · rw [h3 1 (by decide) (by decide), he (by decide)]
    · rw [h3 63 (by decide) (by decide), he (by decide)]
    · rw [h3 63 (by decide) (by decide), he (by decide)]
    · rw [h3 78 (by decide) (by decide), he (by decide)]
    · rw [h3']
  have b1 := wIn_rg (p := (dyI s (tilS s (s.1 6 4)).toNat (s.1 7) (s.1 6 4) (s.1 6 5)).1) (wo := s.1 20) (n := (s.1 15 3).toNat) (by omega) hwo
  have b2 := wIn_rg (p := s.1 7) (wo := s.1 20) (n := (s.1 15 3).toNat) (by omega) hwo
  have cw := c_worth (N := N) (s := s) hN hw hwo
  rw [k3, i_o1_some, iov_ok (by omega) (by omega)] at k2
  refine ⟨wIn (dyI s (tilS s (s.1 6 4)).toNat (s.1 7) (s.1 6 4) (s.1 6 5)).1 (s.1 20) (s.1 15 3).toNat - (dyI s (tilS s (s.1 6 4)).toNat (s.1 7) (s.1 6 4) (s.1 6 5)).2.2 - (wIn (s.1 7) (s.1 20) (s.1 15 3).toNat - s.1 6 5), v3, ?_, qs, fun w hq => ?_⟩
  rotate_left
  · obtain ⟨w2, m1, m2⟩ := m w hq
    rw [if_neg g] at m2
    exact ⟨w2, m2, m1.1, m1.2⟩
  unfold f155
  rw [if_neg (by omega), if_pos ha.2, ct, i_o2_some, if_neg g, cw, i_o2_some, iov_ok (by omega) (by omega)]
  dsimp only
  rw [c_hold, i_o1_some]
  exact k2
end ZMARK

/-! Promise 30: summer answered alike. -/
section QSUM2
variable {N : Nat} {s v u : gI} {k x a d mo : Int} {P M : Int → Int}
/-- what is tried over a summer is taken back -/
theorem c_release3 (hN : 5000 ≤ N) (hI : INV k s) {rn : Int} (h : sm (held s) P d mo rn v) (hP : ∀ j, (j < 0 ∨ 8 ≤ j) → P j = s.1 7 j) : ∃ v2, f48 N v = some v2 ∧ (∀ a : Nat, a ≠ 27 → a ≠ 30 → v2.1 a = (held s).1 a) ∧ ∀ b : Nat, b ≠ 11 → v2.2 b = s.2 b := by
  have hw := hI.1.1.1
  have sc := hI.1.1.2.1
  have hV := hI.1.1.2.2.1
  have i2 := hI.2.1
  have hn0 := hw.2.2.1
  have en : (cQ s).2.2.2.1 = (s.1 15 3).toNat := rfl
  have u31 : v.1 31 = savG s (s.1 31) 0 := by rw [h.1 31 (by decide) (by decide) (by decide) (by decide) (by decide) (by decide)]; exact ic_at
  have sv7 : ∀ j, 0 ≤ j → j < 8 → savG s (s.1 31) 0 (26 * 0 + j) = s.1 7 j := fun j a b => sav_7 (i := 0) a b
  have pl : ∀ j : Nat, j < 8 → 0 ≤ s.1 7 j ∧ s.1 7 j < 192 := fun j hj => by
    by_cases hj2 : (j : Int) < s.1 15 3
    · have := okq_rg (hV j (by omega))
      omega
    · have := i2.2.2.2.2.2.1 j (by omega) (by omega)
      omega
  obtain ⟨G, g1, g2, g3⟩ := c_load2 (N := N) (s := v) (r := 31) (zn := 26) (row := 0) hN (by decide) (by decide) (by decide) (by decide) (fun j hj => by
    rw [u31, sv7 j (by omega) (by omega)]
    exact pl j hj)
  rw [u31] at g1 g2
  have e7 : zcpy (savG s (s.1 31) 0) (v.1 7) (26 * 0) 0 8 = s.1 7 := funext fun j => by
    by_cases h2 : 0 ≤ j ∧ j < 8
    · rw [zcpy_in (by omega) (by omega), show j - 0 = j by omega, sv7 j h2.1 h2.2]
    · rw [zcpy_out (by omega), h.2.1]; exact hP j (by omega)
  have e8 : zcpy (savG s (s.1 31) 0) (v.1 8) (26 * 0 + 8) 0 8 = s.1 8 := funext fun j => by
    by_cases h2 : 0 ≤ j ∧ j < 8
    · rw [zcpy_in (by omega) (by omega), show j - 0 = j by omega]; exact sav_8 (i := 0) h2.1 h2.2
    · rw [zcpy_out (by omega), h.2.2.2.1 j (by omega), held_ne (by decide)]
  have e6 : zup (zup (v.1 6) 4 (savG s (s.1 31) 0 (26 * 0 + 24))) 5 (savG s (s.1 31) 0 (26 * 0 + 25)) = s.1 6 := by
    have a : savG s (s.1 31) 0 (26 * 0 + 24) = s.1 6 4 := sav_24 (i := 0)
    have b : savG s (s.1 31) 0 (26 * 0 + 25) = s.1 6 5 := sav_25 (i := 0)
    rw [a, b, h.2.2.2.2.1, held_ne (by decide)]
    funext j
    by_cases j5 : j = 5
    · subst j5; rw [zup_same]
    rw [zup_ne j5]
    by_cases j4 : j = 4
    · subst j4; rw [zup_same]
    rw [zup_ne j4, zup_ne j5, zup_ne j4]
  rw [e7] at g1 g2
  rw [e8, e6] at g1
  have e9 : G = s.1 9 := funext fun c => by
    by_cases h2 : 0 ≤ c ∧ c < 64
    · rw [g2 c h2.1 h2.2, sc c h2.1 h2.2]
      refine occ2_ext 8 (by omega) fun j j0 j1 => ?_
      have := i2.2.2.2.2.2.1 j (by omega) (by omega)
      rw [this, co_64]
      omega
    · rw [g3 c (by omega), h.2.2.1]
      unfold whof
      rw [if_neg h2, held_ne (by decide)]
  unfold f48
  rw [g1, i_o1_some, e9]
  refine ⟨_, rfl, fun b b27 b30 => ?_, h.2.2.2.2.2.1⟩
  by_cases h9 : b = 9
  · subst h9; rw [ic_at, held_ne (by decide)]
  rw [ic_ne h9]
  by_cases h6 : b = 6
  · subst h6; rw [ic_at, held_ne (by decide)]
  rw [ic_ne h6]
  by_cases h8 : b = 8
  · subst h8; rw [ic_at, held_ne (by decide)]
  rw [ic_ne h8]
  by_cases h7 : b = 7
  · subst h7; rw [ic_at, held_ne (by decide)]
  rw [ic_ne h7]
  exact h.1 b h6 h7 h8 h9 b27 b30
theorem suI_same {t : gI} (hQ : cQ t = cQ s) (h12 : t.1 12 = s.1 12) (h15 : t.1 15 = s.1 15) (h16 : t.1 16 = s.1 16) (h19 : t.1 19 = s.1 19) (h20 : t.1 20 = s.1 20) (h25 : t.1 25 = s.1 25) (h26 : t.1 26 = s.1 26) (h28 : t.1 28 = s.1 28) (h29 : t.1 29 = s.1 29) : ∀ (r : Nat) (i : Int) (p : Int → Int) (d m rn : Int), suI t r i p d m rn = suI s r i p d m rn := by
  obtain ⟨y1, y2, y3⟩ := dy_same h15 h20 h25 h26 h28 h29
  have eT : ∀ p rn, suT t p rn = suT s p rn := fun p rn => by
    unfold suT
    rw [hQ, h12, h15, h16, h19]
  have eG : ∀ i p rn, suG t i p rn = suG s i p rn := fun i p rn => by
    unfold suG
    rw [hQ]
  have eP : ∀ i p rn, suP t i p rn = suP s i p rn := fun i p rn => by
    unfold suP
    rw [eT, eG]
  intro r
  induction r with
  | zero => intro i p d m rn; rfl
  | succ r ih =>
    intro i p d m rn
    unfold suI
    rw [eP, y1, y2, y3, ih]
theorem q_summer {sd n : Int} (hN : 5000 ≤ N) (hI : INV k s) (hk : 0 ≤ k) (hk2 : k ≤ 5000) : OKc k s (f162 N sd n a) (f290 N sd n a) := by
  obtain ⟨e0, e1, e2, e3, e4⟩ := INV_eq hI
  have hw := hI.1.1.1
  have sc := hI.1.1.2.1
  have hV := hI.1.1.2.2.1
  have har := hI.1.1.2.2.2.1
  have hwo := hI.1.1.2.2.2.2
  have hE := hI.1.2.2.1
  have hP4 := hI.1.2.2.2.2.2.1
  have earm := hI.1.2.2.2.2.2.2.2.1
  have wor := hI.1.2.2.2.2.2.2.2.2.1
  have i2 := hI.2.1
  have hn := cW_n hw
  have hn0 := hw.2.2.1
  have en : (cQ s).2.2.2.1 = (s.1 15 3).toNat := rfl
  obtain ⟨i3a, own, -, -, -, -, -, -, -, -, i31, i316⟩ := hI.2.2.1
  obtain ⟨-, -, -, -, -, -, -, l0, l1⟩ := id hI
  have r4 := i2.2.2.2.2.2.2.1
  have r5 := i2.2.2.2.2.2.2.2
  by_cases hz : (0 ≤ sd ∧ sd ≤ 9999) ∧ (1 ≤ n ∧ n ≤ 60) ∧ (0 ≤ a ∧ a ≤ 3) ∧ s.1 15 3 ≠ 0
  rotate_left
  · refine OKc.q hI (x := -1) (s1 := s) (s2 := iw s 63 0 0) ?_ ?_ sameQ_thrown
    · have no : f162_at35 N sd n a s = some (-1, s) := by
        unfold f162_at35 f162_at36
        rw [if_pos rfl]
      unfold f162
      rw [no]
      by_cases g1 : sd < 0
      · rw [if_pos g1]
      rw [if_neg g1]
      by_cases g2 : 9999 < sd
      · rw [if_pos g2]
      rw [if_neg g2]
      by_cases g3 : n < 1
      · rw [if_pos g3]
      rw [if_neg g3]
      by_cases g4 : 60 < n
      · rw [if_pos g4]
      rw [if_neg g4]
      by_cases g5 : a < 0
      · rw [if_pos g5]
      rw [if_neg g5]
      by_cases g6 : 3 < a
      · rw [if_pos g6]
      rw [if_neg g6]
      unfold f162_at36
      rw [if_neg (by decide)]
      by_cases g7 : s.1 15 3 = 0
      · rw [if_pos g7]
      · exact absurd ⟨⟨by omega, by omega⟩, ⟨by omega, by omega⟩, ⟨by omega, by omega⟩, g7⟩ hz
    · unfold f290
      dsimp only
      rw [m_within, i_o2_some]
      by_cases g1 : 0 ≤ sd ∧ sd ≤ 9999
      rotate_left
      · rw [if_neg g1, if_pos rfl]
      rw [if_pos g1, if_neg (by decide), m_within, i_o2_some]
      by_cases g2 : 1 ≤ n ∧ n ≤ 60
      rotate_left
      · rw [if_neg g2, if_pos rfl]
      rw [if_pos g2, if_neg (by decide), m_within, i_o2_some]
      by_cases g3 : 0 ≤ a ∧ a ≤ 3
      rotate_left
      · rw [if_neg g3, if_pos rfl]
      rw [if_pos g3, if_neg (by decide), m_things, i_o2_some, iw63 (by decide), e3]
      by_cases g4 : s.1 15 3 = 0
      · rw [if_pos g4]
      · exact absurd ⟨g1, g2, g3, g4⟩ hz
  obtain ⟨hsd, hnn, ha, hth⟩ := hz
  have h1 : 1 ≤ s.1 15 3 := by omega
  have he : ∀ {b : Nat}, b ≠ 31 → (held s).1 b = s.1 b := fun h => held_ne h
  have lr0 : lawR (held s) 0 25 := lawR_eq l0 (he (by decide)) (he (by decide)) (he (by decide)) (he (by decide)) (he (by decide))
  have lr1 : lawR (held s) 1 28 := lawR_eq l1 (he (by decide)) (he (by decide)) (he (by decide)) (he (by decide)) (he (by decide))
  have hS : sm (held s) (s.1 7) (s.1 6 4) (s.1 6 5) sd (iwl (held s) 11 4 sd) := by
    refine ⟨fun _ _ _ _ _ _ _ => rfl, held_ne (show (7 : Nat) ≠ 31 by decide), ?_, fun _ _ => rfl, ?_, fun b hb => by rw [iwl_ne hb], by rw [iwl_at, zup_same]⟩
    · show (held s).1 9 = _
      rw [held_cQ, he (by decide)]
      funext c
      unfold whof
      split
      · rename_i q; exact sc c q.1 q.2
      · rfl
    · show (held s).1 6 = _
      rw [he (by decide), zup_self, zup_self]
  obtain ⟨v, rn2, k1, k2⟩ := c_sum_lp (N := N) (s := held s) (n := n) hN (held_OK hw) (by unfold cWo; rw [he (by decide)]; exact hwo) (by rw [he (by decide)]; exact h1) (by rw [he (by decide)]; exact har) (by rw [he (by decide)]; exact hP4.2) (by rw [he (by decide), he (by decide)]; exact fun t t0 t1 => (own t t0 t1).2) (by rw [he (by decide)]; exact i316) lr0 lr1 hnn.2 n.toNat N 1 (iwl (held s) 11 4 sd) (s.1 7) (s.1 6 4) (s.1 6 5) sd (by omega) (by decide) (by omega) hS (by rw [held_cQ]; exact hV) r4.1 (by omega) r5.1 (by omega) hsd.1 (by omega)
  have eI := suI_same (t := held s) (s := s) held_cQ (he (by decide)) (he (by decide)) (he (by decide)) (he (by decide)) (he (by decide)) (he (by decide)) (he (by decide)) (he (by decide)) (he (by decide))
  rw [eI] at k2
  obtain ⟨s1, s2, s3, s4, s5⟩ := suI_sp (s := s) hw h1 n.toNat 1 (s.1 7) (s.1 6 4) (s.1 6 5) sd hV
  generalize hT : suI s n.toNat 1 (s.1 7) (s.1 6 4) (s.1 6 5) sd = T at k2 s1 s2 s3 s4 s5
  obtain ⟨w, w1, w2, w3⟩ := c_release3 (N := N) hN hI k2 (fun j hj => s2 j (by omega))
  have v15 : v.1 15 = s.1 15 := by rw [k2.1 15 (by decide) (by decide) (by decide) (by decide) (by decide) (by decide), he (by decide)]
  have v5 : v.1 6 5 = T.2.2 := by rw [k2.2.2.2.2.1, zup_same]
  have hwv := sm_OK k2 (held_OK hw)
  have c1 := c_manyAt (N := N) (s := v) hN hwv (w := 64)
  have c2 := c_manyAt (N := N) (s := v) hN hwv (w := 65)
  have c3 := c_manyLost (N := N) (s := v) hN hwv
  rw [k2.2.1, v15] at c1 c2 c3
  rw [inH_tol] at c1
  obtain ⟨-, sp2, -⟩ := cnt_split (p := T.1) (n := (s.1 15 3).toNat) (fun j hj => okq_rg (s1 j (by omega))) (s.1 15 3).toNat (Nat.le_refl _)
  rw [sp2] at c2
  have cfin : f162 N sd n a s = some (if a = 0 then inH T.1 (s.1 15 3).toNat else if a = 1 then cOv T.1 (s.1 15 3).toNat else if a = 2 then cntL T.1 (s.1 15 3).toNat else T.2.2 - s.1 6 5, w) := by
    unfold f162 f162_at36 f162_at146
    rw [if_neg (by omega), if_neg (by omega), if_neg (by omega), if_neg (by omega), if_neg (by omega), if_neg (by omega), if_neg (by decide), if_neg hth]
    dsimp only
    have k1' : f74 N sd n (held s) = some v := k1
    rw [c_hold, i_o1_some, k1', i_o1_some, v5, iov_ok (by omega) (by omega), c1, c2, c3, i_o2_some, i_o2_some, i_o2_some, w1, i_o1_some, i_o1_some, i_o1_some, i_o1_some]
    by_cases g0 : a = 0
    · rw [if_pos g0, if_pos g0]
    rw [if_neg g0, if_neg g0]
    by_cases g1 : a = 1
    · rw [if_pos g1, if_pos g1]
    rw [if_neg g1, if_neg g1]
    by_cases g2 : a = 2
    · rw [if_pos g2, if_pos g2]
    · rw [if_neg g2, if_neg g2]
  have qw : sameQ s w := by
    refine ⟨fun b hb => ?_, ?_, ?_, ?_, fun j hj => ?_, ?_⟩
    · rw [w2 b (by omega) (by omega), he (by omega)]
    · rw [w2 1 (by decide) (by decide), he (by decide)]
    · rw [w2 63 (by decide) (by decide), he (by decide)]
    · rw [w2 63 (by decide) (by decide), he (by decide)]
    · rw [w2 78 (by decide) (by decide), he (by decide)]
    · exact w3 68 (by decide)
  have q1 : sameQ s (iw w 63 0 0) := qw.tr sameQ_thrown
  have hI1 := sameQ_inv q1 hI
  have hmo := hI1.1.2.1
  have hmw := hI1.1.2.2.2.2.2.2.2.2.2
  generalize hu : iw w 63 0 0 = u at q1 hI1 hmo hmw
  have u71 := q1.1 71 (by omega)
  have u78 := q1.2.2.2.2.1
  have c71 : (cop u 0 588).1 71 = s.1 71 := by unfold cop; rw [ic_ne (by decide), u71]
  have c69 : (cop u 0 588).1 69 = s.1 69 := by unfold cop; rw [ic_ne (by decide), q1.1 69 (by omega)]
  have c72 : (cop u 0 588).1 72 = s.1 72 := by unfold cop; rw [ic_ne (by decide), q1.1 72 (by omega)]
  have c73 : (cop u 0 588).1 73 = s.1 73 := by unfold cop; rw [ic_ne (by decide), q1.1 73 (by omega)]
  have eM : mQ (cop u 0 588) = mQ s := by rw [cop_Q, sameQ_mQ q1]
  have S : shr s (cop u 0 588) := by
    refine ⟨hw, cop_OK hmo, by rw [eM]; exact hE, by rw [c69]; exact e0, by rw [c69]; exact e1, by rw [c71]; exact e3, h1, har, by rw [c71]; exact earm, hP4.2, fun t t0 t1 => ?_, fun t ht => ?_, by rw [c71]; exact i31, i316, fun t ht => ?_, ?_, c71, c72, c73, l0, l1⟩
    · rw [c71]; exact own t t0 t1
    · rw [eM, ← hE.2.2.1] at ht
      rw [c71]
      have := hE.2.2.2.2 t ht
      have : s.1 18 t = s.1 71 (14 + 3 * t) := this
      rw [← this]
      exact i3a t (by omega) (by omega)
    · unfold mwo
      rw [c71]
      exact wor t (by omega) (by omega)
    · unfold mWo
      rw [c71, ← u71]
      exact hmw
  have cM : ∀ j, 0 ≤ j → j < 18 → sh 588 ((cop u 0 588).1 78) j = s.1 78 j := fun j j0 j1 => by
    rw [cop_sh j0 j1, sh_at, Int.zero_add, u78 j (by omega)]
  have hR : eqR (s.1 7) (s.1 6 4) (s.1 6 5) (sh 588 ((cop u 0 588).1 78)) := by
    refine ⟨fun j j0 j1 => ?_, ?_, ?_⟩
    · rw [cM j j0 (by omega)]; exact (e4 j j0 j1).symm
    · rw [cM 16 (by decide) (by decide)]; exact i2.2.1
    · rw [cM 17 (by decide) (by decide)]; exact i2.2.2.1
  have hm0 : mm (cop u 0 588) (sh 588 ((cop u 0 588).1 78)) sd (iwl (cop u 0 588) 63 27 sd) := ⟨fun _ _ _ _ => rfl, by rw [unsh_sh]; rfl, fun b hb => by rw [iwl_ne hb], by rw [iwl_at, zup_same]⟩
  obtain ⟨v2, M2, rn3, m1, m2, m3, m4⟩ := m_sum_lp (N := N) (a := a) (n := n) hN S hnn.2 n.toNat N 1 (iwl (cop u 0 588) 63 27 sd) (sh 588 ((cop u 0 588).1 78)) (s.1 7) (s.1 6 4) (s.1 6 5) sd (by omega) (by decide) (by omega) hm0 hR hV r4.1 (by omega) r5.1 (by omega) hsd.1 (by omega)
  rw [hT] at m3
  have v78 : ∀ j, j < 588 → v2.1 78 j = s.1 78 j := fun j hj => by
    have := mm_at (j := j - 588) m2
    rw [show 588 + (j - 588) = j by omega] at this
    rw [this, m4 _ (by omega), sh_at, show 588 + (j - 588) = j by omega, cop_out (by omega)]
    exact u78 j hj
  have vs : sameQ s v2 := by
    refine ⟨fun b hb => ?_, ?_, ?_, ?_, v78, ?_⟩
    · rw [m2.1 b (by omega) (by omega) (by omega)]
      unfold cop
      rw [ic_ne (by omega)]
      exact q1.1 b hb
    · rw [m2.1 1 (by decide) (by decide) (by decide)]
      unfold cop
      rw [ic_ne (by decide)]
      exact q1.2.1
    · rw [m2.1 63 (by decide) (by decide) (by decide)]
      unfold cop
      rw [ic_ne (by decide)]
      exact q1.2.2.1
    · rw [m2.1 63 (by decide) (by decide) (by decide)]
      unfold cop
      rw [ic_ne (by decide)]
      exact q1.2.2.2.1
    · rw [m2.2.2.1 68 (by decide)]
      exact q1.2.2.2.2.2
  have p1 : v2.1 78 605 = T.2.2 := by
    have := mm_at (j := 17) m2
    have : v2.1 78 605 = M2 17 := this
    rw [this, m3.2.2]
  have p2 : v2.1 78 17 = s.1 6 5 := by rw [v78 17 (by decide)]; exact i2.2.2.1
  have v71 : v2.1 71 1 = s.1 15 3 := by rw [m2.1 71 (by decide) (by decide) (by decide), c71, e3]
  have le := m_end_lp (N := N) (v := v2) (a := a) (M := M2) hN (mm_OK m2 S.mok) ha (mm_sh m2) (by rw [p1, p2]; omega) (s.1 15 3).toNat N 0 (by rw [v71]; omega) (by omega)
  have x1 : inH M2 (s.1 15 3).toNat = inH T.1 (s.1 15 3).toNat := inH_congr fun j hj => (m3.1 j (by omega) (by omega)).symm
  have x2 : cOv M2 (s.1 15 3).toNat = cOv T.1 (s.1 15 3).toNat := sumN_congr _ fun j hj => by rw [m3.1 j (by omega) (by omega)]
  have x3 : cntL M2 (s.1 15 3).toNat = cntL T.1 (s.1 15 3).toNat := cntL_congr fun j hj => (m3.1 j (by omega) (by omega)).symm
  rw [v71, p1, p2, x1, x2, x3] at le
  refine OKc.q hI cfin ?_ vs
  have cp : f215 N 0 588 18 u = some (cop u 0 588) := m_copies hN (by decide) (by decide) (by decide) (by decide) (by decide) (by decide)
  unfold f290
  dsimp only
  rw [hu, m_within, i_o2_some, if_pos hsd, if_neg (by decide), m_within, i_o2_some, if_pos hnn, if_neg (by decide), m_within, i_o2_some, if_pos ha, if_neg (by decide), m_things, i_o2_some, u71, e3, if_neg hth, cp, i_o1_some, m1]
  exact le
end QSUM2

/-! Promise 23: await answered alike. -/
section AWAIT
variable {N : Nat} {s v u : gI} {k x a d mo : Int} {P M : Int → Int}
/-- what is tried over some days is taken back, but for the laws' own scratch -/
theorem c_release2 (hN : 5000 ≤ N) (hI : INV k s) (h : dcs (held s) P d mo v) (hP : ∀ j, (j < 0 ∨ 8 ≤ j) → P j = s.1 7 j) : ∃ v2, f48 N v = some v2 ∧ (∀ a : Nat, a ≠ 27 → a ≠ 30 → v2.1 a = (held s).1 a) ∧ v2.2 = s.2 := by
  have hw := hI.1.1.1
  have sc := hI.1.1.2.1
  have hV := hI.1.1.2.2.1
  have i2 := hI.2.1
  have hn0 := hw.2.2.1
  have en : (cQ s).2.2.2.1 = (s.1 15 3).toNat := rfl
  have u31 : v.1 31 = savG s (s.1 31) 0 := by rw [h.1 31 (by decide) (by decide) (by decide) (by decide) (by decide)]; exact ic_at
  have une : ∀ a : Nat, a ≠ 6 → a ≠ 7 → a ≠ 9 → a ≠ 27 → a ≠ 30 → a ≠ 31 → v.1 a = s.1 a := fun a a1 a2 a3 a4 a5 a6 => by rw [h.1 a a1 a2 a3 a4 a5, held_ne a6]
  have sv7 : ∀ j, 0 ≤ j → j < 8 → savG s (s.1 31) 0 (26 * 0 + j) = s.1 7 j := fun j a b => sav_7 (i := 0) a b
  have pl : ∀ j : Nat, j < 8 → 0 ≤ s.1 7 j ∧ s.1 7 j < 192 := fun j hj => by
    by_cases hj2 : (j : Int) < s.1 15 3
    · have := okq_rg (hV j (by omega))
      omega
    · have := i2.2.2.2.2.2.1 j (by omega) (by omega)
      omega
  obtain ⟨G, g1, g2, g3⟩ := c_load2 (N := N) (s := v) (r := 31) (zn := 26) (row := 0) hN (by decide) (by decide) (by decide) (by decide) (fun j hj => by
    rw [u31, sv7 j (by omega) (by omega)]
    exact pl j hj)
  rw [u31] at g1 g2
  have e7 : zcpy (savG s (s.1 31) 0) (v.1 7) (26 * 0) 0 8 = s.1 7 := funext fun j => by
    by_cases h2 : 0 ≤ j ∧ j < 8
    · rw [zcpy_in (by omega) (by omega), show j - 0 = j by omega, sv7 j h2.1 h2.2]
    · rw [zcpy_out (by omega), h.2.2.1]; exact hP j (by omega)
  have e8 : zcpy (savG s (s.1 31) 0) (v.1 8) (26 * 0 + 8) 0 8 = s.1 8 := funext fun j => by
    by_cases h2 : 0 ≤ j ∧ j < 8
    · rw [zcpy_in (by omega) (by omega), show j - 0 = j by omega]; exact sav_8 (i := 0) h2.1 h2.2
    · rw [zcpy_out (by omega), une 8 (by decide) (by decide) (by decide) (by decide) (by decide) (by decide)]
  have e6 : zup (zup (v.1 6) 4 (savG s (s.1 31) 0 (26 * 0 + 24))) 5 (savG s (s.1 31) 0 (26 * 0 + 25)) = s.1 6 := by
    have a : savG s (s.1 31) 0 (26 * 0 + 24) = s.1 6 4 := sav_24 (i := 0)
    have b : savG s (s.1 31) 0 (26 * 0 + 25) = s.1 6 5 := sav_25 (i := 0)
    rw [a, b, h.2.2.2.2, held_ne (by decide)]
    funext j
    by_cases j5 : j = 5
    · subst j5; rw [zup_same]
    rw [zup_ne j5]
    by_cases j4 : j = 4
    · subst j4; rw [zup_same]
    rw [zup_ne j4, zup_ne j5, zup_ne j4]
  rw [e7] at g1 g2
  rw [e8, e6] at g1
  have e9 : G = s.1 9 := funext fun c => by
    by_cases h2 : 0 ≤ c ∧ c < 64
    · rw [g2 c h2.1 h2.2, sc c h2.1 h2.2]
      refine occ2_ext 8 (by omega) fun j j0 j1 => ?_
      have := i2.2.2.2.2.2.1 j (by omega) (by omega)
      rw [this, co_64]
      omega
    · rw [g3 c (by omega), h.2.2.2.1]
      unfold whof
      rw [if_neg h2, held_ne (by decide)]
  unfold f48
  rw [g1, i_o1_some, e9]
  refine ⟨_, rfl, fun b b27 b30 => ?_, h.2.1⟩
  by_cases h9 : b = 9
  · subst h9; rw [ic_at, held_ne (by decide)]
  rw [ic_ne h9]
  by_cases h6 : b = 6
  · subst h6; rw [ic_at, held_ne (by decide)]
  rw [ic_ne h6]
  by_cases h8 : b = 8
  · subst h8; rw [ic_at, held_ne (by decide)]
  rw [ic_ne h8]
  by_cases h7 : b = 7
  · subst h7; rw [ic_at, held_ne (by decide)]
  rw [ic_ne h7]
  exact h.1 b h6 h7 h9 b27 b30
/-- days till Saturday, that one too -/
def tilS (s : gI) (d : Int) : Int := (12 - (s.1 15 16 + d) % 7) % 7 + 1
theorem c_till (h16 : 0 ≤ s.1 15 16 ∧ s.1 15 16 ≤ 6) (d0 : 0 ≤ s.1 6 4) (d1 : s.1 6 4 ≤ 1000000) : f63 N s = some (tilS s (s.1 6 4), s) := by
  unfold f63 tilS
  rw [iov_ok (by omega) (by omega), idv_ok (by omega) (by decide)]
  dsimp only
  rw [iov_ok (by omega) (by omega), idv_ok (by omega) (by decide), iov_ok (by omega) (by omega)]
theorem c_await_lp {n b0 : Int} (hN : 5000 ≤ N) (hw : cOK s) (hwo : cWo s) (h16 : 0 ≤ s.1 15 16 ∧ s.1 15 16 ≤ 6) (r0 : lawR s 0 25) (r1 : lawR s 1 28) (hn : n ≤ 100) : ∀ (r fuel : Nat) (i : Int) (v : gI) (p : Int → Int) (d mo : Int), r < fuel → 0 ≤ i → i + r = n → dcs s p d mo v → VV (cQ s) p → 0 ≤ d → d + r ≤ 900000 → 0 ≤ mo → mo + 198 * r ≤ 1900000000 →
    ∃ v2, dcs s (dyI s r p d mo).1 (dyI s r p d mo).2.1 (dyI s r p d mo).2.2 v2 ∧ f155_at60 N fuel n b0 i v = i_o1 (f48 N v2) fun s4 => iov (wIn (dyI s r p d mo).1 (s.1 20) (s.1 15 3).toNat - (dyI s r p d mo).2.2 - b0) <| some (wIn (dyI s r p d mo).1 (s.1 20) (s.1 15 3).toNat - (dyI s r p d mo).2.2 - b0, s4) := by
  have hcn := cW_n hw
  have en : (cQ s).2.2.2.1 = (s.1 15 3).toNat := rfl
  intro r
  induction r with
  | zero =>
    intro fuel i v p d mo hf i0 e h hV d0 d1 m0 m1
    obtain ⟨fuel, rfl⟩ : ∃ g, fuel = g + 1 := ⟨fuel - 1, by omega⟩
    refine ⟨v, h, ?_⟩
    have e20 := h.1 20 (by decide) (by decide) (by decide) (by decide) (by decide)
    have l1 := c_worth (N := N) (s := v) hN (dcs_OK h hw) (by unfold cWo; rw [e20]; exact hwo)
    rw [h.2.2.1, e20, h.1 15 (by decide) (by decide) (by decide) (by decide) (by decide)] at l1
    have rW := wIn_rg (p := p) (wo := s.1 20) (n := (s.1 15 3).toNat) (by omega) hwo
    unfold f155_at60
    rw [if_pos (by omega), l1, i_o2_some, dcs_5 h, iov_ok (by omega) (by omega)]
    rfl
  | succ r ih =>
    intro fuel i v p d mo hf i0 e h hV d0 d1 m0 m1
    obtain ⟨fuel, rfl⟩ : ∃ g, fuel = g + 1 := ⟨fuel - 1, by omega⟩
    obtain ⟨v1, l1, h1⟩ := c_day hN hw hwo h16 r0 r1 h hV d0 (by omega) m0 (by omega)
    have rc := dyC_rg (s := s) (p := p) (d := d)
    have rt := dyT_rg (s := s) (p := p) (d := d)
    obtain ⟨v2, h2, l2⟩ := ih fuel (i + 1) v1 _ _ _ (by omega) (by omega) (by omega) h1 (VV_dyP hV) (by omega) (by omega) (by omega) (by omega)
    refine ⟨v2, h2, ?_⟩
    unfold f155_at60
    rw [if_neg (by omega), l1, i_o1_some, iov_ok (by omega) (by omega), l2]
    rfl
theorem m_await_lp (hN : 5000 ≤ N) (hw : mOK u) (hwo : mWo u) (e71 : u.1 71 = s.1 71) (e72 : u.1 72 = s.1 72) (e73 : u.1 73 = s.1 73) (e3 : u.1 71 1 = s.1 15 3) (e16 : u.1 71 7 = s.1 15 16) (h16 : 0 ≤ s.1 15 16 ∧ s.1 15 16 ≤ 6) (ewo : ∀ t : Nat, t < (s.1 15 3).toNat → mwo u t = s.1 20 t) (r0 : lawR s 0 25) (r1 : lawR s 1 28) : ∀ (r fuel : Nat) (j : Int) (v : gI) (M : Int → Int), r + 1 < fuel → 0 ≤ j → j + r ≤ 100 → 1 ≤ r → tilS s (M 16) = r → pr u 588 M v → VV (mQ u) M → 0 ≤ M 16 → M 16 + r ≤ 900000 → 0 ≤ M 17 → M 17 + 198 * r ≤ 1900000000 →
    ∃ v2, pr u 588 (dyRI s r M) v2 ∧ ∃ fuel2, f275_at41 N fuel a j 0 v = f275_at41 N (fuel2 + 1) a (j + r) 1 v2 := by
  intro r
  have en : (mQ u).2.2.2.1 = (u.1 71 1).toNat := rfl
  have hn2 := hw.2.2
  induction r with
  | zero =>
    intro fuel j v M hf j0 j1 r1
    omega
  | succ r ih =>
    intro fuel j v M hf j0 j1 r1 ht h hV d0 d1 m0 m1
    obtain ⟨F, rfl⟩ : ∃ F, fuel = F + 1 := ⟨fuel - 1, by omega⟩
    obtain ⟨v1, l1, h1⟩ := m_day hN hw hwo (by decide : (0 : Int) ≤ 588) (by decide) e71 e72 e73 e3 e16 h16 ewo r0 ‹lawR s 1 28› hV h ⟨d0, by omega⟩ ⟨m0, by omega⟩
    have rc := dyC_rg (s := s) (p := M) (d := M 16)
    have rt := dyT_rg (s := s) (p := M) (d := M 16)
    have a16 := pr_at (t := 16) h
    have a16 : v.1 78 604 = M 16 := a16
    unfold tilS at ht
    by_cases g : r = 0
    · subst g
      refine ⟨v1, h1, ⟨F - 1, ?_⟩⟩
      conv => lhs; unfold f275_at41
      unfold f275_at73
      rw [if_pos rfl, ick_ok (by omega) (by omega), ick_ok (by omega) (by omega), a16, h.1 71 (by decide) (by decide) (by decide), e16, iov_ok (by omega) (by omega), idv_ok (by omega) (by decide), if_pos (by omega), l1, i_o1_some, iov_ok (by omega) (by omega), show F - 1 + 1 = F by omega]
      rfl
    · obtain ⟨v2, h2, F2, l2⟩ := ih F (j + 1) v1 (dyR s M) (by omega) (by omega) (by omega) (by omega) (by rw [dyR_16]; unfold tilS; omega) h1 (VV_dyR (by omega) hV) (by rw [dyR_16]; omega) (by rw [dyR_16]; omega) (by rw [dyR_17]; omega) (by rw [dyR_17]; omega)
      refine ⟨v2, h2, ⟨F2, ?_⟩⟩
      rw [show j + ((r + 1 : Nat) : Int) = j + 1 + (r : Int) by omega, ← l2]
      conv => lhs; unfold f275_at41
      unfold f275_at73
      rw [if_pos rfl, ick_ok (by omega) (by omega), ick_ok (by omega) (by omega), a16, h.1 71 (by decide) (by decide) (by decide), e16, iov_ok (by omega) (by omega), idv_ok (by omega) (by decide), if_neg (by omega), l1, i_o1_some, iov_ok (by omega) (by omega)]
theorem tilS_rg {d : Int} : 1 ≤ tilS s d ∧ tilS s d ≤ 7 := by
  unfold tilS
  omega
theorem q_await (hN : 5000 ≤ N) (hI : INV k s) (hk : 0 ≤ k) (hk2 : k ≤ 5000) (ha : 0 ≤ a ∧ a ≤ 1) : OKc k s (f155 N a) (f275 N a) := by
  obtain ⟨e0, e1, e2, e3, e4⟩ := INV_eq hI
  have hw := hI.1.1.1
  have sc := hI.1.1.2.1
  have hV := hI.1.1.2.2.1
  have hwo := hI.1.1.2.2.2.2
  have hE := hI.1.2.2.1
  have i2 := hI.2.1
  have hn := cW_n hw
  have hn0 := hw.2.2.1
  have en : (cQ s).2.2.2.1 = (s.1 15 3).toNat := rfl
  obtain ⟨-, -, -, -, -, -, -, -, -, -, i31, i316⟩ := hI.2.2.1
  obtain ⟨-, -, -, -, -, -, -, l0, l1⟩ := id hI
  have r4 := i2.2.2.2.2.2.2.1
  have r5 := i2.2.2.2.2.2.2.2
  have rt := tilS_rg (s := s) (d := s.1 6 4)
  have ct := c_till (N := N) i316 r4.1 (by omega)
  -- the reference, in a state that tells the same
  have m : ∀ w : gI, sameQ s w → ∃ w2, sameQ s w2 ∧ f275 N a w = some (if a = 0 then tilS s (s.1 6 4) else wIn (dyI s (tilS s (s.1 6 4)).toNat (s.1 7) (s.1 6 4) (s.1 6 5)).1 (s.1 20) (s.1 15 3).toNat - (dyI s (tilS s (s.1 6 4)).toNat (s.1 7) (s.1 6 4) (s.1 6 5)).2.2 - (wIn (s.1 7) (s.1 20) (s.1 15 3).toNat - s.1 6 5), w2) := by
    intro w hq
    have q1 : sameQ s (iw w 63 0 0) := hq.tr sameQ_thrown
    have hI1 := sameQ_inv q1 hI
    have hmo := hI1.1.2.1
    have hmw := hI1.1.2.2.2.2.2.2.2.2.2
    have u78 : ∀ j, j < 588 → (iw w 63 0 0).1 78 j = s.1 78 j := q1.2.2.2.2.1
    have t63 : (iw w 63 0 0).1 63 0 = 0 := by rw [iw_at, zup_same]
    have uw20 : ∀ t : Nat, t < (s.1 15 3).toNat → mwo (iw w 63 0 0) t = s.1 20 t := fun t ht => by
      unfold mwo
      rw [q1.1 71 (by omega)]
      exact hI.1.2.2.2.2.2.2.2.2.1 t (by omega) (by omega)
    generalize hu : iw w 63 0 0 = u at q1 hI1 hmo hmw u78 t63 uw20
    have u71 := q1.1 71 (by omega)
    have u72 := q1.1 72 (by omega)
    have u73 := q1.1 73 (by omega)
    have c71 : (cop u 0 588).1 71 = s.1 71 := by unfold cop; rw [ic_ne (by decide), u71]
    have c72 : (cop u 0 588).1 72 = s.1 72 := by unfold cop; rw [ic_ne (by decide), u72]
    have c73 : (cop u 0 588).1 73 = s.1 73 := by unfold cop; rw [ic_ne (by decide), u73]
    have eM : mQ (cop u 0 588) = mQ s := by rw [cop_Q, sameQ_mQ q1]
    have cM : ∀ j, 0 ≤ j → j < 18 → sh 588 ((cop u 0 588).1 78) j = s.1 78 j := fun j j0 j1 => by
      rw [cop_sh j0 j1, sh_at, Int.zero_add, u78 j (by omega)]
    have e8 : eq8 (s.1 7) (sh 588 ((cop u 0 588).1 78)) := fun j j0 j1 => by
      rw [cM j j0 (by omega)]
      exact (e4 j j0 j1).symm
    have g16 : sh 588 ((cop u 0 588).1 78) 16 = s.1 6 4 := by rw [cM 16 (by decide) (by decide)]; exact i2.2.1
    have g17 : sh 588 ((cop u 0 588).1 78) 17 = s.1 6 5 := by rw [cM 17 (by decide) (by decide)]; exact i2.2.2.1
    have hmw' : mWo (cop u 0 588) := by
      unfold mWo cop
      rw [ic_ne (by decide)]
      exact hmw
    have hww : ∀ t : Nat, t < (s.1 15 3).toNat → mwo (cop u 0 588) t = s.1 20 t := fun t ht => by
      have := uw20 t ht
      unfold mwo at this ⊢
      unfold cop
      rw [ic_ne (by decide)]
      exact this
    obtain ⟨v2, h2, F2, k2⟩ := m_await_lp (N := N) (s := s) (u := cop u 0 588) (a := a) hN (cop_OK hmo) hmw' c71 c72 c73 (by rw [c71]; exact e3) (by rw [c71]; exact i31) i316 hww l0 l1 (tilS s (s.1 6 4)).toNat N 0 (cop u 0 588) (sh 588 ((cop u 0 588).1 78)) (by omega) (by decide) (by omega) (by omega) (by rw [g16]; omega) pr_self (by rw [eM]; exact VV_eq hE e8 hn hV) (by rw [g16]; exact r4.1) (by rw [g16]; omega) (by rw [g17]; exact r5.1) (by rw [g17]; omega)
    have eR := dyI_eqR (s := s) (by omega) (tilS s (s.1 6 4)).toNat (s.1 7) (s.1 6 4) (s.1 6 5) (sh 588 ((cop u 0 588).1 78)) ⟨e8, g16, g17⟩
    have rgI := dyI_rg (s := s) (tilS s (s.1 6 4)).toNat (s.1 7) (s.1 6 4) (s.1 6 5)
    generalize hT : dyI s (tilS s (s.1 6 4)).toNat (s.1 7) (s.1 6 4) (s.1 6 5) = T at eR rgI
    have dne : ∀ j : Int, 8 ≤ j → j ≠ 16 → j ≠ 17 → dyRI s (tilS s (s.1 6 4)).toNat (sh 588 ((cop u 0 588).1 78)) j = (cop u 0 588).1 78 (588 + j) := fun j j0 h1 h2 => by rw [dyRI_ne hn0 j0 h1 h2, sh_at]
    have dneg : ∀ (r : Nat) (M : Int → Int) (j : Int), j < 0 → dyRI s r M j = M j := by
      intro r
      induction r with
      | zero => intro M j _; rfl
      | succ r ih =>
        intro M j hj
        unfold dyRI
        rw [ih _ j hj]
        unfold dyR
        rw [zup_ne (by omega), zup_ne (by omega), dyP_ne (Or.inl hj) hn0.1]
    have v78 : ∀ j, j < 588 → v2.1 78 j = s.1 78 j := fun j hj => by
      have := pr_at (t := j - 588) h2
      rw [show 588 + (j - 588) = j by omega] at this
      rw [this, dneg _ _ _ (by omega), sh_at, show 588 + (j - 588) = j by omega, cop_out (by omega)]
      exact u78 j hj
    have vs : sameQ s v2 := by
      refine ⟨fun b hb => ?_, ?_, ?_, ?_, v78, ?_⟩
      · rw [h2.1 b (by omega) (by omega) (by omega)]
        unfold cop
        rw [ic_ne (by omega)]
        exact q1.1 b hb
      · rw [h2.1 1 (by decide) (by decide) (by decide)]
        unfold cop
        rw [ic_ne (by decide)]
        exact q1.2.1
      · rw [h2.1 63 (by decide) (by decide) (by decide)]
        unfold cop
        rw [ic_ne (by decide)]
        exact q1.2.2.1
      · rw [h2.1 63 (by decide) (by decide) (by decide)]
        unfold cop
        rw [ic_ne (by decide)]
        exact q1.2.2.2.1
      · rw [h2.2.1]
        exact q1.2.2.2.2.2
    refine ⟨v2, vs, ?_⟩
    have cp : f215 N 0 588 18 u = some (cop u 0 588) := m_copies hN (by decide) (by decide) (by decide) (by decide) (by decide) (by decide)
    unfold f275 f275_at15
    rw [m_within, i_o2_some, if_pos ha, if_neg (by decide)]
    dsimp only
    rw [hu, t63, if_pos (by decide), cp, i_o1_some, k2]
    unfold f275_at41
    rw [if_neg (by decide), Int.zero_add]
    by_cases g : a = 0
    · rw [if_pos g, if_pos g, show ((tilS s (s.1 6 4)).toNat : Int) = tilS s (s.1 6 4) by omega]
    have mOK2 := (sameQ_inv vs hI).1.2.1
    have mWo2 := (sameQ_inv vs hI).1.2.2.2.2.2.2.2.2.2
    have w1 := m_worth (N := N) (s := v2) hN mOK2 mWo2 (b := 588) (by decide) (by decide)
    have w2 := m_worth (N := N) (s := v2) hN mOK2 mWo2 (b := 0) (by decide) (by decide)
    have v71 := vs.1 71 (by omega)
    rw [v71, e3] at w1 w2
    have ew : ∀ t : Nat, t < (s.1 15 3).toNat → mwo v2 t = s.1 20 t := fun t ht => by
      unfold mwo
      rw [v71]
      exact hI.1.2.2.2.2.2.2.2.2.1 t (by omega) (by omega)
    have w1e : wIn (sh 588 (v2.1 78)) (mwo v2) (s.1 15 3).toNat = wIn T.1 (s.1 20) (s.1 15 3).toNat := wIn_congr (fun j hj => by
      rw [sh_at, pr_at h2]
      exact (eR.1 j (by omega) (by omega)).symm) ew
    have w2e : wIn (sh 0 (v2.1 78)) (mwo v2) (s.1 15 3).toNat = wIn (s.1 7) (s.1 20) (s.1 15 3).toNat := wIn_congr (fun j hj => by
      rw [sh_at, Int.zero_add, v78 j (by omega)]
      exact e4 j (by omega) (by omega)) ew
    rw [w1e] at w1
    rw [w2e] at w2
    have p1 : v2.1 78 605 = T.2.2 := by
      have := pr_at (t := 17) h2
      have : v2.1 78 605 = dyRI s (tilS s (s.1 6 4)).toNat (sh 588 ((cop u 0 588).1 78)) 17 := this
      rw [this, eR.2.2]
    have p2 : v2.1 78 17 = s.1 6 5 := by rw [v78 17 (by decide)]; exact i2.2.2.1
    have b1 := wIn_rg (p := T.1) (wo := s.1 20) (n := (s.1 15 3).toNat) (by omega) hwo
    have b2 := wIn_rg (p := s.1 7) (wo := s.1 20) (n := (s.1 15 3).toNat) (by omega) hwo
    rw [if_neg g, w1, i_o2_some, w2, i_o2_some, iov_ok (by omega) (by omega), ick_ok (by omega) (by omega), ick_ok (by omega) (by omega), p1, p2, iov_ok (by omega) (by omega), iov_ok (by omega) (by omega), if_neg g]
    congr 2
    omega
  by_cases g : a = 0
  · obtain ⟨w2, h1, h2⟩ := m s sameQ.rf
    rw [if_pos g] at h2
    refine OKc.q hI (x := tilS s (s.1 6 4)) (s1 := s) ?_ h2 h1
    unfold f155
    rw [if_neg (by omega), if_pos ha.2, ct, i_o2_some, if_pos g]
  have hS : dcs (held s) (s.1 7) (s.1 6 4) (s.1 6 5) (held s) := by
    have := dcs_self (s := held s) (by
      unfold scOK
      rw [held_ne (by decide), held_ne (by decide), held_ne (by decide)]
      exact sc)
    rwa [held_ne (by decide), held_ne (by decide)] at this
  have he : ∀ {a : Nat}, a ≠ 31 → (held s).1 a = s.1 a := fun h => held_ne h
  have lr0 : lawR (held s) 0 25 := lawR_eq l0 (he (by decide)) (he (by decide)) (he (by decide)) (he (by decide)) (he (by decide))
  have lr1 : lawR (held s) 1 28 := lawR_eq l1 (he (by decide)) (he (by decide)) (he (by decide)) (he (by decide)) (he (by decide))
  obtain ⟨v2, h2, k2⟩ := c_await_lp (N := N) (s := held s) (n := tilS s (s.1 6 4)) (b0 := wIn (s.1 7) (s.1 20) (s.1 15 3).toNat - s.1 6 5) hN (held_OK hw) (by unfold cWo; rw [he (by decide)]; exact hwo) (by rw [he (by decide)]; exact i316) lr0 lr1 (by omega) (tilS s (s.1 6 4)).toNat N 0 (held s) (s.1 7) (s.1 6 4) (s.1 6 5) (by omega) (by decide) (by omega) hS (by rw [held_cQ]; exact hV) r4.1 (by omega) r5.1 (by omega)
  have eLV : ∀ (lc : Nat) (l wo d : Int), lc ≤ 28 → lawV (held s) lc l wo d = lawV s lc l wo d := fun lc l wo d h => by
    unfold lawV
    rw [he (by omega), he (by omega)]
  have eC : ∀ p d, dyC (held s) p d = dyC s p d := fun p d => by
    unfold dyC
    rw [he (by decide), he (by decide), eLV _ _ _ _ (by decide)]
  have eP : ∀ p d, dyP (held s) p d = dyP s p d := fun p d => by
    unfold dyP dyS
    rw [he (by decide)]
  have eT : ∀ p d, dyT (held s) p d = dyT s p d := fun p d => by
    unfold dyT dyS
    rw [he (by decide), he (by decide), eLV _ _ _ _ (by decide)]
  have eI : ∀ (r : Nat) (p : Int → Int) (d m : Int), dyI (held s) r p d m = dyI s r p d m := by
    intro r
    induction r with
    | zero => intro p d m; rfl
    | succ r ih =>
      intro p d m
      unfold dyI
      rw [eP, eC, eT, ih]
  rw [eI, he (by decide), he (by decide)] at k2
  rw [eI] at h2
  have rgI := dyI_rg (s := s) (tilS s (s.1 6 4)).toNat (s.1 7) (s.1 6 4) (s.1 6 5)
  have T1 : ∀ j, (j < 0 ∨ 8 ≤ j) → (dyI s (tilS s (s.1 6 4)).toNat (s.1 7) (s.1 6 4) (s.1 6 5)).1 j = s.1 7 j := fun j hj => dyI_ne (by omega) hn0.1 _ _ _ _
  obtain ⟨v3, k3, h3, h3'⟩ := c_release2 (N := N) hN hI h2 T1
  have qs : sameQ s v3 := by
    refine ⟨fun b hb => ?_, ?_, ?_, ?_, fun j hj => ?_, ?_⟩
    · rw [h3 b (by omega) (by omega), he (by omega)]
    · rw [h3 1 (by decide) (by decide), he (by decide)]
    · rw [h3 63 (by decide) (by decide), he (by decide)]
    · rw [h3 63 (by decide) (by decide), he (by decide)]
    · rw [h3 78 (by decide) (by decide), he (by decide)]
    · rw [h3']
  obtain ⟨w2, m1, m2⟩ := m v3 qs
  rw [if_neg g] at m2
  have b1 := wIn_rg (p := (dyI s (tilS s (s.1 6 4)).toNat (s.1 7) (s.1 6 4) (s.1 6 5)).1) (wo := s.1 20) (n := (s.1 15 3).toNat) (by omega) hwo
  have b2 := wIn_rg (p := s.1 7) (wo := s.1 20) (n := (s.1 15 3).toNat) (by omega) hwo
  have cw := c_worth (N := N) (s := s) hN hw hwo
  rw [k3, i_o1_some, iov_ok (by omega) (by omega)] at k2
  refine OKc.q hI (s1 := v3) ?_ m2 m1
  unfold f155
  rw [if_neg (by omega), if_pos ha.2, ct, i_o2_some, if_neg g, cw, i_o2_some, iov_ok (by omega) (by omega)]
  dsimp only
  rw [c_hold, i_o1_some]
  exact k2
theorem q_awaitNo (ha : ¬ (0 ≤ a ∧ a ≤ 1)) : f155 N a s = none ∧ f275 N a s = some (0, iw s 63 0 1) := by
  refine ⟨?_, ?_⟩
  · unfold f155 f155_at9
    by_cases g : a < 0
    · rw [if_pos g]
    · rw [if_neg g, if_neg (by omega)]
  · unfold f275 f275_at15
    rw [m_within, i_o2_some, if_neg ha, if_pos rfl]
    dsimp only
    rw [iw_at, zup_same, if_neg (by decide)]
end AWAIT

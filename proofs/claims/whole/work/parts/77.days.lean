/-! Promise 12: days answered alike. -/
section DAYS
variable {N : Nat} {s u v c m : gI} {k b d mo : Int} {p q M : Int → Int} {Q R : Cf}
theorem hand_pr (hI : INV k s) (hk : 0 ≤ k) (h : actC s c) {G M P : Int → Int} (hG : kepG s G) (hm : pr (kepS c G) 0 M m) (h7 : c.1 7 = P) (hV : VV (cQ s) P) (hsc : scOK c) (hP : ∀ j, s.1 15 3 ≤ j → j < 8 → P j = 64)
    (hM : eq8 M P) (hM8 : ∀ j, 0 ≤ j → j < 8 → M (8 + j) = c.1 8 j) (hM4 : M 16 = c.1 6 4) (hM5 : M 17 = c.1 6 5) (hMo : ∀ j, 18 ≤ j → M j = G j) (h4 : 0 ≤ c.1 6 4 ∧ c.1 6 4 ≤ 100 * (k + 1)) (h5 : 0 ≤ c.1 6 5 ∧ c.1 6 5 ≤ 19800 * (k + 1)) :
    INV (k + 1) m := by
  have m78 : ∀ j, m.1 78 j = M j := fun j => by
    have := pr_at (t := j) hm
    rwa [Int.zero_add] at this
  have mne : ∀ a : Nat, a ≠ 63 → a ≠ 76 → a ≠ 77 → a ≠ 78 → m.1 a = c.1 a := fun a a1 a3 a4 a2 => by
    rw [hm.1 a a3 a4 a2, kepS_ne a1 a2]
  have m63 : m.1 63 = (kepS c G).1 63 := hm.1 63 (by decide) (by decide) (by decide)
  refine hand_fin hI hk h hG (m := m) ⟨fun a a1 a3 a4 a2 => ?_, ?_, ?_, ?_, ?_⟩ ?_
  · exact hm.1 a a3 a4 a2
  · rw [hm.2.1]
  · rw [m63]
  · rw [m63]
  · intro j j0 j1
    rw [m78, hMo j j0, kepS_78]
  · refine ⟨?_, ?_, ?_, ?_, ?_, ?_, ?_, ?_, ?_⟩
    · rw [mne 7 (by decide) (by decide) (by decide) (by decide), h7]; exact hV
    · unfold scOK at hsc ⊢
      rw [mne 9 (by decide) (by decide) (by decide) (by decide), mne 7 (by decide) (by decide) (by decide) (by decide), mne 15 (by decide) (by decide) (by decide) (by decide)]
      exact hsc
    · intro j j0 j1
      rw [m78, mne 7 (by decide) (by decide) (by decide) (by decide), h7]
      exact hM j j0 j1
    · intro j j0 j1
      rw [m78, mne 8 (by decide) (by decide) (by decide) (by decide)]
      exact hM8 j j0 j1
    · rw [m78, mne 6 (by decide) (by decide) (by decide) (by decide)]; exact hM4
    · rw [m78, mne 6 (by decide) (by decide) (by decide) (by decide)]; exact hM5
    · intro j j0 j1
      rw [mne 7 (by decide) (by decide) (by decide) (by decide), h7]
      exact hP j j0 j1
    · rw [mne 6 (by decide) (by decide) (by decide) (by decide)]; exact h4
    · rw [mne 6 (by decide) (by decide) (by decide) (by decide)]; exact h5
-- a day, told by places, day and what is paid, and by a row of the reference's
theorem dyC_eq (he : eq8 p M) (hn : (s.1 15 3).toNat ≤ 8) : dyC s p d = dyC s M d := by
  have e1 : cntAt p 66 (s.1 15 3).toNat = cntAt M 66 (s.1 15 3).toNat := cntAt_congr fun j hj => he j (by omega) (by omega)
  have e2 : cntL p (s.1 15 3).toNat = cntL M (s.1 15 3).toNat := cntL_congr fun j hj => he j (by omega) (by omega)
  have e3 : wL p (s.1 20) (s.1 15 3).toNat = wL M (s.1 20) (s.1 15 3).toNat := wL_congr (fun j hj => he j (by omega) (by omega)) fun _ _ => rfl
  unfold dyC
  rw [e1, e2, e3]
theorem dyS_eq (he : eq8 p M) (hn : (s.1 15 3).toNat ≤ 8) : dyS s p d ↔ dyS s M d := by
  have e2 : cntL p (s.1 15 3).toNat = cntL M (s.1 15 3).toNat := cntL_congr fun j hj => he j (by omega) (by omega)
  unfold dyS
  rw [e2]
theorem dyT_eq (he : eq8 p M) (hn : (s.1 15 3).toNat ≤ 8) : dyT s p d = dyT s M d := by
  have e2 : cntL p (s.1 15 3).toNat = cntL M (s.1 15 3).toNat := cntL_congr fun j hj => he j (by omega) (by omega)
  have e3 : wL p (s.1 20) (s.1 15 3).toNat = wL M (s.1 20) (s.1 15 3).toNat := wL_congr (fun j hj => he j (by omega) (by omega)) fun _ _ => rfl
  have e4 := dyS_eq (d := d) he hn
  unfold dyT
  by_cases g : dyS s p d
  · rw [if_pos g, if_pos (e4.1 g), e2, e3]
  · rw [if_neg g, if_neg (fun h => g (e4.2 h))]
theorem dyP_eq (he : eq8 p M) (hn : (s.1 15 3).toNat ≤ 8) : eq8 (dyP s p d) (dyP s M d) := by
  have e4 := dyS_eq (d := d) he hn
  unfold dyP
  by_cases g : dyS s p d
  · rw [if_pos g, if_pos (e4.1 g)]
    exact bk_eq _ 0 _ _ (by decide) (by omega) he
  · rw [if_neg g, if_neg (fun h => g (e4.2 h))]
    exact he
theorem VV_dyP (hV : VV Q p) : VV Q (dyP s p d) := by
  unfold dyP
  split
  · exact VV_bk _ 0 _ hV
  · exact hV
theorem dyP_ne {j : Int} (h : j < 0 ∨ s.1 15 3 ≤ j) (h0 : 0 ≤ s.1 15 3) : dyP s p d j = p j := by
  unfold dyP
  split
  · exact bk_ne _ _ _ (by omega)
  · rfl
def eqR (p : Int → Int) (d mo : Int) (M : Int → Int) : Prop := eq8 p M ∧ M 16 = d ∧ M 17 = mo
theorem dy_eqR (h : eqR p d mo M) (hn : (s.1 15 3).toNat ≤ 8) : eqR (dyP s p d) (d + 1) (mo + dyC s p d + dyT s p d) (dyR s M) := by
  obtain ⟨he, h16, h17⟩ := h
  unfold dyR
  refine ⟨fun j j0 j1 => ?_, ?_, ?_⟩
  · rw [zup_ne (by omega), zup_ne (by omega), h16]
    exact dyP_eq he hn j j0 j1
  · rw [zup_same, h16]
  · rw [zup_ne (by decide), zup_same, h16, h17, dyC_eq he hn, dyT_eq he hn]
theorem dyR_ne {j : Int} (h0 : 0 ≤ s.1 15 3 ∧ s.1 15 3 ≤ 8) (h : 8 ≤ j) (h16 : j ≠ 16) (h17 : j ≠ 17) : dyR s M j = M j := by
  unfold dyR
  rw [zup_ne h16, zup_ne h17, dyP_ne (by omega) h0.1]
/-- so many days -/
def dyI (s : gI) : Nat → (Int → Int) → Int → Int → (Int → Int) × Int × Int
  | 0, p, d, m => (p, d, m)
  | r + 1, p, d, m => dyI s r (dyP s p d) (d + 1) (m + dyC s p d + dyT s p d)
def dyRI (s : gI) : Nat → (Int → Int) → Int → Int
  | 0, M => M
  | r + 1, M => dyRI s r (dyR s M)
theorem dyI_eqR (hn : (s.1 15 3).toNat ≤ 8) : ∀ (r : Nat) (p : Int → Int) (d mo : Int) (M : Int → Int), eqR p d mo M → eqR (dyI s r p d mo).1 (dyI s r p d mo).2.1 (dyI s r p d mo).2.2 (dyRI s r M)
  | 0, _, _, _, _, h => h
  | r + 1, p, d, mo, M, h => by
    unfold dyI dyRI
    exact dyI_eqR hn r _ _ _ _ (dy_eqR h hn)
theorem VV_dyI : ∀ (r : Nat) (p : Int → Int) (d mo : Int), VV Q p → VV Q (dyI s r p d mo).1
  | 0, _, _, _, h => h
  | r + 1, p, d, mo, h => by
    unfold dyI
    exact VV_dyI r _ _ _ (VV_dyP h)
theorem dyI_ne {j : Int} (h : j < 0 ∨ s.1 15 3 ≤ j) (h0 : 0 ≤ s.1 15 3) : ∀ (r : Nat) (p : Int → Int) (d mo : Int), (dyI s r p d mo).1 j = p j
  | 0, _, _, _ => rfl
  | r + 1, p, d, mo => by
    unfold dyI
    rw [dyI_ne h h0 r, dyP_ne h h0]
theorem dyRI_ne {j : Int} (h0 : 0 ≤ s.1 15 3 ∧ s.1 15 3 ≤ 8) (h : 8 ≤ j) (h16 : j ≠ 16) (h17 : j ≠ 17) : ∀ (r : Nat) (M : Int → Int), dyRI s r M j = M j
  | 0, _ => rfl
  | r + 1, M => by
    unfold dyRI
    rw [dyRI_ne h0 h h16 h17 r, dyR_ne h0 h h16 h17]
theorem dyI_rg : ∀ (r : Nat) (p : Int → Int) (d mo : Int), (dyI s r p d mo).2.1 = d + r ∧ mo ≤ (dyI s r p d mo).2.2 ∧ (dyI s r p d mo).2.2 ≤ mo + 198 * r
  | 0, _, d, mo => ⟨(Int.add_zero d).symm, Int.le_refl _, by show mo ≤ mo + 198 * 0; omega⟩
  | r + 1, p, d, mo => by
    have ih := dyI_rg r (dyP s p d) (d + 1) (mo + dyC s p d + dyT s p d)
    have := dyC_rg (s := s) (p := p) (d := d)
    have := dyT_rg (s := s) (p := p) (d := d)
    unfold dyI
    omega
theorem c_days_lp {n : Int} (hN : 5000 ≤ N) (hw : cOK s) (hwo : cWo s) (h16 : 0 ≤ s.1 15 16 ∧ s.1 15 16 ≤ 6) (r0 : lawR s 0 25) (r1 : lawR s 1 28) (hn : n ≤ 100) : ∀ (r fuel : Nat) (i : Int) (v : gI) (p : Int → Int) (d mo : Int), r < fuel → 0 ≤ i → i + r = n → dcs s p d mo v → VV (cQ s) p → 0 ≤ d → d + r ≤ 900000 → 0 ≤ mo → mo + 198 * r ≤ 1900000000 →
    ∃ v2, f144_at26 N fuel n i v = some ((dyI s r p d mo).2.1, v2) ∧ dcs s (dyI s r p d mo).1 (dyI s r p d mo).2.1 (dyI s r p d mo).2.2 v2 := by
  intro r
  induction r with
  | zero =>
    intro fuel i v p d mo hf i0 e h hV d0 d1 m0 m1
    obtain ⟨fuel, rfl⟩ : ∃ g, fuel = g + 1 := ⟨fuel - 1, by omega⟩
    refine ⟨v, ?_, h⟩
    unfold f144_at26
    rw [if_pos (by omega), dcs_4 h]
    rfl
  | succ r ih =>
    intro fuel i v p d mo hf i0 e h hV d0 d1 m0 m1
    obtain ⟨fuel, rfl⟩ : ∃ g, fuel = g + 1 := ⟨fuel - 1, by omega⟩
    obtain ⟨v1, l1, h1⟩ := c_day hN hw hwo h16 r0 r1 h hV d0 (by omega) m0 (by omega)
    have rc := dyC_rg (s := s) (p := p) (d := d)
    have rt := dyT_rg (s := s) (p := p) (d := d)
    obtain ⟨v2, l2, h2⟩ := ih fuel (i + 1) v1 _ _ _ (by omega) (by omega) (by omega) h1 (VV_dyP hV) (by omega) (by omega) (by omega) (by omega)
    refine ⟨v2, ?_, h2⟩
    unfold f144_at26
    rw [if_neg (by omega), l1, i_o1_some, iov_ok (by omega) (by omega), l2]
    rfl
theorem VV_dyR (hn : Q.2.2.2.1 ≤ 8) (hV : VV Q M) : VV Q (dyR s M) :=
  VV_eq (Q := Q) (p := dyP s M (M 16)) ⟨rfl, rfl, rfl, fun _ _ => rfl, fun _ _ => rfl⟩ (fun j j0 j1 => by unfold dyR; rw [zup_ne (by omega), zup_ne (by omega)]) hn (VV_dyP hV)
theorem dyR_16 : dyR s M 16 = M 16 + 1 := by unfold dyR; rw [zup_same]
theorem dyR_17 : dyR s M 17 = M 17 + dyC s M (M 16) + dyT s M (M 16) := by unfold dyR; rw [zup_ne (by decide), zup_same]
theorem m_days_lp {n : Int} (hN : 5000 ≤ N) (hw : mOK u) (hwo : mWo u) (e71 : u.1 71 = s.1 71) (e72 : u.1 72 = s.1 72) (e73 : u.1 73 = s.1 73) (e3 : u.1 71 1 = s.1 15 3) (e16 : u.1 71 7 = s.1 15 16) (h16 : 0 ≤ s.1 15 16 ∧ s.1 15 16 ≤ 6) (ewo : ∀ t : Nat, t < (s.1 15 3).toNat → mwo u t = s.1 20 t) (r0 : lawR s 0 25) (r1 : lawR s 1 28) (hn : n ≤ 100) : ∀ (r fuel : Nat) (i : Int) (v : gI) (M : Int → Int), r < fuel → 0 ≤ i → i + r = n → pr u 0 M v → VV (mQ u) M → 0 ≤ M 16 → M 16 + r ≤ 900000 → 0 ≤ M 17 → M 17 + 198 * r ≤ 1900000000 →
    ∃ v2, f256_at23 N fuel n i v = some (dyRI s r M 16, v2) ∧ pr u 0 (dyRI s r M) v2 := by
  intro r
  have en : (mQ u).2.2.2.1 = (u.1 71 1).toNat := rfl
  have hn2 := hw.2.2
  induction r with
  | zero =>
    intro fuel i v M hf i0 e h hV d0 d1 m0 m1
    obtain ⟨fuel, rfl⟩ : ∃ g, fuel = g + 1 := ⟨fuel - 1, by omega⟩
    refine ⟨v, ?_, h⟩
    have := pr_at (t := 16) h
    rw [Int.zero_add] at this
    unfold f256_at23
    rw [if_pos (by omega), ick_ok (by omega) (by omega), this]
    rfl
  | succ r ih =>
    intro fuel i v M hf i0 e h hV d0 d1 m0 m1
    obtain ⟨fuel, rfl⟩ : ∃ g, fuel = g + 1 := ⟨fuel - 1, by omega⟩
    obtain ⟨v1, l1, h1⟩ := m_day hN hw hwo (by decide : (0 : Int) ≤ 0) (by decide) e71 e72 e73 e3 e16 h16 ewo r0 r1 hV h ⟨d0, by omega⟩ ⟨m0, by omega⟩
    have rc := dyC_rg (s := s) (p := M) (d := M 16)
    have rt := dyT_rg (s := s) (p := M) (d := M 16)
    obtain ⟨v2, l2, h2⟩ := ih fuel (i + 1) v1 _ (by omega) (by omega) (by omega) h1 (VV_dyR (by omega) hV) (by rw [dyR_16]; omega) (by rw [dyR_16]; omega) (by rw [dyR_17]; omega) (by rw [dyR_17]; omega)
    refine ⟨v2, ?_, h2⟩
    unfold f256_at23
    rw [if_neg (by omega), l1, i_o1_some, iov_ok (by omega) (by omega), l2]
    rfl
theorem dcs_self (hs : scOK s) : dcs s (s.1 7) (s.1 6 4) (s.1 6 5) s := by
  refine ⟨fun _ _ _ _ _ _ => rfl, rfl, rfl, ?_, ?_⟩
  · funext c
    unfold whof
    split
    · rename_i q; exact hs c q.1 q.2
    · rfl
  · rw [zup_self, zup_self]
theorem pr_self : pr u b (sh b (u.1 78)) u := ⟨fun _ _ _ _ => rfl, rfl, by rw [unsh_sh]⟩
theorem lawR_eq {t : gI} {w : Int} {lc : Nat} (h : lawR s w lc) (e71 : t.1 71 = s.1 71) (e72 : t.1 72 = s.1 72) (e73 : t.1 73 = s.1 73) (el : t.1 lc = s.1 lc) (el1 : t.1 (lc + 1) = s.1 (lc + 1)) : lawR t w lc := by
  unfold lawR at h ⊢
  rw [e71, e72, e73, el, el1]
  exact h
theorem q_days (hN : 5000 ≤ N) (hI : INV k s) (hk : 0 ≤ k) (hk2 : k ≤ 5000) {n : Int} : OKc k s (f144 N n) (f256 N n) := by
  obtain ⟨e0, e1, e2, e3, e4⟩ := INV_eq hI
  by_cases hz : 1 ≤ n ∧ n ≤ 100
  rotate_left
  · refine OKc.q hI (x := -1) (s1 := s) (s2 := iw s 63 0 0) ?_ ?_ sameQ_thrown
    · unfold f144
      by_cases g : n < 1
      · rw [if_pos g]
      · rw [if_neg g, if_neg (by omega)]
    · unfold f256
      dsimp only
      rw [m_within, i_o2_some, if_neg hz, if_pos rfl]
  have hw := hI.1.1.1
  have sc := hI.1.1.2.1
  have hV := hI.1.1.2.2.1
  have hwo := hI.1.1.2.2.2.2
  have i2 := hI.2.1
  have hn := cW_n hw
  have hn0 := hw.2.2.1
  have en : (cQ s).2.2.2.1 = (s.1 15 3).toNat := rfl
  obtain ⟨u1, u2, u3, -⟩ := hI.2.2.2.2.1
  obtain ⟨-, -, -, -, -, -, -, -, -, -, i31, i316⟩ := hI.2.2.1
  obtain ⟨-, -, -, -, -, -, -, l0, l1⟩ := id hI
  have r4 := i2.2.2.2.2.2.2.1
  have r5 := i2.2.2.2.2.2.2.2
  have re : ∀ {a : Nat}, a ≠ 41 → a ≠ 42 → (remS s).1 a = s.1 a := fun h1 h2 => remS_ne h1 h2
  have hS : dcs (remS s) (s.1 7) (s.1 6 4) (s.1 6 5) (remS s) := by
    have := dcs_self (remS_sc sc)
    rwa [re (by decide) (by decide), re (by decide) (by decide)] at this
  have hwoR : cWo (remS s) := by unfold cWo; rw [re (by decide) (by decide)]; exact hwo
  have lr0 : lawR (remS s) 0 25 := lawR_eq l0 (re (by decide) (by decide)) (re (by decide) (by decide)) (re (by decide) (by decide)) (re (by decide) (by decide)) (re (by decide) (by decide))
  have lr1 : lawR (remS s) 1 28 := lawR_eq l1 (re (by decide) (by decide)) (re (by decide) (by decide)) (re (by decide) (by decide)) (re (by decide) (by decide)) (re (by decide) (by decide))
  obtain ⟨c, lc, hc⟩ := c_days_lp (N := N) (s := remS s) (n := n) hN (remS_OK hw) hwoR (by rw [re (by decide) (by decide)]; exact i316) lr0 lr1 hz.2 n.toNat N 0 (remS s) (s.1 7) (s.1 6 4) (s.1 6 5) (by omega) (by decide) (by omega) hS (by rw [remS_Q]; exact hV) r4.1 (by omega) r5.1 (by omega)
  have rg := dyI_rg (s := remS s) n.toNat (s.1 7) (s.1 6 4) (s.1 6 5)
  generalize hT : dyI (remS s) n.toNat (s.1 7) (s.1 6 4) (s.1 6 5) = T at lc hc rg
  have cfin : f144 N n s = some (T.2.1, c) := by
    unfold f144
    rw [if_neg (by omega), if_pos hz.2, c_remember u3 u2, i_o1_some, lc]
  have hact : actC s c := by
    refine ⟨fun a a6 a7 a8 a9 a41 a42 a27 a30 => ?_, hc.2.1, ?_, ?_⟩
    · rw [hc.1 a a6 a7 a9 a27 a30, re a41 a42]
    · exact hc.1 41 (by decide) (by decide) (by decide) (by decide) (by decide)
    · exact hc.1 42 (by decide) (by decide) (by decide) (by decide) (by decide)
  obtain ⟨G, hG1, hG2⟩ := hand_keep hN hI hact
  have hE := hI.1.2.2.1
  have e8 := kep_eq8 hI hG2
  have hVm : VV (mQ s) (sh 0 G) := VV_eq hE e8 hn hV
  have hmo := actC_mOK hact hI.1.2.1
  have eqm := kep_mQ hI hact (G := G)
  have ke : ∀ a : Nat, 69 ≤ a → a ≤ 75 → (kepS c G).1 a = s.1 a := fun a a1 a2 => by
    rw [kepS_ne (by omega) (by omega), hact.1 a (by omega) (by omega) (by omega) (by omega) (by omega) (by omega) (by omega) (by omega)]
  have r5m := hI.1.2.2.2.2
  have g16 : sh 0 G 16 = s.1 6 4 := by rw [sh_at, hG2.1 _ (by decide)]; exact i2.2.1
  have g17 : sh 0 G 17 = s.1 6 5 := by rw [sh_at, hG2.1 _ (by decide)]; exact i2.2.2.1
  have hp : pr (kepS c G) 0 (sh 0 G) (kepS c G) := by
    have := pr_self (u := kepS c G) (b := 0)
    rwa [kepS_78] at this
  have hmw : mWo (kepS c G) := by
    unfold mWo
    rw [ke 71 (by decide) (by decide)]
    exact r5m.2.2.2.2.2
  obtain ⟨m, lm, hm⟩ := m_days_lp (N := N) (s := remS s) (u := kepS c G) (n := n) hN (kepS_OK hmo) hmw (by rw [ke 71 (by decide) (by decide), re (by decide) (by decide)]) (by rw [ke 72 (by decide) (by decide), re (by decide) (by decide)]) (by rw [ke 73 (by decide) (by decide), re (by decide) (by decide)]) (by rw [ke 71 (by decide) (by decide), re (by decide) (by decide)]; exact e3) (by rw [ke 71 (by decide) (by decide), re (by decide) (by decide)]; exact i31) (by rw [re (by decide) (by decide)]; exact i316)
    (fun t ht => by
      rw [re (by decide) (by decide)] at ht ⊢
      unfold mwo
      rw [ke 71 (by decide) (by decide)]
      exact hI.1.2.2.2.2.2.2.2.2.1 t (by omega) (by omega)) lr0 lr1 hz.2 n.toNat N 0 (kepS c G) (sh 0 G) (by omega) (by decide) (by omega) hp (by rw [eqm]; exact hVm) (by rw [g16]; exact r4.1) (by rw [g16]; omega) (by rw [g17]; exact r5.1) (by rw [g17]; omega)
  have eR := dyI_eqR (s := remS s) (by rw [re (by decide) (by decide)]; omega) n.toNat (s.1 7) (s.1 6 4) (s.1 6 5) (sh 0 G) ⟨e8, g16, g17⟩
  rw [hT] at eR
  obtain ⟨q1, q2, q3⟩ := eR
  have mfin : f256 N n c = some (T.2.1, m) := by
    unfold f256
    dsimp only
    rw [m_within, i_o2_some, if_pos hz, if_neg (by decide), hG1, i_o1_some, lm, q2]
  refine ⟨_, _, _, cfin, mfin, ?_⟩
  have rn0 : 0 ≤ (remS s).1 15 3 ∧ (remS s).1 15 3 ≤ 8 := by rw [re (by decide) (by decide)]; exact hn0
  have out : ∀ j : Int, 8 ≤ j → j ≠ 16 → j ≠ 17 → dyRI (remS s) n.toNat (sh 0 G) j = G j := fun j hj h1 h2 => by
    rw [dyRI_ne rn0 hj h1 h2, sh_at, Int.zero_add]
  have c8 : c.1 8 = s.1 8 := by rw [hc.1 8 (by decide) (by decide) (by decide) (by decide) (by decide), re (by decide) (by decide)]
  have c4 : c.1 6 4 = T.2.1 := dcs_4 hc
  have c5 : c.1 6 5 = T.2.2 := dcs_5 hc
  have c15 : c.1 15 = s.1 15 := by rw [hc.1 15 (by decide) (by decide) (by decide) (by decide) (by decide), re (by decide) (by decide)]
  have csc : scOK c := by
    intro z z0 z1
    rw [hc.2.2.2.1, hc.2.2.1, c15]
    unfold whof
    rw [if_pos ⟨z0, z1⟩, remS_Q]
    rfl
  have T1V : VV (cQ s) T.1 := by rw [← hT]; exact VV_dyI n.toNat _ _ _ hV
  refine hand_pr hI hk hact hG2 hm hc.2.2.1 T1V csc (fun j j0 j1 => ?_) q1.sy (fun j j0 j1 => ?_) ?_ ?_ (fun j j0 => out j (by omega) (by omega) (by omega)) (by rw [c4]; omega) (by rw [c5]; omega)
  · rw [← hT, dyI_ne (Or.inr (by rw [re (by decide) (by decide)]; exact j0)) (by omega)]
    exact i2.2.2.2.2.2.1 j j0 j1
  · rw [out _ (by omega) (by omega) (by omega), hG2.1 _ (by omega), c8]
    exact i2.1 j j0 j1
  · rw [c4, q2]
  · rw [c5, q3]
end DAYS

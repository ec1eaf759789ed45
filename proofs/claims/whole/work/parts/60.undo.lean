/-! Promise 15: undo answered alike. -/
section UNDO
variable {N : Nat} {s u c m t : gI} {k : Int} {p q : Int → Int} {Q : Cf}
theorem q_undo (hN : 5000 ≤ N) (hI : INV k s) : OKc k s (f146 N) (f258 N) := by
  obtain ⟨u1, u2, u3, u4, u5, u6⟩ := hI.2.2.2.2.1
  have hw := hI.1.1.1
  have hn := cW_n hw
  have hn0 := hw.2.2.1
  have en : (cQ s).2.2.2.1 = (s.1 15 3).toNat := rfl
  by_cases g : s.1 41 4 = 0
  · refine OKc.q hI (x := 0) (s1 := s) (s2 := iw s 63 0 0) ?_ ?_ sameQ_thrown
    · unfold f146 f43
      rw [if_pos g, ib1_ok (Or.inl rfl), i_o2_some, ib1_ok (Or.inl rfl)]
    · unfold f258
      dsimp only
      rw [iw_at, zup_ne (by decide), u1, if_pos g, ib1_ok (Or.inl rfl)]
  generalize hr : (s.1 41 3 + 16 - 1) % 16 = r
  have hr0 : 0 ≤ r := by omega
  have hr1 : r < 16 := by omega
  obtain ⟨⟨rE1, rE2, rE3⟩, rV1, rV2, rV3, rV4⟩ := u4 (s.1 41 4 - 1) (by omega) (by omega)
  have er : (s.1 41 3 + 16 - s.1 41 4 + (s.1 41 4 - 1)) % 16 = r := by rw [← hr]; congr 1; omega
  rw [er] at rE1 rE2 rE3 rV1 rV2 rV3 rV4
  -- the class
  have hs2 : iw (iw s 41 4 (s.1 41 4 - 1)) 41 3 r = ic s 41 (zup (zup (s.1 41) 4 (s.1 41 4 - 1)) 3 r) := by
    simp only [iw_ic, ic_ic, ic_at]
  have n41 : ∀ a : Nat, a ≠ 41 → (ic s 41 (zup (zup (s.1 41) 4 (s.1 41 4 - 1)) 3 r)).1 a = s.1 a := fun a h => ic_ne h
  have hpl : ∀ j : Nat, j < 8 → 0 ≤ s.1 42 (26 * r + j) ∧ s.1 42 (26 * r + j) < 192 := fun j hj => by
    by_cases hj2 : (j : Int) < s.1 15 3
    · have := okq_rg (rV1 j (by omega))
      rw [sh_at] at this
      omega
    · have := rV2 j (by omega) (by omega)
      omega
  obtain ⟨v, v0, v1, v2, v3, v4, v5, v6, v7, v8, v9⟩ := c_load (N := N) (s := ic s 41 (zup (zup (s.1 41) 4 (s.1 41 4 - 1)) 3 r)) (r := 42) (zn := 416) (row := r) hN (by decide) hr0 (by omega) (by decide) (by rw [n41 42 (by decide)]; exact hpl)
  rw [n41 42 (by decide)] at v3 v5 v6 v7
  have v41 : v.1 41 = zup (zup (s.1 41) 4 (s.1 41 4 - 1)) 3 r := by rw [v1 41 (by decide) (by decide) (by decide) (by decide), ic_at]
  have vne : ∀ a : Nat, a ≠ 6 → a ≠ 7 → a ≠ 8 → a ≠ 9 → a ≠ 41 → v.1 a = s.1 a := fun a a6 a7 a8 a9 a1 => by rw [v1 a a6 a7 a8 a9, n41 a a1]
  have cfin : f146 N s = some (1, v) := by
    unfold f146 f43
    rw [if_neg g, iov_ok (by omega) (by omega)]
    dsimp only
    have e3 : (iw s 41 4 (s.1 41 4 - 1)).1 41 3 = s.1 41 3 := by rw [iw_at, zup_ne (by decide)]
    rw [e3, iov_ok (by omega) (by omega), iov_ok (by omega) (by omega), idv_ok (by omega) (by decide), hr, hs2, ic_at, zup_same, v0, i_o1_some, ib1_ok (Or.inr rfl), i_o2_some, ib1_ok (Or.inr rfl)]
  -- the reference
  have v63 := vne 63 (by decide) (by decide) (by decide) (by decide) (by decide)
  have v78 := vne 78 (by decide) (by decide) (by decide) (by decide) (by decide)
  have mfin : f258 N v = some (1, cop (iw (iw v 63 0 0) 63 23 (s.1 41 4 - 1)) (28 * (5 + (s.1 41 4 - 1))) 0) := by
    unfold f258
    dsimp only
    have e1 : (iw v 63 0 0).1 63 23 = s.1 41 4 := by rw [iw_at, zup_ne (by decide), v63, u1]
    rw [e1, if_neg g, iov_ok (by omega) (by omega)]
    have e2 : (iw (iw v 63 0 0) 63 23 (s.1 41 4 - 1)).1 63 23 = s.1 41 4 - 1 := by rw [iw_at, zup_same]
    rw [e2, iov_ok (by omega) (by omega), iov_ok (by omega) (by omega), m_copies hN (by omega) (by decide) (by decide) (by omega) (by decide) (by omega), i_o1_some, ib1_ok (Or.inr rfl)]
    rfl
  refine ⟨1, v, _, cfin, mfin, INV_mono (k := k) (by omega) ?_⟩
  generalize ht : cop (iw (iw v 63 0 0) 63 23 (s.1 41 4 - 1)) (28 * (5 + (s.1 41 4 - 1))) 0 = t
  have tne : ∀ a : Nat, a ≠ 63 → a ≠ 78 → t.1 a = v.1 a := fun a a1 a2 => by
    rw [← ht]
    unfold cop
    rw [ic_ne a2, iw_ne a1, iw_ne a1]
  have tne' : ∀ a : Nat, a ≠ 6 → a ≠ 7 → a ≠ 8 → a ≠ 9 → a ≠ 41 → a ≠ 63 → a ≠ 78 → t.1 a = s.1 a := fun a a6 a7 a8 a9 a1 a2 a3 => by rw [tne a a2 a3, vne a a6 a7 a8 a9 a1]
  have t78a : ∀ j, 0 ≤ j → j < 18 → t.1 78 j = s.1 78 (28 * (5 + (s.1 41 4 - 1)) + j) := fun j j0 j1 => by
    have := cop_sh (s := iw (iw v 63 0 0) 63 23 (s.1 41 4 - 1)) (a := 28 * (5 + (s.1 41 4 - 1))) (b := 0) j0 j1
    rw [ht, sh_at, sh_at, Int.zero_add, iw_ne (by decide), iw_ne (by decide), v78] at this
    exact this
  have t78b : ∀ j, 18 ≤ j → t.1 78 j = s.1 78 j := fun j j0 => by
    rw [← ht, cop_out (by omega), iw_ne (by decide), iw_ne (by decide), v78]
  have t63 : ∀ i : Int, i ≠ 0 → t.1 63 i = zup (s.1 63) 23 (s.1 41 4 - 1) i := fun i i0 => by
    rw [← ht]
    unfold cop
    rw [ic_ne (by decide), iw_at, iw_at, v63]
    by_cases h : i = 23
    · subst h; rw [zup_same, zup_same]
    · rw [zup_ne h, zup_ne h, zup_ne i0]
  have t7 := tne 7 (by decide) (by decide)
  have hst : stat s t := by
    refine ⟨fun a ha => tne' a (by omega) (by omega) (by omega) (by omega) (by omega) (by omega) (by omega), by rw [tne' 1 (by decide) (by decide) (by decide) (by decide) (by decide) (by decide) (by decide)], by rw [t63 2 (by decide), zup_ne (by decide)], ?_⟩
    rw [← ht]
    show v.2 68 = s.2 68
    rw [v2]
    rfl
  have p64 : ∀ j, s.1 15 3 ≤ j → j < 8 → t.1 7 j = 64 := fun j j0 j1 => by rw [t7, v3 j (by omega) j1]; exact rV2 j j0 j1
  refine INV_scene hI hst ⟨?_, ?_, ?_, ?_, ?_, ?_, p64, ?_, ?_⟩ ?_ ?_
  · intro j hj
    have e : ∀ i : Nat, i < (cQ s).2.2.2.1 → t.1 7 i = sh (26 * r) (s.1 42) i := fun i hi => by rw [t7, v3 i (by omega) (by omega), sh_at]
    rw [e j hj]
    exact okq_mono (fun i hi _ => e i hi) (rV1 j hj)
  · unfold scOK
    intro d d0 d1
    rw [tne 9 (by decide) (by decide), t7, v8 d d0 d1, tne' 15 (by decide) (by decide) (by decide) (by decide) (by decide) (by decide) (by decide)]
    refine occ2_ext 8 (by omega) fun j j0 j1 => ?_
    have := p64 j (by omega) (by omega)
    rw [t7] at this
    rw [this, co_64]
    omega
  · intro j j0 j1
    rw [t78a j j0 (by omega), t7, v3 j j0 j1]
    exact rE1 j j0 (by omega)
  · intro j j0 j1
    rw [t78a _ (by omega) (by omega), tne 8 (by decide) (by decide), v5 j j0 j1, rE1 (8 + j) (by omega) (by omega), show 26 * r + (8 + j) = 26 * r + 8 + j by omega]
  · rw [t78a _ (by decide) (by decide), tne 6 (by decide) (by decide), v6]
    exact rE2
  · rw [t78a _ (by decide) (by decide), tne 6 (by decide) (by decide), v7]
    exact rE3
  · rw [tne 6 (by decide) (by decide), v6]; exact rV3
  · rw [tne 6 (by decide) (by decide), v7]; exact rV4
  · intro x x0 x1
    rw [t78b _ (by omega), tne' 10 (by decide) (by decide) (by decide) (by decide) (by decide) (by decide) (by decide)]
    exact hI.2.1.2.2.2.1 x x0 x1
  · have t41 : t.1 41 = zup (zup (s.1 41) 4 (s.1 41 4 - 1)) 3 r := by rw [tne 41 (by decide) (by decide), v41]
    have t42 := tne' 42 (by decide) (by decide) (by decide) (by decide) (by decide) (by decide) (by decide)
    have t43 := tne' 43 (by decide) (by decide) (by decide) (by decide) (by decide) (by decide) (by decide)
    have t79 := tne' 79 (by decide) (by decide) (by decide) (by decide) (by decide) (by decide) (by decide)
    have f3 : t.1 41 3 = r := by rw [t41, zup_same]
    have f4 : t.1 41 4 = s.1 41 4 - 1 := by rw [t41, zup_ne (by decide), zup_same]
    have f2 : t.1 41 2 = s.1 41 2 := by rw [t41, zup_ne (by decide), zup_ne (by decide)]
    have rE : ∀ (c : Nat) (row b : Int), (c = 42 ∨ c = 43) → 18 ≤ b → rowE s c row b → rowE t c row b := by
      intro c row b hc hb he
      have ec : t.1 c = s.1 c := by rcases hc with h | h <;> subst h <;> assumption
      refine ⟨fun j j0 j1 => ?_, ?_, ?_⟩
      · rw [t78b _ (by omega), ec]; exact he.1 j j0 j1
      · rw [t78b _ (by omega), ec]; exact he.2.1
      · rw [t78b _ (by omega), ec]; exact he.2.2
    have rV : ∀ (c : Nat) (row : Int), (c = 42 ∨ c = 43) → rowV k s c row → rowV k t c row := by
      intro c row hc he
      have ec : t.1 c = s.1 c := by rcases hc with h | h <;> subst h <;> assumption
      exact stat_rowV hst he (fun j _ _ => by rw [ec]) hw
    refine ⟨?_, ?_, ?_, ?_, ?_, ?_⟩
    · rw [t63 23 (by decide), zup_same, f4]
    · rw [f4]; omega
    · rw [f3]; omega
    · intro i i0 i1
      rw [f4] at i1
      rw [f3, f4]
      have := u4 i i0 (by omega)
      have ei : (r + 16 - (s.1 41 4 - 1) + i) % 16 = (s.1 41 3 + 16 - s.1 41 4 + i) % 16 := by omega
      rw [ei]
      exact ⟨rE 42 _ _ (Or.inl rfl) (by omega) this.1, rV 42 _ (Or.inl rfl) this.2⟩
    · rw [f2]; exact u5
    · intro i i0 i1
      obtain ⟨w1, w2, w3⟩ := u6 i i0 i1
      rw [t79, f2]
      refine ⟨w1, w2, fun h => ?_⟩
      obtain ⟨w4, w5, w6, w7⟩ := w3 h
      refine ⟨rE 43 _ _ (Or.inr rfl) (by omega) w4, rV 43 _ (Or.inr rfl) w5, fun x x0 x1 => ?_, ?_⟩
      · rw [t78b _ (by omega), t43]; exact w6 x x0 x1
      · unfold seenV at w7 ⊢
        rw [hst.1 12 (by omega), t43]
        exact w7
end UNDO

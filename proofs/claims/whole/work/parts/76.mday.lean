/-! A day passes: the reference. -/
section MDAY
variable {N : Nat} {s u v : gI} {k b w l wo d : Int} {p q M : Int → Int} {Q R : Cf} {lc : Nat}
def pr (u : gI) (b : Int) (M : Int → Int) (v : gI) : Prop := (∀ a : Nat, a ≠ 76 → a ≠ 77 → a ≠ 78 → v.1 a = u.1 a) ∧ v.2 = u.2 ∧ v.1 78 = unsh b M
theorem pr_law {a : Nat} {A : Int → Int} (ha : a = 76 ∨ a = 77) (h : pr u b M v) : pr u b M (ic v a A) := by
  refine ⟨fun c c1 c2 c3 => ?_, h.2.1, ?_⟩
  · rw [ic_ne (by omega)]; exact h.1 c c1 c2 c3
  · rw [ic_ne (by omega)]; exact h.2.2
theorem pr_w {t x : Int} (h : pr u b M v) : pr u b (zup M t x) (iw v 78 (b + t) x) := by
  refine ⟨fun c c1 c2 c3 => ?_, h.2.1, ?_⟩
  · rw [iw_ne c3]; exact h.1 c c1 c2 c3
  · rw [iw_at, h.2.2, zup_unsh]
theorem pr_at {t : Int} (h : pr u b M v) : v.1 78 (b + t) = M t := by
  rw [h.2.2]
  unfold unsh
  rw [show b + t - b = t by omega]
theorem pr_Q (h : pr u b M v) : mQ v = mQ u := by
  unfold mQ
  rw [h.1 69 (by decide) (by decide) (by decide), h.1 71 (by decide) (by decide) (by decide)]
theorem pr_OK (h : pr u b M v) (hw : mOK u) : mOK v := by
  unfold mOK
  rw [h.1 69 (by decide) (by decide) (by decide), h.1 71 (by decide) (by decide) (by decide)]
  exact hw
theorem m_isLost {z : Int} (h : z = 64 ∨ z = 65 ∨ (0 ≤ z ∧ z < 64) ∨ (128 ≤ z ∧ z < 192)) : f253 N z s = some (if z = 64 then 0 else if z = 65 then 0 else 1, s) := by
  unfold f253
  rcases h with g | g | g | g
  · subst g; rw [if_neg (by decide), if_pos (by decide), ib1_ok (Or.inl rfl)]; rfl
  · subst g; rw [if_neg (by decide), if_pos (by decide), ib1_ok (Or.inl rfl)]; rfl
  · rw [if_pos (by omega), ib1_ok (Or.inr rfl), if_neg (by omega), if_neg (by omega)]
  · rw [if_neg (by omega), if_neg (by omega), ib1_ok (Or.inr rfl), if_neg (by omega), if_neg (by omega)]
theorem m_clp {z : Int} : f254_at142 N z s = some (clp z, s) := by
  unfold f254_at142 clp
  split
  · split <;> rfl
  · rfl
theorem cntL_S {n : Nat} : cntL p (n + 1) = cntL p n + (if p n = 64 then 0 else if p n = 65 then 0 else 1) := rfl
theorem wL_S {n : Nat} {g : Int → Int} : wL p g (n + 1) = wL p g n + (if p n = 64 then 0 else if p n = 65 then 0 else g n) := rfl
theorem cntAt_S {n : Nat} {z : Int} : cntAt p z (n + 1) = cntAt p z n + (if tol (p n) = z then 1 else 0) := rfl
theorem cntL_rg : ∀ n : Nat, 0 ≤ cntL p n ∧ cntL p n ≤ n
  | 0 => ⟨Int.le_refl _, Int.le_refl _⟩
  | n + 1 => by
    have := cntL_rg n
    rw [cntL_S]
    split
    · omega
    · split <;> omega
theorem cntAt_rg {z : Int} : ∀ n : Nat, 0 ≤ cntAt p z n ∧ cntAt p z n ≤ n
  | 0 => ⟨Int.le_refl _, Int.le_refl _⟩
  | n + 1 => by
    have := cntAt_rg (z := z) n
    rw [cntAt_S]
    split <;> omega
theorem wL_rg {g : Int → Int} (hg : ∀ t, 0 ≤ t → t < 8 → 0 ≤ g t ∧ g t ≤ 99) : ∀ n : Nat, n ≤ 8 → 0 ≤ wL p g n ∧ wL p g n ≤ 99 * n
  | 0, _ => ⟨Int.le_refl _, Int.le_refl _⟩
  | n + 1, h => by
    have := wL_rg hg n (by omega)
    have := hg n (by omega) (by omega)
    rw [wL_S]
    split
    · omega
    · split <;> omega
/-- what a law of the reference's comes to -/
theorem m_lawAt_lp (hN : 5000 ≤ N) (hw : mOK u) (hwo : mWo u) (hb0 : 0 ≤ b) (hb : b ≤ 680) (h01 : w = 0 ∨ w = 1) (e71 : u.1 71 = s.1 71) (e72 : u.1 72 = s.1 72) (e73 : u.1 73 = s.1 73) (hr : lawR s w lc) (hM : VV (mQ u) M) : ∀ (r fuel t : Nat) (A : Int → Int) (v : gI), r < fuel → t + r = (mQ u).2.2.2.1 → pr u b M v → A 0 = cntL M t → A 1 = wL M (mwo u) t → A 2 = d →
    ∃ v2, f254_at31 N fuel b w t (ic v 76 A) = some (lawV s lc (cntL M (mQ u).2.2.2.1) (wL M (mwo u) (mQ u).2.2.2.1) d, v2) ∧ pr u b M v2 := by
  intro r
  have en : (mQ u).2.2.2.1 = (u.1 71 1).toNat := rfl
  have hn := hw.2.2
  induction r with
  | zero =>
    intro fuel t A v hf e hp a0 a1 a2
    obtain ⟨fuel, rfl⟩ : ∃ g, fuel = g + 1 := ⟨fuel - 1, by omega⟩
    have ht : t = (mQ u).2.2.2.1 := by omega
    rw [ht] at a0 a1
    have v71 : ∀ A : Int → Int, (ic v 76 A).1 71 = u.1 71 := fun A => by rw [ic_ne (by decide), hp.1 71 (by decide) (by decide) (by decide)]
    unfold f254_at31
    rw [m_things, i_o2_some, v71, if_pos (by omega), iov_ok (by omega) (by omega), ick_ok (by omega) (by omega)]
    dsimp only
    rw [e71]
    rcases hr with ⟨h1, h2, h3⟩ | ⟨h1, h2, h3, h4, h5, h6, h7⟩
    · have e0 : s.1 (lc + 1) ((0 : Nat) : Int) = if w = 0 then 10000 else 1 := h3
      have es : ∀ x y z : Int, lawV s lc x y z = clp (if w = 0 then x else 1) := fun x y z => by
        unfold lawV
        rw [h2]
        show clp ((if s.1 (lc + 1) ((0 : Nat) : Int) < 10003 then zup (fun _ => 0) 0 (cva x y z (s.1 (lc + 1) ((0 : Nat) : Int))) else _) 0) = _
        rw [e0, if_pos (by split <;> decide), zup_same]
        congr 1
        unfold cva
        rcases h01 with g | g <;> subst g
        · rw [if_pos rfl, if_pos rfl, if_pos rfl]
        · rw [if_neg (show ¬ (1 : Int) = 0 by decide), if_neg (by decide), if_neg (by decide), if_neg (by decide), if_neg (by decide)]
      rw [h1, if_neg (by decide), es]
      by_cases g : w = 0
      · rw [if_pos g, if_pos g, ick_ok (by omega) (by omega), m_clp, ic_at, a0]
        exact ⟨_, rfl, pr_law (Or.inl rfl) hp⟩
      · rw [if_neg g, if_neg g, m_clp]
        exact ⟨_, rfl, pr_law (Or.inl rfl) hp⟩
    · have f72 : (ic v 76 A).1 72 = s.1 72 := by rw [ic_ne (by decide), hp.1 72 (by decide) (by decide) (by decide), e72]
      have f73 : (ic v 76 A).1 73 = s.1 73 := by rw [ic_ne (by decide), hp.1 73 (by decide) (by decide) (by decide), e73]
      have en2 : ((s.1 lc 2).toNat : Int) = s.1 lc 2 := by omega
      obtain ⟨C2, l1⟩ := m_law_lp (N := N) (s := ic v 76 A) (f := s.1 (lc + 1)) (l := cntL M (mQ u).2.2.2.1) (w := wL M (mwo u) (mQ u).2.2.2.1) (d := d) (n := (s.1 lc 2).toNat) (A := s.1 71 (8 + w)) h1 (by omega) (by rw [f72, en2]; exact h5) (fun i i0 i1 => by rw [f72, f73]; exact h6 i (by omega) (by omega)) (by rw [ic_at]; exact a0) (by rw [ic_at]; exact a1) (by rw [ic_at]; exact a2) h7 (s.1 lc 2).toNat N 0 ((ic v 76 A).1 77) (by omega) (by omega) (fun j j0 j1 => by unfold depC at j1; omega)
      rw [ic_self] at l1
      have l2 : f213 N (s.1 71 (8 + w)) (ic v 76 A) = some (stk (s.1 (lc + 1)) (cntL M (mQ u).2.2.2.1) (wL M (mwo u) (mQ u).2.2.2.1) d (s.1 lc 2).toNat 0, ic (ic v 76 A) 77 C2) := by
        have e0 : s.1 71 (8 + w) + ((0 : Nat) : Int) = s.1 71 (8 + w) := Int.add_zero _
        rw [e0] at l1
        exact l1
      rw [if_pos h1, l2, i_o2_some, m_clp]
      exact ⟨_, rfl, pr_law (Or.inr rfl) (pr_law (Or.inl rfl) hp)⟩
  | succ r ih =>
    intro fuel t A v hf e hp a0 a1 a2
    obtain ⟨fuel, rfl⟩ : ∃ g, fuel = g + 1 := ⟨fuel - 1, by omega⟩
    have c : ((t + 1 : Nat) : Int) = (t : Int) + 1 := by omega
    have v71 : ∀ A : Int → Int, (ic v 76 A).1 71 = u.1 71 := fun A => by rw [ic_ne (by decide), hp.1 71 (by decide) (by decide) (by decide)]
    have v78 : ∀ A : Int → Int, (ic v 76 A).1 78 (b + t) = M t := fun A => by rw [ic_ne (by decide), pr_at hp]
    have rM := okq_rg (hM t (by omega))
    have rL := cntL_rg (p := M) t
    have rW := wL_rg (p := M) (g := mwo u) (fun t t0 t1 => hwo t t0 t1) t (by omega)
    have wt := hwo t (by omega) (by omega)
    have il : ∀ A : Int → Int, f253 N (M t) (ic v 76 A) = some (if M t = 64 then 0 else if M t = 65 then 0 else 1, ic v 76 A) := fun A => m_isLost rM
    have s1 := cntL_S (p := M) (n := t)
    have s2 := wL_S (p := M) (g := mwo u) (n := t)
    have fin : ∀ x y : Int, x = (if M t = 64 then 0 else if M t = 65 then 0 else 1) → y = (if M t = 64 then 0 else if M t = 65 then 0 else mwo u t) → ∃ v2, f254_at98 N (f254_at31 N fuel) b w t y (A 1) 1 (ic v 76 (zup A 0 (A 0 + x))) = some (lawV s lc (cntL M (mQ u).2.2.2.1) (wL M (mwo u) (mQ u).2.2.2.1) d, v2) ∧ pr u b M v2 := by
      intro x y hx hy
      have ym : 0 ≤ y ∧ y ≤ 99 := by
        rw [hy]
        have : mwo u t = u.1 71 (14 + 3 * t + 2) := rfl
        split
        · omega
        · split <;> omega
      unfold f254_at98
      rw [a1, iov_ok (by omega) (by omega), ick_ok (by omega) (by omega)]
      dsimp only
      rw [iov_ok (by omega) (by omega), iw_ic, ic_at, ic_ic, ← c]
      refine ih fuel (t + 1) (zup (zup A 0 (A 0 + x)) 1 (wL M (mwo u) t + y)) v (by omega) (by omega) hp ?_ ?_ ?_
      · rw [zup_ne (by decide), zup_same, s1, a0, hx]
      · rw [zup_same, s2, hy]
      · rw [zup_ne (by decide), zup_ne (by decide)]; exact a2
    have mid : ∀ x : Int, x = (if M t = 64 then 0 else if M t = 65 then 0 else 1) → ∃ v2, f254_at65 N (f254_at31 N fuel) b w t x (A 0) 0 (ic v 76 A) = some (lawV s lc (cntL M (mQ u).2.2.2.1) (wL M (mwo u) (mQ u).2.2.2.1) d, v2) ∧ pr u b M v2 := by
      intro x hx
      have xr : 0 ≤ x ∧ x ≤ 1 := by
        rw [hx]
        split
        · omega
        · split <;> omega
      unfold f254_at65
      rw [iov_ok (by omega) (by omega), ick_ok (by omega) (by omega)]
      dsimp only
      rw [ick_ok (by omega) (by omega), iov_ok (by omega) (by omega), ick_ok (by omega) (by omega), iw_ic, ic_at, ic_ic, v78, il, i_o2_some, ic_at, zup_ne (by decide), ← hx]
      by_cases g : x = 0
      · rw [if_pos g]
        refine fin x 0 hx ?_
        rw [g] at hx
        split
        · rfl
        · split
          · rfl
          · rename_i q1 q2
            rw [if_neg q1, if_neg q2] at hx
            omega
      · rw [if_neg g, m_thingOf (by omega) (by omega) (by decide) (by decide), i_o2_some, v71]
        refine fin x _ hx ?_
        split
        · rename_i q; rw [if_pos q] at hx; omega
        · split
          · rename_i q1 q; rw [if_neg q1, if_pos q] at hx; omega
          · rfl
    unfold f254_at31
    rw [m_things, i_o2_some, v71, if_neg (by omega), ick_ok (by omega) (by omega), iov_ok (by omega) (by omega), ick_ok (by omega) (by omega), v78, il, i_o2_some, ic_at]
    by_cases g : (if M t = 64 then (0 : Int) else if M t = 65 then 0 else 1) = 0
    · rw [if_pos g]
      exact mid 0 g.symm
    · rw [if_neg g]
      refine mid 1 ?_
      split
      · rename_i q; rw [if_pos q] at g; omega
      · split
        · rename_i q1 q; rw [if_neg q1, if_pos q] at g; omega
        · rfl
theorem m_lawAt (hN : 5000 ≤ N) (hw : mOK u) (hwo : mWo u) (hb0 : 0 ≤ b) (hb : b ≤ 680) (h01 : w = 0 ∨ w = 1) (e71 : u.1 71 = s.1 71) (e72 : u.1 72 = s.1 72) (e73 : u.1 73 = s.1 73) (hr : lawR s w lc) (hM : VV (mQ u) M) (hp : pr u b M v) :
    ∃ v2, f254 N b w v = some (lawV s lc (cntL M (mQ u).2.2.2.1) (wL M (mwo u) (mQ u).2.2.2.1) (M 16), v2) ∧ pr u b M v2 := by
  have en : (mQ u).2.2.2.1 = (u.1 71 1).toNat := rfl
  have hn := hw.2.2
  have h16 := pr_at (t := 16) hp
  have := m_lawAt_lp (N := N) (d := M 16) hN hw hwo hb0 hb h01 e71 e72 e73 hr hM (mQ u).2.2.2.1 N 0 (zup (zup (zup (v.1 76) 0 0) 1 0) 2 (M 16)) v (by omega) (by omega) hp (by rw [zup_ne (by decide), zup_ne (by decide), zup_same]; rfl) (by rw [zup_ne (by decide), zup_same]; rfl) (by rw [zup_same])
  unfold f254
  rw [ick_ok (by omega) (by omega)]
  dsimp only
  rw [ick_ok (by omega) (by omega), iov_ok (by omega) (by omega), ick_ok (by omega) (by omega), ick_ok (by omega) (by omega), iw_ic, iw_ic, iw_ic, ic_ic, ic_ic, ic_at, ic_at, ic_ne (by decide), ic_ne (by decide), h16]
  exact this
/-- the row after a day -/
def dyR (s : gI) (M : Int → Int) : Int → Int := zup (zup (dyP s M (M 16)) 17 (M 17 + dyC s M (M 16) + dyT s M (M 16))) 16 (M 16 + 1)
theorem m_bk_lp2 (hw : mOK u) (hb0 : 0 ≤ b) (hb : b ≤ 680) : ∀ (r fuel t : Nat) (M : Int → Int) (v : gI), r < fuel → t + r = (mQ u).2.2.2.1 → pr u b M v → VV (mQ u) M →
    ∃ v2, f255_at147 N fuel b t v = f255_at200 N b v2 ∧ pr u b (bk r t M) v2 := by
  intro r
  have en : (mQ u).2.2.2.1 = (u.1 71 1).toNat := rfl
  have hn := hw.2.2
  induction r with
  | zero =>
    intro fuel t M v hf e hp hV
    obtain ⟨fuel, rfl⟩ : ∃ g, fuel = g + 1 := ⟨fuel - 1, by omega⟩
    refine ⟨v, ?_, hp⟩
    unfold f255_at147
    rw [m_things, i_o2_some, hp.1 71 (by decide) (by decide) (by decide), if_pos (by omega)]
  | succ r ih =>
    intro fuel t M v hf e hp hV
    obtain ⟨fuel, rfl⟩ : ∃ g, fuel = g + 1 := ⟨fuel - 1, by omega⟩
    have c : ((t + 1 : Nat) : Int) = (t : Int) + 1 := by omega
    have rM := okq_rg (hV t (by omega))
    unfold f255_at147 bk bk1
    rw [m_things, i_o2_some, hp.1 71 (by decide) (by decide) (by decide), if_neg (by omega), iov_ok (by omega) (by omega), iov_ok (by omega) (by omega), ick_ok (by omega) (by omega), pr_at hp, m_isLost rM, i_o2_some]
    by_cases g : M t = 64 ∨ M t = 65
    · rw [if_pos (by split; rfl; split; rfl; omega), iov_ok (by omega) (by omega), ick_ok (by omega) (by omega), ick_ok (by omega) (by omega)]
      dsimp only
      rw [iov_ok (by omega) (by omega), pr_at hp, if_pos g, ← c]
      have hp2 := pr_w (t := t) (x := M t) hp
      rw [zup_self] at hp2
      exact ih fuel (t + 1) M _ (by omega) (by omega) hp2 hV
    · rw [if_neg (by rw [if_neg (fun q => g (Or.inl q)), if_neg (fun q => g (Or.inr q))]; decide), ick_ok (by omega) (by omega)]
      dsimp only
      rw [iov_ok (by omega) (by omega), if_neg g, ← c]
      exact ih fuel (t + 1) _ _ (by omega) (by omega) (pr_w hp) (VV_zup hV okq_64)
theorem m_day (hN : 5000 ≤ N) (hw : mOK u) (hwo : mWo u) (hb0 : 0 ≤ b) (hb : b ≤ 680) (e71 : u.1 71 = s.1 71) (e72 : u.1 72 = s.1 72) (e73 : u.1 73 = s.1 73) (e3 : u.1 71 1 = s.1 15 3) (e16 : u.1 71 7 = s.1 15 16) (h16 : 0 ≤ s.1 15 16 ∧ s.1 15 16 ≤ 6) (ewo : ∀ t : Nat, t < (s.1 15 3).toNat → mwo u t = s.1 20 t) (r0 : lawR s 0 25) (r1 : lawR s 1 28) (hM : VV (mQ u) M) (hp : pr u b M v) (d0 : 0 ≤ M 16 ∧ M 16 ≤ 1000000) (m0 : 0 ≤ M 17 ∧ M 17 ≤ 2000000000) :
    ∃ v2, f255 N b v = some v2 ∧ pr u b (dyR s M) v2 := by
  have en : (mQ u).2.2.2.1 = (u.1 71 1).toNat := rfl
  have en2 : (mQ u).2.2.2.1 = (s.1 15 3).toNat := by rw [en, e3]
  have hn := hw.2.2
  have ewl : wL M (mwo u) (mQ u).2.2.2.1 = wL M (s.1 20) (s.1 15 3).toNat := by
    rw [en2]
    exact wL_congr (fun _ _ => rfl) ewo
  have rc := dyC_rg (s := s) (p := M) (d := M 16)
  have rt := dyT_rg (s := s) (p := M) (d := M 16)
  -- the day goes up
  have at200 : ∀ {v : gI} {M : Int → Int}, pr u b M v → 0 ≤ M 16 → M 16 ≤ 1000000 → ∃ v2, f255_at200 N b v = some v2 ∧ pr u b (zup M 16 (M 16 + 1)) v2 := by
    intro v M hp d0 d1
    refine ⟨_, ?_, pr_w hp⟩
    unfold f255_at200
    rw [iov_ok (by omega) (by omega), ick_ok (by omega) (by omega), pr_at hp, iov_ok (by omega) (by omega), ick_ok (by omega) (by omega)]
  have at96 : ∀ {v : gI} {z0 x3 : Int}, pr u b M v → z0 = dyC s M (M 16) → (x3 = 0 ↔ ¬ 0 < cntL M (s.1 15 3).toNat) → ∃ v2, f255_at96 N b x3 z0 (M 17) (b + 17) v = some v2 ∧ pr u b (dyR s M) v2 := by
    intro v z0 x3 hp hz hx
    have hp1 := pr_w (t := 17) (x := M 17 + dyC s M (M 16)) hp
    have f16 : zup M 17 (M 17 + dyC s M (M 16)) 16 = M 16 := zup_ne (by decide)
    have no : ¬ dyS s M (M 16) → ∃ v2, f255_at200 N b (iw v 78 (b + 17) (M 17 + dyC s M (M 16))) = some v2 ∧ pr u b (dyR s M) v2 := by
      intro hs
      obtain ⟨v2, g1, g2⟩ := at200 hp1 (by rw [f16]; exact d0.1) (by rw [f16]; exact d0.2)
      refine ⟨v2, g1, ?_⟩
      have eP : dyP s M (M 16) = M := if_neg hs
      have eT : dyT s M (M 16) = 0 := if_neg hs
      unfold dyR
      rw [eP, eT, Int.add_zero]
      rw [f16] at g2
      exact g2
    unfold f255_at96
    rw [hz, iov_ok (by omega) (by omega), ick_ok (by omega) (by omega)]
    dsimp only
    by_cases g : x3 = 0
    · rw [if_pos g]
      exact no (fun hh => (hx.1 g) hh.2)
    have gl : 0 < cntL M (s.1 15 3).toNat := by
      by_cases q : 0 < cntL M (s.1 15 3).toNat
      · exact q
      · exact absurd (hx.2 q) g
    rw [if_neg g, iov_ok (by omega) (by omega), ick_ok (by omega) (by omega), ick_ok (by omega) (by omega), pr_at hp1, f16, hp1.1 71 (by decide) (by decide) (by decide), e16, iov_ok (by omega) (by omega), idv_ok (by omega) (by decide)]
    by_cases g2 : (M 16 + s.1 15 16) % 7 = 5
    rotate_left
    · rw [if_neg g2]
      refine no (fun hh => g2 ?_)
      rw [Int.add_comm]
      exact hh.1
    have hs : dyS s M (M 16) := ⟨by rw [Int.add_comm]; exact g2, gl⟩
    have eP : dyP s M (M 16) = bk (s.1 15 3).toNat 0 M := if_pos hs
    have eT : dyT s M (M 16) = lawV s 25 (cntL M (s.1 15 3).toNat) (wL M (s.1 20) (s.1 15 3).toNat) (M 16) := if_pos hs
    have hM1 : VV (mQ u) (zup M 17 (M 17 + dyC s M (M 16))) := VV_eq (Q := mQ u) ⟨rfl, rfl, rfl, fun _ _ => rfl, fun _ _ => rfl⟩ (fun j j0 j1 => (zup_ne (by omega)).symm) (by omega) hM
    obtain ⟨v2, g3, hp2⟩ := m_lawAt (w := 0) (lc := 25) (s := s) hN hw hwo hb0 hb (Or.inl rfl) e71 e72 e73 r0 hM1 hp1
    have cl : cntL (zup M 17 (M 17 + dyC s M (M 16))) (mQ u).2.2.2.1 = cntL M (s.1 15 3).toNat := by
      rw [en2]
      exact cntL_congr fun j hj => zup_ne (by omega)
    have wl : wL (zup M 17 (M 17 + dyC s M (M 16))) (mwo u) (mQ u).2.2.2.1 = wL M (s.1 20) (s.1 15 3).toNat := by
      rw [← ewl]
      exact wL_congr (fun j hj => zup_ne (by omega)) (fun _ _ => rfl)
    rw [cl, wl, f16, ← eT] at g3
    have hp3 := pr_w (t := 17) (x := M 17 + dyC s M (M 16) + dyT s M (M 16)) hp2
    rw [zup_zup] at hp3
    have hM3 : VV (mQ u) (zup M 17 (M 17 + dyC s M (M 16) + dyT s M (M 16))) := VV_eq (Q := mQ u) ⟨rfl, rfl, rfl, fun _ _ => rfl, fun _ _ => rfl⟩ (fun j j0 j1 => (zup_ne (by omega)).symm) (by omega) hM
    obtain ⟨v4, g4, hp4⟩ := m_bk_lp2 (N := N) hw hb0 hb (mQ u).2.2.2.1 N 0 _ _ (by omega) (by omega) hp3 hM3
    have f16' : bk (mQ u).2.2.2.1 0 (zup M 17 (M 17 + dyC s M (M 16) + dyT s M (M 16))) 16 = M 16 := by
      rw [bk_ne _ _ _ (Or.inr (by omega)), zup_ne (by decide)]
    obtain ⟨v5, g5, hp5⟩ := at200 hp4 (by show 0 ≤ bk (mQ u).2.2.2.1 0 _ 16; rw [f16']; exact d0.1) (by show bk (mQ u).2.2.2.1 0 _ 16 ≤ _; rw [f16']; exact d0.2)
    refine ⟨v5, ?_, ?_⟩
    · rw [if_pos g2, iov_ok (by omega) (by omega), ick_ok (by omega) (by omega), g3, i_o2_some, pr_at hp1, zup_same, iov_ok (by omega) (by omega), ick_ok (by omega) (by omega)]
      have g4' : f255_at147 N N b 0 (iw v2 78 (b + 17) (M 17 + dyC s M (M 16) + dyT s M (M 16))) = f255_at200 N b v4 := g4
      rw [g4', g5]
    · have e : dyR s M = zup (bk (mQ u).2.2.2.1 0 (zup M 17 (M 17 + dyC s M (M 16) + dyT s M (M 16)))) 16 (M 16 + 1) := by
        unfold dyR
        rw [eP, en2]
        congr 1
        have comm : ∀ (r : Nat) (t : Int) (M : Int → Int) (x : Int), 0 ≤ t → t + r ≤ 8 → bk r t (zup M 17 x) = zup (bk r t M) 17 x := by
          intro r
          induction r with
          | zero => intro t M x _ _; rfl
          | succ r ih =>
            intro t M x t0 t1
            unfold bk
            rw [← ih (t + 1) _ _ (by omega) (by omega)]
            congr 1
            unfold bk1
            rw [zup_ne (show t ≠ 17 by omega)]
            split
            · rfl
            · exact zup_comm _ (by omega) _ _
        exact (comm _ 0 M _ (by decide) (by omega)).symm
      have hp5' : pr u b (zup (bk (mQ u).2.2.2.1 0 (zup M 17 (M 17 + dyC s M (M 16) + dyT s M (M 16)))) 16 (bk (mQ u).2.2.2.1 0 (zup M 17 (M 17 + dyC s M (M 16) + dyT s M (M 16))) 16 + 1)) v5 := hp5
      rw [e, ← f16']
      rw [f16'] at hp5' ⊢
      exact hp5'
  have tolc : ∀ t : Nat, t < (mQ u).2.2.2.1 → (tol (M t) = 66 ↔ ¬ M t < 128) := by
    intro t ht
    have := okq_rg (hM t ht)
    unfold tol
    split <;> omega
  have lp : ∀ (r fuel t : Nat), r < fuel → t + r = (mQ u).2.2.2.1 → ∃ v2, f255_at7 N fuel b (if 0 < cntAt M 66 t then 1 else 0) (if 0 < cntL M t then 1 else 0) t v = some v2 ∧ pr u b (dyR s M) v2 := by
    intro r
    induction r with
    | zero =>
      intro fuel t hf e
      obtain ⟨fuel, rfl⟩ : ∃ g, fuel = g + 1 := ⟨fuel - 1, by omega⟩
      have et : t = (s.1 15 3).toNat := by omega
      unfold f255_at7
      rw [m_things, i_o2_some, hp.1 71 (by decide) (by decide) (by decide), if_pos (by omega), iov_ok (by omega) (by omega), ick_ok (by omega) (by omega), pr_at hp, et]
      have hx : ((if 0 < cntL M (s.1 15 3).toNat then (1 : Int) else 0) = 0) ↔ ¬ 0 < cntL M (s.1 15 3).toNat := by
        split <;> omega
      by_cases g : 0 < cntAt M 66 (s.1 15 3).toNat
      · have eC : dyC s M (M 16) = lawV s 28 (cntL M (s.1 15 3).toNat) (wL M (s.1 20) (s.1 15 3).toNat) (M 16) := if_pos g
        obtain ⟨v1, l1, hp1⟩ := m_lawAt (w := 1) (lc := 28) (s := s) hN hw hwo hb0 hb (Or.inr rfl) e71 e72 e73 r1 hM hp
        rw [ewl, en2, ← eC] at l1
        rw [if_pos g, if_neg (by decide), l1, i_o2_some]
        exact at96 hp1 rfl hx
      · have eC : dyC s M (M 16) = 0 := if_neg g
        rw [if_neg g, if_pos rfl]
        exact at96 hp eC.symm hx
    | succ r ih =>
      intro fuel t hf e
      obtain ⟨fuel, rfl⟩ : ∃ g, fuel = g + 1 := ⟨fuel - 1, by omega⟩
      have c : ((t + 1 : Nat) : Int) = (t : Int) + 1 := by omega
      have go := ih fuel (t + 1) (by omega) (by omega)
      have rM := okq_rg (hM t (by omega))
      have rL := cntL_rg (p := M) t
      have rA := cntAt_rg (p := M) (z := 66) t
      rw [cntL_S, cntAt_S, c] at go
      have tc := tolc t (by omega)
      have hL01 : (if M t = 64 then (0 : Int) else if M t = 65 then 0 else 1) = 0 ∨ (if M t = 64 then (0 : Int) else if M t = 65 then 0 else 1) = 1 := by
        split
        · exact Or.inl rfl
        · split
          · exact Or.inl rfl
          · exact Or.inr rfl
      have il := fun s => m_isLost (N := N) (s := s) rM
      generalize hL : (if M t = 64 then (0 : Int) else if M t = 65 then 0 else 1) = L at go hL01 il
      have at40 : ∀ z0 : Int, z0 = (if 0 < cntAt M 66 t + (if tol (M t) = 66 then 1 else 0) then 1 else 0) → ∃ v2, f255_at40 N (f255_at7 N fuel) b (if 0 < cntL M t then 1 else 0) t z0 v = some v2 ∧ pr u b (dyR s M) v2 := by
        intro z0 hz
        rw [← hz] at go
        unfold f255_at40 f255_at60
        by_cases g : 0 < cntL M t
        · rw [if_pos g, if_neg (by decide), iov_ok (by omega) (by omega)]
          rw [if_pos (show 0 < cntL M t + L by omega)] at go
          exact go
        · rw [if_neg g, if_pos rfl, iov_ok (by omega) (by omega), ick_ok (by omega) (by omega), pr_at hp, il, i_o2_some]
          by_cases q : L = 0
          · rw [if_pos q, iov_ok (by omega) (by omega)]
            rw [if_neg (show ¬ 0 < cntL M t + L by omega)] at go
            exact go
          · rw [if_neg q, iov_ok (by omega) (by omega)]
            rw [if_pos (show 0 < cntL M t + L by omega)] at go
            exact go
      unfold f255_at7 f255_at35
      rw [m_things, i_o2_some, hp.1 71 (by decide) (by decide) (by decide), if_neg (by omega)]
      by_cases g : 0 < cntAt M 66 t
      · rw [if_pos g, if_neg (by decide)]
        exact at40 1 (if_pos (by split <;> omega)).symm
      · rw [if_neg g, if_pos rfl, iov_ok (by omega) (by omega), ick_ok (by omega) (by omega), pr_at hp]
        by_cases q : M t < 128
        · rw [if_pos q]
          exact at40 0 (by rw [if_neg (fun h => (tc.1 h) q), if_neg (by omega)])
        · rw [if_neg q]
          exact at40 1 (by rw [if_pos (tc.2 q), if_pos (by omega)])
  have := lp (mQ u).2.2.2.1 N 0 (by omega) (by omega)
  exact this
end MDAY

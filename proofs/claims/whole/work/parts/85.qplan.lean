/-! Promise 19: plan, two throws ahead, answered alike. -/
section QPLAN
variable {N : Nat} {s v u : gI} {k x a : Int} {P : Int → Int}
/-- only rows beyond what stands have changed -/
def trS (s u : gI) : Prop := ∃ F, u = ic s 78 F ∧ ∀ j, j < 588 → F j = s.1 78 j
theorem trS.rf : trS s s := ⟨s.1 78, ic_self.symm, fun _ _ => rfl⟩
theorem trS.ne (h : trS s u) {a : Nat} (ha : a ≠ 78) : u.1 a = s.1 a := by
  obtain ⟨F, h1, -⟩ := h
  rw [h1, ic_ne ha]
theorem trS.at (h : trS s u) {j : Int} (hj : j < 588) : u.1 78 j = s.1 78 j := by
  obtain ⟨F, h1, h2⟩ := h
  rw [h1, ic_at, h2 j hj]
theorem trS.tl {b : Int} (hb : 588 ≤ b) (h : trS s u) (h2 : trl b u v) : trS s v := by
  obtain ⟨F, h1, h3⟩ := h
  obtain ⟨G, g1, g2⟩ := h2
  refine ⟨G, ?_, fun j hj => ?_⟩
  · rw [g1, h1, ic_ic]
  · rw [g2 j (by omega), h1, ic_at, h3 j hj]
theorem trS.RY (h : trS s u) (hs : RY s) : RY u := by
  obtain ⟨F, h1, -⟩ := h
  rw [h1]
  exact RY_78 hs
theorem trS.qq (h : trS s u) : cQ u = cQ s := by
  unfold cQ
  rw [h.ne (by decide), h.ne (by decide), h.ne (by decide), h.ne (by decide)]
theorem m1_ne {p : Int → Int} (h : ∀ a : Nat, a ≠ 78 → u.1 a = s.1 a) : m1 u p = m1 s p := by
  unfold m1 cQ
  rw [h 12 (by decide), h 13 (by decide), h 15 (by decide), h 18 (by decide), h 16 (by decide), h 20 (by decide)]
theorem sameQ_trS (h : trS s u) : sameQ s u :=
  ⟨fun a ha => h.ne (by omega), by rw [h.ne (by decide)], by rw [h.ne (by decide)], by rw [h.ne (by decide)], fun j hj => h.at hj, by obtain ⟨F, h1, -⟩ := h; rw [h1]; rfl⟩
theorem m_two_lp (hN : 5000 ≤ N) (hs : CS s) (hR : RY s) (e8 : eq8 (sh 0 (s.1 78)) (s.1 7)) {q t : Nat} {c : Int} (hq : (q : Int) < s.1 15 0) (ht : t < (cQ s).2.2.2.1) (c0 : 0 ≤ c ∧ c < 64) : ∀ (r z fuel : Nat) (u : gI), z + r = 9 → r < fuel → trS s u →
    ∃ v, f271_at6 N fuel q t c (sumN (fun z => wgt (s.1 16 q) z * m1 s (TZ (cQ s) (s.1 7) t c z)) z) z u = some (m2g s q t c, v) ∧ trS s v := by
  have hP := hR.2.2.2.2.2.2.1
  have hn := cW_n hs.1
  have hP4 := hR.P4
  have ar := hs.2.2.2.1 q (by omega) (by omega)
  have arm := hR.2.2.2.2.2.2.2.2.1 q (by omega) (by omega)
  intro r
  induction r with
  | zero =>
    intro z fuel u e hf hu
    obtain ⟨fuel, rfl⟩ : ∃ g, fuel = g + 1 := ⟨fuel - 1, by omega⟩
    refine ⟨u, ?_, hu⟩
    unfold f271_at6
    rw [if_pos (by omega), show z = 9 by omega]
    rfl
  | succ r ih =>
    intro z fuel u e hf hu
    obtain ⟨fuel, rfl⟩ : ∃ g, fuel = g + 1 := ⟨fuel - 1, by omega⟩
    have e1 : ((z : Int) + 1) = ((z + 1 : Nat) : Int) := by omega
    have rw1 := wgt_rg (z := z) ar.1 ar.2
    have rm : ∀ j : Nat, _ := fun j => m1_rg (p := TZ (cQ s) (s.1 7) t c j) hs hP.2
    have rmul : ∀ j : Nat, _ := fun j => mul_rgB (wgt_rg (z := j) ar.1 ar.2).1 (wgt_rg (z := j) ar.1 ar.2).2 (B := 720000) (b := m1 s (TZ (cQ s) (s.1 7) t c j)) (by decide) (by have := rm j; omega) (by have := rm j; omega)
    have rs := sumN_rgB (f := fun z => wgt (s.1 16 q) z * m1 s (TZ (cQ s) (s.1 7) t c z)) (n := 9) (B := 57600000) (fun j _ => rmul j) z (by omega)
    have rz := rmul z
    have es : sumN (fun z => wgt (s.1 16 q) z * m1 s (TZ (cQ s) (s.1 7) t c z)) (z + 1) = sumN (fun z => wgt (s.1 16 q) z * m1 s (TZ (cQ s) (s.1 7) t c z)) z + wgt (s.1 16 q) z * m1 s (TZ (cQ s) (s.1 7) t c z) := rfl
    have ew : ∀ v, v.1 71 = s.1 71 → f260 N q z v = some (wgt (s.1 16 q) z, v) := fun v hv => by
      rw [m_weightOf (by omega) (by omega) (by rw [hv, arm]; exact ar), hv, arm]
    unfold f271_at6
    rw [if_neg (by omega), ew u (hu.ne (by decide)), i_o2_some]
    by_cases h2 : wgt (s.1 16 q) z ≤ 0
    · have ih := ih (z + 1) fuel u (by omega) (by omega) hu
      rw [es, show wgt (s.1 16 q) z = 0 by omega, Int.zero_mul, Int.add_zero] at ih
      rw [if_pos h2, iov_ok (by omega) (by omega), e1]
      exact ih
    have hQ := hu.qq
    have e8u : eq8 (sh 0 (u.1 78)) (s.1 7) := fun j j0 j1 => by rw [sh_at, hu.at (by omega)]; exact e8 j j0 j1
    obtain ⟨v1, t1, t2, t3⟩ := m_tryG (N := N) (s := u) (u := u) (p := s.1 7) (a := 0) (b := 616) (per := q) (x := c % 8) (y := c / 8) (z := z) (m := t) hN (hu.RY hR) (by rw [hQ]; exact hs.2.2.1) e8u (by decide) (by decide) (by decide) (by decide) (Or.inl (by decide)) (by rw [hQ]; exact ht) (by omega) (by omega) (by omega) (by omega) trl.rf
    rw [hQ] at t3
    have t3 : eq8 (sh 616 (v1.1 78)) (TZ (cQ s) (s.1 7) t c z) := t3
    have hv1 := hu.tl (by decide) t2
    have hVT : VV (cQ s) (TZ (cQ s) (s.1 7) t c z) := VV_thrown hs.1.1.2 hs.1.2.1.2 ht hs.2.2.1 _ _
    obtain ⟨v2, k1, k2⟩ := m_plan1 (N := N) (s := v1) (p := TZ (cQ s) (s.1 7) t c z) (a := 616) (b := 644) hN (hv1.RY hR) (by rw [hv1.qq]; exact hVT) t3 (by decide) (by decide) (by decide) (by decide) (Or.inl (by decide))
    rw [m1_ne (fun a ha => hv1.ne ha)] at k1
    obtain ⟨v3, l1, l2⟩ := ih (z + 1) fuel v2 (by omega) (by omega) (hv1.tl (by decide) k2)
    rw [es] at l1
    refine ⟨v3, ?_, l2⟩
    rw [if_neg h2, idv_ok c0.1 (by decide), idv_ok c0.1 (by decide), t1, i_o1_some, ew v1 (hv1.ne (by decide)), i_o2_some, k1, i_o2_some, iov_ok (by omega) (by omega), iov_ok (by omega) (by omega), iov_ok (by omega) (by omega), e1]
    exact l1
theorem m_plan2 (hN : 5000 ≤ N) (hs : CS s) (hR : RY s) (e8 : eq8 (sh 0 (s.1 78)) (s.1 7)) (hu : trS s u) : ∃ v, f270_at40 N N (80 * m1 s (s.1 7)) 0 u = some (m2 s, v) ∧ trS s v := by
  have hw := hs.1
  have hn := cW_n hw
  have hn0 := hw.2.2.1
  have en : (cQ s).2.2.2.1 = (s.1 15 3).toNat := rfl
  have e3 := RY_n hR
  have eP := RY_P hR
  have hP := hR.2.2.2.2.2.2.1
  have rm1 := m1_rg (p := s.1 7) hs hP.2
  have at78 : ∀ {u : gI} (j : Nat), j < 8 → trS s u → u.1 78 j = s.1 7 j := fun j hj hu => by
    rw [hu.at (by omega)]
    have := e8 j (by omega) (by omega)
    rw [sh_at, Int.zero_add] at this
    exact this
  have lpO : ∀ {f : Int → Int → Int → gI → Option (Int × gI)} {q t : Nat}, (q : Int) < s.1 15 0 → t < (cQ s).2.2.2.1 → s.1 7 t = 64 → ∀ (r fuel o : Nat) (M : Int) (u : gI), r < fuel → o + r = (s.1 15 3).toNat → 0 ≤ M → trS s u →
      ∃ v, f270_at64 N f fuel M q t o u = f (mxO (m2g s q t) (s.1 7) r o M) q (t + 1) v ∧ trS s v := by
    intro f q t hq ht hp r
    induction r with
    | zero =>
      intro fuel o M u hf e hM hu
      obtain ⟨fuel, rfl⟩ : ∃ g, fuel = g + 1 := ⟨fuel - 1, by omega⟩
      refine ⟨u, ?_, hu⟩
      unfold f270_at64
      rw [m_things, i_o2_some, hu.ne (by decide), e3, if_pos (by omega), iov_ok (by omega) (by omega)]
      rfl
    | succ r ih =>
      intro fuel o M u hf e hM hu
      obtain ⟨fuel, rfl⟩ : ∃ g, fuel = g + 1 := ⟨fuel - 1, by omega⟩
      have c1 : ((o + 1 : Nat) : Int) = (o : Int) + 1 := by omega
      have oO := okq_rg (hs.2.2.1 o (by omega))
      unfold f270_at64 mxO f270_at116
      rw [m_things, i_o2_some, hu.ne (by decide), e3, if_neg (by omega), ick_ok (by omega) (by omega), at78 t (by omega) hu, if_pos hp, ick_ok (by omega) (by omega), at78 o (by omega) hu]
      by_cases g1 : 64 ≤ s.1 7 o
      · rw [if_pos g1, if_pos g1, if_pos hM, iov_ok (by omega) (by omega), ← c1]
        exact ih fuel (o + 1) M u (by omega) (by omega) hM hu
      rw [if_neg g1, if_neg g1]
      obtain ⟨v1, k1, k2⟩ := m_two_lp (N := N) (q := q) (t := t) (c := s.1 7 o) hN hs hR e8 hq ht ⟨by omega, by omega⟩ 9 0 N u (by decide) (by omega) hu
      have k1' : f271 N q t (s.1 7 o) u = some (m2g s q t (s.1 7 o), v1) := k1
      rw [ick_ok (by omega) (by omega), k1', i_o2_some]
      by_cases g2 : m2g s q t (s.1 7 o) ≤ M
      · rw [if_pos g2, if_pos g2, iov_ok (by omega) (by omega), ← c1]
        exact ih fuel (o + 1) M v1 (by omega) (by omega) hM k2
      · rw [if_neg g2, if_neg g2, iov_ok (by omega) (by omega), ← c1]
        exact ih fuel (o + 1) _ v1 (by omega) (by omega) (by omega) k2
  have lpT : ∀ {f : Int → Int → gI → Option (Int × gI)} {q : Nat}, (q : Int) < s.1 15 0 → ∀ (r fuel t : Nat) (M : Int) (u : gI), r < fuel → t + r = (s.1 15 3).toNat → 0 ≤ M → trS s u →
      ∃ v, f270_at52 N f fuel M q t u = f (mxT (m2g s q) (s.1 7) (s.1 15 3).toNat r t M) (q + 1) v ∧ trS s v := by
    intro f q hq r
    induction r with
    | zero =>
      intro fuel t M u hf e hM hu
      obtain ⟨fuel, rfl⟩ : ∃ g, fuel = g + 1 := ⟨fuel - 1, by omega⟩
      refine ⟨u, ?_, hu⟩
      unfold f270_at52
      rw [m_things, i_o2_some, hu.ne (by decide), e3, if_pos (by omega), iov_ok (by omega) (by omega)]
      rfl
    | succ r ih =>
      intro fuel t M u hf e hM hu
      obtain ⟨fuel, rfl⟩ : ∃ g, fuel = g + 1 := ⟨fuel - 1, by omega⟩
      have c1 : ((t + 1 : Nat) : Int) = (t : Int) + 1 := by omega
      unfold f270_at52 mxT
      rw [m_things, i_o2_some, hu.ne (by decide), e3, if_neg (by omega)]
      by_cases g1 : s.1 7 t = 64
      · obtain ⟨v1, k1, k2⟩ := lpO (f := f270_at52 N f fuel) hq (by omega : t < (cQ s).2.2.2.1) g1 (s.1 15 3).toNat N 0 M u (by omega) (by omega) hM hu
        have k1' : f270_at64 N (f270_at52 N f fuel) N M q t 0 u = f270_at52 N f fuel (mxO (m2g s q t) (s.1 7) (s.1 15 3).toNat 0 M) q (t + 1) v1 := k1
        have sp := (mxO_sp (P := s.1 7) (g := m2g s q t) (s.1 15 3).toNat 0 M).1
        have sp : M ≤ mxO (m2g s q t) (s.1 7) (s.1 15 3).toNat 0 M := sp
        rw [k1', if_pos g1, ← c1]
        exact ih fuel (t + 1) _ v1 (by omega) (by omega) (by omega) k2
      · obtain ⟨F, rfl⟩ : ∃ F, N = F + 1 := ⟨N - 1, by omega⟩
        have e36 : f270_at64 (F + 1) (f270_at52 (F + 1) f fuel) (F + 1) M q t 0 u = f270_at52 (F + 1) f fuel M q (t + 1) u := by
          unfold f270_at64
          rw [m_things, i_o2_some, hu.ne (by decide), e3, if_neg (by omega), ick_ok (by omega) (by omega), at78 t (by omega) hu, if_neg g1, iov_ok (by omega) (by omega)]
        rw [e36, if_neg g1, ← c1]
        exact ih fuel (t + 1) M u (by omega) (by omega) hM hu
  have lpQ : ∀ (r fuel q : Nat) (M : Int) (u : gI), r < fuel → (q : Int) + r = s.1 15 0 → 0 ≤ M → trS s u →
      ∃ v, f270_at40 N fuel M q u = some (mxQ (m2g s) (s.1 7) (s.1 15 3).toNat r q M, v) ∧ trS s v := by
    intro r
    induction r with
    | zero =>
      intro fuel q M u hf e hM hu
      obtain ⟨fuel, rfl⟩ : ∃ g, fuel = g + 1 := ⟨fuel - 1, by omega⟩
      refine ⟨u, ?_, hu⟩
      unfold f270_at40
      rw [m_people, i_o2_some, hu.ne (by decide), eP, if_pos (by omega)]
      rfl
    | succ r ih =>
      intro fuel q M u hf e hM hu
      obtain ⟨fuel, rfl⟩ : ∃ g, fuel = g + 1 := ⟨fuel - 1, by omega⟩
      have c1 : ((q + 1 : Nat) : Int) = (q : Int) + 1 := by omega
      obtain ⟨v1, k1, k2⟩ := lpT (f := f270_at40 N fuel) (by omega : (q : Int) < s.1 15 0) (s.1 15 3).toNat N 0 M u (by omega) (by omega) hM hu
      have k1' : f270_at52 N (f270_at40 N fuel) N M q 0 u = f270_at40 N fuel (mxT (m2g s q) (s.1 7) (s.1 15 3).toNat (s.1 15 3).toNat 0 M) (q + 1) v1 := k1
      have sp := (mxT_sp (P := s.1 7) (g := m2g s q) (n := (s.1 15 3).toNat) (s.1 15 3).toNat 0 M).1
      have sp : M ≤ mxT (m2g s q) (s.1 7) (s.1 15 3).toNat (s.1 15 3).toNat 0 M := sp
      unfold f270_at40 mxQ
      rw [m_people, i_o2_some, hu.ne (by decide), eP, if_neg (by omega), k1', ← c1]
      exact ih fuel (q + 1) _ v1 (by omega) (by omega) (by omega) k2
  exact lpQ (s.1 15 0).toNat N 0 (80 * m1 s (s.1 7)) u (by omega) (by omega) (by omega) hu
theorem q_plan (hN : 5000 ≤ N) (hI : INV k s) : OKc k s (f151 N a) (f270 N a) := by
  have hs := hI.1
  have hw := hI.1.1.1
  have hP4 := hI.1.2.2.2.2.2.1
  have hn0 := hw.2.2.1
  have i2 := hI.2.1
  have i3 := hI.2.2.1.2.1
  have hP1 : 0 < s.1 15 3 → 1 ≤ s.1 15 0 := fun h => by
    have := i3 0 (by decide) h
    omega
  by_cases ha : 1 ≤ a ∧ a ≤ 2
  rotate_left
  · refine OKc.q hI (x := -1) (s1 := s) (s2 := iw s 63 0 0) ?_ ?_ sameQ_thrown
    · unfold f151
      rw [if_neg (by omega), if_neg (by omega)]
    · unfold f270
      dsimp only
      rw [m_within, i_o2_some, if_neg ha, if_pos rfl]
  have hI1 := INV_thrown (x := 0) hI
  have hs1 := hI1.1
  have eQ : cQ (iw s 63 0 0) = cQ s := sameQ_cQ sameQ_thrown
  have n63 : ∀ a : Nat, a ≠ 63 → (iw s 63 0 0).1 a = s.1 a := fun a h => iw_ne h
  have e8 : eq8 (sh 0 ((iw s 63 0 0).1 78)) ((iw s 63 0 0).1 7) := hs1.2.2.2.1
  have em1 : ∀ p, m1 (iw s 63 0 0) p = m1 s p := fun p => by
    unfold m1
    rw [eQ, n63 16 (by decide), n63 20 (by decide), n63 15 (by decide)]
  have em2 : m2 (iw s 63 0 0) = m2 s := by
    unfold m2 m2g
    rw [eQ, n63 16 (by decide), n63 7 (by decide), n63 15 (by decide), em1]
    congr 1
  obtain ⟨v, k1, k2⟩ := m_plan1 (N := N) (s := iw s 63 0 0) (p := s.1 7) (a := 0) (b := 588) hN hs1.ry (by rw [eQ]; exact hs.1.2.2.1) e8 (by decide) (by decide) (by decide) (by decide) (Or.inl (by decide))
  rw [em1] at k1
  have rm := m1_rg (p := s.1 7) hs.1 hP4.2
  by_cases g : a = 1
  · subst g
    refine OKc.q hI (x := m1 s (s.1 7)) (s1 := s) (s2 := v) ?_ ?_ (sameQ_thrown.tr (sameQ_trl (by decide) k2))
    · unfold f151
      rw [if_pos rfl, c_plan1 hN hs.1 hP4.2 hP1 i2.2.2.2.2.2.1, i_o2_some]
    · unfold f270
      dsimp only
      rw [m_within, i_o2_some, if_pos ha, if_neg (by decide), k1, i_o2_some, if_pos rfl]
  · have g2 : a = 2 := by omega
    subst g2
    obtain ⟨v2, l1, l2⟩ := m_plan2 (N := N) (s := iw s 63 0 0) (u := v) hN hs1.1 hs1.ry e8 (trS.rf.tl (by decide) k2)
    rw [em1, em2, n63 7 (by decide)] at l1
    refine OKc.q hI (x := m2 s) (s1 := s) (s2 := v2) ?_ ?_ (sameQ_thrown.tr (sameQ_trS l2))
    · unfold f151
      rw [if_neg (by decide), if_pos rfl, c_plan2 hN hs.1 hP4.2 hP1 i2.2.2.2.2.2.1, i_o2_some]
    · unfold f270
      dsimp only
      rw [m_within, i_o2_some, if_pos ha, if_neg (by decide), k1, i_o2_some, if_neg (by decide), iov_ok (by omega) (by omega)]
      exact l1
end QPLAN

/-! Promise 28: rests answered alike. -/
section QRESTS
variable {N : Nat} {s v u : gI} {k x a pr : Int} {c c2 d F G C : Int → Int} {P : Nat}
/-- the reference's people, things and what each loses a day -/
def mrs (s : gI) (P : Nat) (d : Int → Int) (v : gI) : Prop := v.1 71 0 = P ∧ v.1 71 1 = s.1 15 3 ∧ (∀ t, 0 ≤ t → t < s.1 15 3 → v.1 78 t = s.1 7 t ∧ v.1 71 (14 + 3 * t + 1) = s.1 19 t ∧ v.1 71 (14 + 3 * t + 2) = s.1 20 t) ∧ ∀ p : Int, 0 ≤ p → p < P → d p = dvN s p (s.1 15 3).toNat
theorem mrs_c (h : mrs s P d v) : mrs s P d (ic v 80 F) := by
  obtain ⟨h1, h2, h3, h4⟩ := h
  refine ⟨by rw [ic_ne (by decide)]; exact h1, by rw [ic_ne (by decide)]; exact h2, fun t t0 t1 => ?_, h4⟩
  rw [ic_ne (by decide), ic_ne (by decide)]
  exact h3 t t0 t1
theorem m_cost {p : Int} (hN : 5000 ≤ N) (h : mrs s P d v) (hc : v.1 80 = c) (hwo : cWo s) (hn : 0 ≤ s.1 15 3 ∧ s.1 15 3 ≤ 8) (hP : 1 ≤ P ∧ P ≤ 4) (p0 : 0 ≤ p ∧ p < P) (hcr : ∀ j : Nat, j < P → 0 ≤ c j ∧ c j ≤ 7) (hpr : 0 ≤ pr ∧ pr ≤ 999) : f284 N p pr v = some (wcost d pr P c p, v) := by
  obtain ⟨h1, h2, h3, h4⟩ := h
  obtain ⟨s1, s2, s3⟩ := am_sp c P hP.1
  have dr := dvN_rg (p := p) hwo (s.1 15 3).toNat (by omega)
  have ed := h4 p p0.1 p0.2
  obtain ⟨An, hAn⟩ := Int.eq_ofNat_of_zero_le s1.1
  have cA : 0 ≤ c (am c P) ∧ c (am c P) ≤ 7 := by rw [hAn]; exact hcr An (by omega)
  have lpt : ∀ (r fuel t : Nat), (t : Int) + r = s.1 15 3 → r < fuel → f284_at49 N fuel p pr (am c P) (dvN s p t) t v = some (wcost d pr P c p, v) := by
    intro r
    induction r with
    | zero =>
      intro fuel t e hf
      obtain ⟨fuel, rfl⟩ : ∃ g, fuel = g + 1 := ⟨fuel - 1, by omega⟩
      have et : (s.1 15 3).toNat = t := by omega
      rw [et] at dr ed
      have md : 0 ≤ dvN s p t * c (am c P) ∧ dvN s p t * c (am c P) ≤ 800 * 7 := by
        refine ⟨Int.mul_nonneg dr.1 cA.1, ?_⟩
        exact Int.mul_le_mul (by omega) cA.2 cA.1 (by decide)
      unfold f284_at49 wcost
      rw [m_things, i_o2_some, h2, if_pos (by omega), ick_ok s1.1 (by omega), hc, iov_ok (by omega) (by omega), ed]
      by_cases g : am c P = p
      · rw [if_pos g, ick_ok s1.1 (by omega)]
        by_cases g2 : 7 ≤ c (am c P)
        · rw [if_pos g2, iov_ok (by omega) (by omega), if_neg (show ¬ (am c P = p ∧ c (am c P) < 7) from fun q => by omega)]
        · rw [if_neg g2, iov_ok (by omega) (by omega), if_pos (show am c P = p ∧ c (am c P) < 7 from ⟨g, by omega⟩)]
      · rw [if_neg g, iov_ok (by omega) (by omega), if_neg (show ¬ (am c P = p ∧ c (am c P) < 7) from fun q => g q.1)]
    | succ r ih =>
      intro fuel t e hf
      obtain ⟨fuel, rfl⟩ : ∃ g, fuel = g + 1 := ⟨fuel - 1, by omega⟩
      have c1 : ((t + 1 : Nat) : Int) = (t : Int) + 1 := by omega
      have ih := ih fuel (t + 1) (by omega) (by omega)
      have es : dvN s p (t + 1) = dvN s p t + (if s.1 7 t = 65 then (if s.1 19 t = p then s.1 20 t else 0) else 0) := rfl
      obtain ⟨a1, a2, a3⟩ := h3 t (by omega) (by omega)
      have rg := dvN_rg (p := p) hwo t (by omega)
      have w0 := hwo t (by omega) (by omega)
      unfold f284_at49
      rw [m_things, i_o2_some, h2, if_neg (by omega), ick_ok (by omega) (by omega), a1]
      unfold f284_at93 f284_at94
      by_cases g : s.1 7 t = 65
      · rw [if_pos g, m_thingOf (by omega) (by omega) (by decide) (by decide), i_o2_some, a2]
        by_cases g2 : s.1 19 t = p
        · rw [es, if_pos g, if_pos g2, c1] at ih
          rw [if_pos g2, m_thingOf (by omega) (by omega) (by decide) (by decide), i_o2_some, a3, iov_ok (by omega) (by omega), iov_ok (by omega) (by omega)]
          exact ih
        · rw [es, if_pos g, if_neg g2, c1] at ih
          rw [if_neg g2, iov_ok (by omega) (by omega), iov_ok (by omega) (by omega)]
          exact ih
      · rw [es, if_neg g, c1] at ih
        rw [if_neg g, iov_ok (by omega) (by omega), iov_ok (by omega) (by omega)]
        exact ih
  have lpp : ∀ (r fuel i : Nat), i + r = P → 1 ≤ i → r < fuel → f284_at5 N fuel p pr (am c i) i v = some (wcost d pr P c p, v) := by
    intro r
    induction r with
    | zero =>
      intro fuel i e i1 hf
      obtain ⟨fuel, rfl⟩ : ∃ g, fuel = g + 1 := ⟨fuel - 1, by omega⟩
      unfold f284_at5
      rw [m_people, i_o2_some, h1, if_pos (by omega), show i = P by omega]
      exact lpt (s.1 15 3).toNat N 0 (by omega) (by omega)
    | succ r ih =>
      intro fuel i e i1 hf
      obtain ⟨fuel, rfl⟩ : ∃ g, fuel = g + 1 := ⟨fuel - 1, by omega⟩
      have c1 : ((i + 1 : Nat) : Int) = (i : Int) + 1 := by omega
      have ih := ih fuel (i + 1) (by omega) (by omega) (by omega)
      have sp := (am_sp c i i1).1
      have es : am c (i + 1) = if c (am c i) ≤ c i then am c i else i := rfl
      unfold f284_at5
      rw [m_people, i_o2_some, h1, if_neg (by omega), ick_ok (by omega) (by omega), ick_ok (by omega) (by omega), hc]
      by_cases g : c (am c i) ≤ c i
      · rw [es, if_pos g, c1] at ih
        rw [if_pos g, iov_ok (by omega) (by omega)]
        exact ih
      · rw [es, if_neg g, c1] at ih
        rw [if_neg g, iov_ok (by omega) (by omega)]
        exact ih
  have a1 : am c 1 = 0 := by
    show (if c 0 ≤ c ((0 : Nat) : Int) then (0 : Int) else _) = 0
    exact if_pos (Int.le_refl _)
  have := lpp (P - 1) N 1 (by omega) (by omega) (by omega)
  rw [a1] at this
  unfold f284
  exact this
theorem m_isRest (hN : 5000 ≤ N) (h : mrs s P d v) (hwo : cWo s) (hn : 0 ≤ s.1 15 3 ∧ s.1 15 3 ≤ 8) (hP : 1 ≤ P ∧ P ≤ 4) (hcr : ∀ j : Nat, j < P → 0 ≤ c j ∧ c j ≤ 7) (hpr : 0 ≤ pr ∧ pr ≤ 999) : f285_at43 N N pr 1 0 (ic v 80 c) = some (if rsB d pr P c = true then 1 else 0, ic v 80 c) := by
  have lpy0 : ∀ {f : Int → Int → Int → gI → Option (Int × gI)} {p : Int} (cur : Int), 0 ≤ p → p < P → ∀ (r fuel : Nat) (y : Int) (C : Int → Int), 0 ≤ y → y + r = 8 → r < fuel → (∀ z, zup C p z = zup c p z) →
      f285_at78 N f fuel pr 0 p (c p) cur y (ic v 80 C) = f pr 0 (p + 1) (ic v 80 c) := by
    intro f p cur p0 p1 r
    induction r with
    | zero =>
      intro fuel y C y0 e hf hC
      obtain ⟨fuel, rfl⟩ : ∃ g, fuel = g + 1 := ⟨fuel - 1, by omega⟩
      unfold f285_at78
      rw [if_pos (by omega), ick_ok p0 (by omega)]
      dsimp only
      rw [iov_ok (by omega) (by omega), iw_ic, ic_at, ic_ic, hC, zup_self]
    | succ r ih =>
      intro fuel y C y0 e hf hC
      obtain ⟨fuel, rfl⟩ : ∃ g, fuel = g + 1 := ⟨fuel - 1, by omega⟩
      unfold f285_at78 f285_at115
      rw [if_neg (by omega), ick_ok p0 (by omega)]
      dsimp only
      rw [if_pos rfl, iov_ok (by omega) (by omega), iw_ic, ic_at, ic_ic]
      exact ih fuel (y + 1) _ (by omega) (by omega) (by omega) (fun z => by rw [zup_zup, hC])
  have lpy : ∀ {f : Int → Int → Int → gI → Option (Int × gI)} {p : Int}, 0 ≤ p → p < P → ∀ (r fuel : Nat) (y : Int) (C : Int → Int), 0 ≤ y → y + r = 8 → r < fuel → (∀ z, zup C p z = zup c p z) →
      f285_at78 N f fuel pr 1 p (c p) (wcost d pr P c p) y (ic v 80 C) = f pr (if allB (fun y => decide (wcost d pr P c p ≤ wcost d pr P (zup c p y) p)) r y = true then 1 else 0) (p + 1) (ic v 80 c) := by
    intro f p p0 p1 r
    induction r with
    | zero =>
      intro fuel y C y0 e hf hC
      obtain ⟨fuel, rfl⟩ : ∃ g, fuel = g + 1 := ⟨fuel - 1, by omega⟩
      unfold f285_at78
      rw [if_pos (by omega), ick_ok p0 (by omega)]
      dsimp only
      rw [iov_ok (by omega) (by omega), iw_ic, ic_at, ic_ic, hC, zup_self]
      rfl
    | succ r ih =>
      intro fuel y C y0 e hf hC
      obtain ⟨fuel, rfl⟩ : ∃ g, fuel = g + 1 := ⟨fuel - 1, by omega⟩
      have l1 := m_cost (N := N) (pr := pr) (p := p) (v := ic v 80 (zup c p y)) hN (mrs_c h) ic_at hwo hn hP ⟨p0, p1⟩ (fun j hj => by
        by_cases q : (j : Int) = p
        · rw [q, zup_same]; omega
        · rw [zup_ne q]; exact hcr j hj) hpr
      have go := ih fuel (y + 1) (zup c p y) (by omega) (by omega) (by omega) (fun z => by rw [zup_zup])
      unfold f285_at78 allB
      rw [if_neg (by omega), ick_ok p0 (by omega)]
      dsimp only
      rw [if_neg (by decide), iw_ic, ic_at, ic_ic, hC, l1, i_o2_some]
      by_cases g : wcost d pr P (zup c p y) p < wcost d pr P c p
      · unfold f285_at115
        rw [if_pos g, iov_ok (by omega) (by omega), decide_eq_false (by omega), Bool.false_and, lpy0 _ p0 p1 r fuel (y + 1) (zup c p y) (by omega) (by omega) (by omega) (fun z => by rw [zup_zup])]
        rfl
      · rw [if_neg g, iov_ok (by omega) (by omega), decide_eq_true (by omega), Bool.true_and]
        exact go
  have lpp : ∀ (r fuel : Nat) (p : Int), 0 ≤ p → p + r = P → r < fuel → f285_at43 N fuel pr 1 p (ic v 80 c) = some (if allB (fun p => allB (fun y => decide (wcost d pr P c p ≤ wcost d pr P (zup c p y) p)) 8 0) r p = true then 1 else 0, ic v 80 c) := by
    intro r
    induction r with
    | zero =>
      intro fuel p p0 e hf
      obtain ⟨fuel, rfl⟩ : ∃ g, fuel = g + 1 := ⟨fuel - 1, by omega⟩
      unfold f285_at43
      rw [m_people, i_o2_some, ic_ne (by decide), h.1, if_pos (by omega), ib1_ok (Or.inr rfl)]
      rfl
    | succ r ih =>
      intro fuel p p0 e hf
      obtain ⟨fuel, rfl⟩ : ∃ g, fuel = g + 1 := ⟨fuel - 1, by omega⟩
      have go := ih fuel (p + 1) (by omega) (by omega) (by omega)
      have l1 := m_cost (N := N) (pr := pr) (p := p) (v := ic v 80 c) hN (mrs_c h) ic_at hwo hn hP ⟨p0, by omega⟩ hcr hpr
      have l2 := lpy (f := f285_at43 N fuel) p0 (by omega : p < P) 8 N 0 c (by decide) (by decide) (by omega) (fun z => rfl)
      unfold f285_at43
      rw [m_people, i_o2_some, ic_ne (by decide), h.1, if_neg (by omega), if_neg (by decide), ick_ok p0 (by omega), ic_at]
      dsimp only
      rw [l1, i_o2_some, l2]
      conv => rhs; unfold allB
      by_cases g : allB (fun y => decide (wcost d pr P c p ≤ wcost d pr P (zup c p y) p)) 8 0 = true
      · rw [if_pos g, go, g, Bool.true_and]
      · have gf : allB (fun y => decide (wcost d pr P c p ≤ wcost d pr P (zup c p y) p)) 8 0 = false := by
          cases hh : allB (fun y => decide (wcost d pr P c p ≤ wcost d pr P (zup c p y) p)) 8 0 with
          | true => exact absurd hh g
          | false => rfl
        rw [if_neg g, gf, Bool.false_and]
        obtain ⟨f2, rfl⟩ : ∃ f2, fuel = f2 + 1 := ⟨fuel - 1, by omega⟩
        unfold f285_at43
        rw [m_people, i_o2_some, ic_ne (by decide), h.1, ib1_ok (Or.inl rfl), if_pos rfl]
        split <;> rfl
  exact lpp P N 0 (by decide) (by omega) (by omega)
theorem m_dec_lp (hN : 5000 ≤ N) : ∀ (r fuel : Nat) (z : Int) (F : Int → Int), 0 ≤ z → r ≤ 4 → r < fuel → f285_at10 N fuel pr z ((r : Int) - 1) (ic v 80 F) = f285_at43 N N pr 1 0 (ic v 80 (dec r z F)) := by
  intro r
  induction r with
  | zero =>
    intro fuel z F z0 r4 hf
    obtain ⟨fuel, rfl⟩ : ∃ g, fuel = g + 1 := ⟨fuel - 1, by omega⟩
    unfold f285_at10
    rw [if_pos (by decide)]
    rfl
  | succ r ih =>
    intro fuel z F z0 r4 hf
    obtain ⟨fuel, rfl⟩ : ∃ g, fuel = g + 1 := ⟨fuel - 1, by omega⟩
    unfold f285_at10 dec
    rw [show ((r + 1 : Nat) : Int) - 1 = (r : Int) by omega, if_neg (by omega), idv_ok z0 (by decide), ick_ok (by omega) (by omega)]
    dsimp only
    rw [idv_ok z0 (by decide), show (r : Int) + -1 = (r : Int) - 1 by omega, iov_ok (by omega) (by omega), iw_ic, ic_at, ic_ic]
    exact ih fuel (z / 8) _ (by omega) (by omega) (by omega)
theorem m_find_lp {w T : Int} (hN : 5000 ≤ N) (hw1 : -1 ≤ w) (hwo : cWo s) (hn : 0 ≤ s.1 15 3 ∧ s.1 15 3 ≤ 8) (hP : 1 ≤ P ∧ P ≤ 4) (hpr : 0 ≤ pr ∧ pr ≤ 999) (hT : T ≤ 4096) : ∀ (r fuel : Nat) (z n : Int) (F : Int → Int), 0 ≤ z → z + r = T → 0 ≤ n → n ≤ z → r < fuel → mrs s P d v →
    ∃ G, f286_at61 N fuel pr w T n z (ic v 80 F) = some (fnd (fun z => rsB d pr P (dec P z (fun _ => 0))) w r z n, ic v 80 G) := by
  intro r
  induction r with
  | zero =>
    intro fuel z n F z0 e n0 n1 hf h
    obtain ⟨fuel, rfl⟩ : ∃ g, fuel = g + 1 := ⟨fuel - 1, by omega⟩
    refine ⟨F, ?_⟩
    unfold f286_at61 fnd
    rw [if_pos (by omega)]
    by_cases g : 0 ≤ w
    · rw [if_pos g, if_neg (by omega)]
    · rw [if_neg g, if_pos (by omega)]
  | succ r ih =>
    intro fuel z n F z0 e n0 n1 hf h
    obtain ⟨fuel, rfl⟩ : ∃ g, fuel = g + 1 := ⟨fuel - 1, by omega⟩
    have l1 := m_dec_lp (N := N) (v := v) (pr := pr) hN P N z F z0 hP.2 (by omega)
    have l2 := m_isRest (N := N) (c := dec P z F) hN h hwo hn hP (fun j hj => (dec_in P z F F j z0 (by omega) (by omega)).2) hpr
    rw [rsB_congr hP.1 (c2 := dec P z (fun _ => 0)) (fun j hj => (dec_in P z F (fun _ => 0) j z0 (by omega) (by omega)).1)] at l2
    have l285 : f285 N z pr (ic v 80 F) = some (if rsB d pr P (dec P z (fun _ => 0)) = true then 1 else 0, ic v 80 (dec P z F)) := by
      unfold f285
      rw [m_people, i_o2_some, ic_ne (by decide), h.1, iov_ok (by omega) (by omega)]
      exact l1.trans l2
    unfold f286_at61 fnd
    rw [if_neg (by omega), l285, i_o2_some]
    by_cases g : rsB d pr P (dec P z (fun _ => 0)) = true
    · rw [if_pos g, if_neg (by decide), if_pos g]
      by_cases g2 : n = w
      · rw [if_pos g2, if_pos g2]
        exact ⟨_, rfl⟩
      · rw [if_neg g2, if_neg g2, iov_ok (by omega) (by omega)]
        dsimp only
        rw [iov_ok (by omega) (by omega)]
        exact ih fuel (z + 1) (n + 1) _ (by omega) (by omega) (by omega) (by omega) (by omega) h
    · rw [if_neg g, if_pos rfl, if_neg g, iov_ok (by omega) (by omega)]
      exact ih fuel (z + 1) n _ (by omega) (by omega) n0 (by omega) (by omega) h
def pw8 : Nat → Int
  | 0 => 1
  | n + 1 => pw8 n * 8
theorem pw8_rg : ∀ P : Nat, P ≤ 4 → 1 ≤ pw8 P ∧ pw8 P ≤ 4096 ∧ i_shl 1 (3 * (P : Int)) = pw8 P := by
  intro P hP
  have : ∀ P : Fin 5, 1 ≤ pw8 P.val ∧ pw8 P.val ≤ 4096 ∧ i_shl 1 (3 * (P.val : Int)) = pw8 P.val := by decide +kernel
  exact this ⟨P, by omega⟩
theorem m_pow_lp {w : Int} (h : u.1 71 0 = P) (hP : P ≤ 4) : ∀ (r fuel i : Nat), i + r = P → r < fuel → f286_at35 N fuel pr w (pw8 i) i u = f286_at61 N N pr w (pw8 P) 0 0 u := by
  intro r
  induction r with
  | zero =>
    intro fuel i e hf
    obtain ⟨fuel, rfl⟩ : ∃ g, fuel = g + 1 := ⟨fuel - 1, by omega⟩
    unfold f286_at35
    rw [m_people, i_o2_some, h, if_pos (by omega), show i = P by omega]
  | succ r ih =>
    intro fuel i e hf
    obtain ⟨fuel, rfl⟩ : ∃ g, fuel = g + 1 := ⟨fuel - 1, by omega⟩
    have c1 : ((i + 1 : Nat) : Int) = (i : Int) + 1 := by omega
    have rg := pw8_rg i (by omega)
    unfold f286_at35
    rw [m_people, i_o2_some, h, if_neg (by omega), iov_ok (by omega) (by omega)]
    dsimp only
    rw [iov_ok (by omega) (by omega), ← c1]
    exact ih fuel (i + 1) (by omega) (by omega)
theorem q_rests {w : Int} (hN : 5000 ≤ N) (hI : INV k s) : OKc k s (f160 N pr w) (f286 N pr w) := by
  obtain ⟨e0, e1, e2, e3, e4⟩ := INV_eq hI
  have hw := hI.1.1.1
  have hwo := hI.1.1.2.2.2.2
  have hP4 := hI.1.2.2.2.2.2.1
  have hn0 := hw.2.2.1
  have own := hI.2.2.1.2.1
  have wor := hI.1.2.2.2.2.2.2.2.2.1
  by_cases hz : (0 ≤ pr ∧ pr ≤ 999) ∧ -1 ≤ w ∧ s.1 15 0 ≠ 0
  rotate_left
  · refine OKc.q hI (x := -1) (s1 := s) (s2 := iw s 63 0 0) ?_ ?_ sameQ_thrown
    · unfold f160
      by_cases g1 : pr < 0
      · rw [if_pos g1]
      rw [if_neg g1]
      by_cases g2 : 999 < pr
      · rw [if_pos g2]
      rw [if_neg g2]
      by_cases g3 : w < -1
      · rw [if_pos g3]
      rw [if_neg g3]
      by_cases g4 : s.1 15 0 = 0
      · rw [if_pos g4]
      · exact absurd ⟨⟨by omega, by omega⟩, by omega, g4⟩ hz
    · unfold f286
      dsimp only
      rw [m_within, i_o2_some]
      by_cases g1 : 0 ≤ pr ∧ pr ≤ 999
      rotate_left
      · rw [if_neg g1, if_pos rfl]
      rw [if_pos g1, if_neg (by decide)]
      by_cases g3 : w < -1
      · rw [if_pos g3]
      rw [if_neg g3, m_people, i_o2_some, iw63 (by decide), e2]
      by_cases g4 : s.1 15 0 = 0
      · rw [if_pos g4]
      · exact absurd ⟨g1, by omega, g4⟩ hz
  obtain ⟨hpr, hw1, hp0⟩ := hz
  obtain ⟨P, hPe⟩ := Int.eq_ofNat_of_zero_le hP4.1
  have hP : 1 ≤ P ∧ P ≤ 4 := by omega
  obtain ⟨pw1, pw2, pw3⟩ := pw8_rg P hP.2
  have dr : ∀ p : Int, 0 ≤ p → p < P → 0 ≤ dvN s p (s.1 15 3).toNat ∧ dvN s p (s.1 15 3).toNat ≤ 800 := fun p _ _ => by
    have := dvN_rg (p := p) hwo (s.1 15 3).toNat (by omega)
    omega
  obtain ⟨v1, k1, k2, k3, k4, k5⟩ := c_begin (N := N) (pr := pr) hN hwo hn0 hP4.2 (fun t t0 t1 => (own t t0 t1).2)
  have hv1 : wv P pr (fun p => dvN s p (s.1 15 3).toNat) (v1.1 40) v1 := ⟨by rw [k3, hPe], k4, fun p p0 p1 => k5 p p0 (by omega), rfl⟩
  obtain ⟨vc, l1, l2⟩ := c_find_lp (N := N) (w := w) (T := pw8 P) hN hP dr hpr pw2 (pw8 P).toNat N 0 0 v1 (by decide) (by omega) (by decide) (by decide) (by omega) k2 ⟨_, hv1⟩
  have cfin : f160 N pr w s = some (fnd (fun z => rsB (fun p => dvN s p (s.1 15 3).toNat) pr P (dec P z (fun _ => 0))) w (pw8 P).toNat 0 0, vc) := by
    unfold f160 f110
    rw [if_neg (by omega), if_neg (by omega), if_neg (by omega), if_neg hp0, k1, i_o1_some, k3, iov_ok (by omega) (by omega)]
    have e38 : i_shl 1 (3 * s.1 15 0) = pw8 P := by rw [hPe]; exact pw3
    dsimp only
    rw [e38, l1, i_o2_some]
  have qc : sameQ s vc := ⟨fun b hb => l2.1 b (by omega) (by omega) (by omega), by rw [l2.1 1 (by decide) (by decide) (by decide)], by rw [l2.1 63 (by decide) (by decide) (by decide)], by rw [l2.1 63 (by decide) (by decide) (by decide)], fun j _ => by rw [l2.1 78 (by decide) (by decide) (by decide)], by rw [l2.2]⟩
  have q1 : sameQ s (iw vc 63 0 0) := qc.tr sameQ_thrown
  have hm : mrs s P (fun p => dvN s p (s.1 15 3).toNat) (iw vc 63 0 0) := by
    refine ⟨?_, ?_, fun t t0 t1 => ⟨?_, ?_, ?_⟩, fun p _ _ => rfl⟩
    · rw [q1.1 71 (by omega), e2, hPe]
    · rw [q1.1 71 (by omega)]; exact e3
    · rw [q1.2.2.2.2.1 t (by omega)]; exact e4 t t0 (by omega)
    · rw [q1.1 71 (by omega)]; exact (own t t0 t1).1
    · rw [q1.1 71 (by omega)]; exact wor t t0 t1
  obtain ⟨G, m1⟩ := m_find_lp (N := N) (s := s) (w := w) (T := pw8 P) hN hw1 hwo hn0 hP hpr pw2 (pw8 P).toNat N 0 0 ((iw vc 63 0 0).1 80) (by decide) (by omega) (by decide) (by decide) (by omega) hm
  rw [ic_self] at m1
  have mp := m_pow_lp (N := N) (pr := pr) (w := w) (u := iw vc 63 0 0) hm.1 hP.2 P N 0 (by omega) (by omega)
  refine OKc.q hI (s1 := vc) (s2 := ic (iw vc 63 0 0) 80 G) cfin ?_ (q1.tr ⟨fun b hb => ic_ne (by omega), by rw [ic_ne (by decide)], by rw [ic_ne (by decide)], by rw [ic_ne (by decide)], fun j _ => by rw [ic_ne (by decide)], rfl⟩)
  unfold f286
  dsimp only
  rw [m_within, i_o2_some, if_pos hpr, if_neg (by decide), if_neg (by omega), m_people, i_o2_some, hm.1, if_neg (by omega)]
  exact mp.trans m1
end QRESTS

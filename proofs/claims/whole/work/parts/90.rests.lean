/-! Promise 28: rests; waiting at a price, and the class. -/
section RESTS
variable {N : Nat} {s v u : gI} {k x a pr : Int} {c c2 d F G : Int → Int} {P : Nat}
/-- the first of the least of so many -/
def am (c : Int → Int) : Nat → Int
  | 0 => 0
  | k + 1 => if c (am c k) ≤ c k then am c k else k
theorem am_sp (c : Int → Int) : ∀ k : Nat, 1 ≤ k → (0 ≤ am c k ∧ am c k < k) ∧ (∀ j : Nat, j < k → c (am c k) ≤ c j) ∧ ∀ j : Nat, (j : Int) < am c k → c (am c k) < c j
  | 0, h => by omega
  | k + 1, _ => by
    by_cases k0 : k = 0
    · subst k0
      have e : am c (0 + 1) = 0 := by
        show (if c 0 ≤ c ((0 : Nat) : Int) then (0 : Int) else _) = 0
        exact if_pos (Int.le_refl _)
      rw [e]
      refine ⟨by omega, fun j hj => ?_, fun j hj => by omega⟩
      have : j = 0 := by omega
      subst this
      exact Int.le_refl _
    obtain ⟨h1, h2, h3⟩ := am_sp c k (by omega)
    unfold am
    by_cases g : c (am c k) ≤ c k
    · rw [if_pos g]
      refine ⟨by omega, fun j hj => ?_, h3⟩
      by_cases e : j = k
      · subst e; exact g
      · exact h2 j (by omega)
    · rw [if_neg g]
      refine ⟨by omega, fun j hj => ?_, fun j hj => ?_⟩
      · by_cases e : j = k
        · subst e; exact Int.le_refl _
        · have := h2 j (by omega); omega
      · have := h2 j (by omega)
        omega
def wcost (d : Int → Int) (pr : Int) (P : Nat) (c : Int → Int) (p : Int) : Int := d p * c (am c P) + if am c P = p ∧ c (am c P) < 7 then pr else 0
theorem am_congr (h : ∀ j : Nat, j < P → c j = c2 j) : ∀ k : Nat, k ≤ P → am c k = am c2 k
  | 0, _ => rfl
  | k + 1, hk => by
    have ih := am_congr h k (by omega)
    by_cases k0 : k = 0
    · subst k0
      show (if c 0 ≤ c ((0 : Nat) : Int) then (0 : Int) else _) = (if c2 0 ≤ c2 ((0 : Nat) : Int) then (0 : Int) else _)
      rw [if_pos (show c 0 ≤ c ((0 : Nat) : Int) from Int.le_refl _), if_pos (show c2 0 ≤ c2 ((0 : Nat) : Int) from Int.le_refl _)]
    obtain ⟨h1, -, -⟩ := am_sp c k (by omega)
    have e1 : c (am c k) = c2 (am c k) := by
      have := h (am c k).toNat (by omega)
      rwa [show (((am c k).toNat : Nat) : Int) = am c k by omega] at this
    unfold am
    rw [← ih, ← e1, ← h k (by omega)]
theorem wcost_congr (hP : 1 ≤ P) (h : ∀ j : Nat, j < P → c j = c2 j) {p : Int} : wcost d pr P c p = wcost d pr P c2 p := by
  obtain ⟨h1, -, -⟩ := am_sp c P hP
  have e1 : c (am c P) = c2 (am c P) := by
    have := h (am c P).toNat (by omega)
    rwa [show (((am c P).toNat : Nat) : Int) = am c P by omega] at this
  unfold wcost
  rw [← am_congr h P (Nat.le_refl _), ← e1]
/-- nobody would pay less by another choice of his own -/
def rsB (d : Int → Int) (pr : Int) (P : Nat) (c : Int → Int) : Bool := allB (fun p => allB (fun y => decide (wcost d pr P c p ≤ wcost d pr P (zup c p y) p)) 8 0) P 0
theorem rsB_congr (hP : 1 ≤ P) (h : ∀ j : Nat, j < P → c j = c2 j) : rsB d pr P c = rsB d pr P c2 := by
  unfold rsB
  refine allB_congr _ _ fun p p0 p1 => ?_
  refine allB_congr _ _ fun y y0 y1 => ?_
  rw [wcost_congr hP h, wcost_congr (c := zup c p y) (c2 := zup c2 p y) hP (fun j hj => by
    by_cases e : (j : Int) = p
    · rw [e, zup_same, zup_same]
    · rw [zup_ne e, zup_ne e]; exact h j hj)]
/-- digits to the base of 8, the first the highest -/
def dec : Nat → Int → (Int → Int) → Int → Int
  | 0, _, F => F
  | r + 1, z, F => dec r (z / 8) (zup F r (z % 8))
theorem dec_hi : ∀ (r : Nat) (z : Int) (F : Int → Int) (j : Int), (r : Int) ≤ j → dec r z F j = F j
  | 0, _, _, _, _ => rfl
  | r + 1, z, F, j, h => by
    unfold dec
    rw [dec_hi r _ _ j (by omega), zup_ne (by omega)]
theorem dec_in : ∀ (r : Nat) (z : Int) (F G : Int → Int) (j : Int), 0 ≤ z → 0 ≤ j → j < r → dec r z F j = dec r z G j ∧ 0 ≤ dec r z F j ∧ dec r z F j ≤ 7
  | 0, _, _, _, _, _, _, h => by omega
  | r + 1, z, F, G, j, z0, h0, h1 => by
    unfold dec
    by_cases e : j = r
    · subst e
      rw [dec_hi r _ _ _ (Int.le_refl _), dec_hi r _ _ _ (Int.le_refl _), zup_same, zup_same]
      omega
    · exact dec_in r (z / 8) _ _ j (by omega) h0 (by omega)
def fnd (R : Int → Bool) (w : Int) : Nat → Int → Int → Int
  | 0, _, n => if w = -1 then n else -1
  | r + 1, z, n => if R z = true then (if n = w then z else fnd R w r (z + 1) (n + 1)) else fnd R w r (z + 1) n
/-- what one loses each day by his own that is over -/
def dvN (s : gI) (p : Int) (n : Nat) : Int := sumN (fun t => if s.1 7 t = 65 then (if s.1 19 t = p then s.1 20 t else 0) else 0) n
theorem dvN_rg (hwo : cWo s) {p : Int} : ∀ n : Nat, n ≤ 8 → 0 ≤ dvN s p n ∧ dvN s p n ≤ 99 * n := fun n hn =>
  sumN_rg (n := 8) (fun t ht => by
    have := hwo t (by omega) (by omega)
    split
    · split <;> omega
    · omega) n hn
def wt (s v : gI) : Prop := (∀ b : Nat, b ≠ 38 → b ≠ 39 → b ≠ 40 → v.1 b = s.1 b) ∧ v.2 = s.2
theorem wt_w {b : Nat} {i z : Int} (hb : b = 38 ∨ b = 39 ∨ b = 40) (h : wt s v) : wt s (iw v b i z) := ⟨fun c c1 c2 c3 => by rw [iw_ne (by omega)]; exact h.1 c c1 c2 c3, h.2⟩
theorem wt_c {b : Nat} {F : Int → Int} (hb : b = 38 ∨ b = 39 ∨ b = 40) (h : wt s v) : wt s (ic v b F) := ⟨fun c c1 c2 c3 => by rw [ic_ne (by omega)]; exact h.1 c c1 c2 c3, h.2⟩
theorem c_daily_lp (hN : 5000 ≤ N) (hwo : cWo s) (hn : s.1 15 3 ≤ 8) (hP : s.1 15 0 ≤ 4) (hown : ∀ t, 0 ≤ t → t < s.1 15 3 → 0 ≤ s.1 19 t ∧ s.1 19 t < s.1 15 0) : ∀ (r fuel t : Nat) (v : gI), r < fuel → (t : Int) + r = s.1 15 3 → wt s v → (∀ p, 0 ≤ p → p < 4 → v.1 39 p = dvN s p t) →
    ∃ v2, f109_at24 N fuel t v = some v2 ∧ wt s v2 ∧ (∀ b, b ≠ 39 → v2.1 b = v.1 b) ∧ ∀ p, 0 ≤ p → p < 4 → v2.1 39 p = dvN s p (s.1 15 3).toNat := by
  intro r
  induction r with
  | zero =>
    intro fuel t v hf e h hd
    obtain ⟨fuel, rfl⟩ : ∃ g, fuel = g + 1 := ⟨fuel - 1, by omega⟩
    refine ⟨v, ?_, h, fun _ _ => rfl, by rw [show (s.1 15 3).toNat = t by omega]; exact hd⟩
    unfold f109_at24
    rw [h.1 15 (by decide) (by decide) (by decide), if_pos (by omega)]
  | succ r ih =>
    intro fuel t v hf e h hd
    obtain ⟨fuel, rfl⟩ : ∃ g, fuel = g + 1 := ⟨fuel - 1, by omega⟩
    have c1 : ((t + 1 : Nat) : Int) = (t : Int) + 1 := by omega
    have es : ∀ p, dvN s p (t + 1) = dvN s p t + (if s.1 7 t = 65 then (if s.1 19 t = p then s.1 20 t else 0) else 0) := fun p => rfl
    have ow := hown t (by omega) (by omega)
    have w0 := hwo t (by omega) (by omega)
    unfold f109_at24
    rw [h.1 15 (by decide) (by decide) (by decide), if_neg (by omega), ick_ok (by omega) (by omega), h.1 7 (by decide) (by decide) (by decide)]
    by_cases g : s.1 7 t = 65
    · have hd1 := hd (s.1 19 t) ow.1 (by omega)
      have rg := dvN_rg (p := s.1 19 t) hwo t (by omega)
      rw [if_pos g, ick_ok (by omega) (by omega), h.1 19 (by decide) (by decide) (by decide), ick_ok ow.1 (by omega), ick_ok (by omega) (by omega), h.1 20 (by decide) (by decide) (by decide), hd1, iov_ok (by omega) (by omega), ick_ok ow.1 (by omega)]
      dsimp only
      rw [iov_ok (by omega) (by omega), ← c1]
      obtain ⟨v2, k1, k2, k3, k4⟩ := ih fuel (t + 1) (iw v 39 (s.1 19 t) (dvN s (s.1 19 t) t + s.1 20 t)) (by omega) (by omega) (wt_w (Or.inr (Or.inl rfl)) h) (fun p p0 p1 => by
        rw [iw_at, es, if_pos g]
        by_cases e2 : p = s.1 19 t
        · subst e2
          rw [zup_same, if_pos rfl]
        · rw [zup_ne e2, if_neg (fun q => e2 q.symm), Int.add_zero]
          exact hd p p0 p1)
      exact ⟨v2, k1, k2, fun b hb => by rw [k3 b hb, iw_ne hb], k4⟩
    · rw [if_neg g, iov_ok (by omega) (by omega), ← c1]
      exact ih fuel (t + 1) v (by omega) (by omega) h (fun p p0 p1 => by rw [es, if_neg g, Int.add_zero]; exact hd p p0 p1)
theorem c_begin {pr : Int} (hN : 5000 ≤ N) (hwo : cWo s) (hn : 0 ≤ s.1 15 3 ∧ s.1 15 3 ≤ 8) (hP : s.1 15 0 ≤ 4) (hown : ∀ t, 0 ≤ t → t < s.1 15 3 → 0 ≤ s.1 19 t ∧ s.1 19 t < s.1 15 0) :
    ∃ v2, f109 N pr s = some v2 ∧ wt s v2 ∧ v2.1 38 0 = s.1 15 0 ∧ v2.1 38 1 = pr ∧ ∀ p, 0 ≤ p → p < 4 → v2.1 39 p = dvN s p (s.1 15 3).toNat := by
  obtain ⟨G, g1, g2, -⟩ := c_fill (N := N) (s := iw (iw s 38 0 (s.1 15 0)) 38 1 pr) (r := 39) (zn := 4) (x := 0) hN (by decide) (by decide)
  have h0 : wt s (ic (iw (iw s 38 0 (s.1 15 0)) 38 1 pr) 39 G) := wt_c (Or.inr (Or.inl rfl)) (wt_w (Or.inl rfl) (wt_w (Or.inl rfl) ⟨fun _ _ _ _ => rfl, rfl⟩))
  obtain ⟨v2, k1, k2, k3, k4⟩ := c_daily_lp (N := N) hN hwo hn.2 hP hown (s.1 15 3).toNat N 0 (ic (iw (iw s 38 0 (s.1 15 0)) 38 1 pr) 39 G) (by omega) (by omega) h0 (fun p p0 p1 => by rw [ic_at, g2 p p0 p1]; rfl)
  refine ⟨v2, ?_, k2, ?_, ?_, k4⟩
  · unfold f109
    dsimp only
    rw [g1, i_o1_some]
    exact k1
  · rw [k3 38 (by decide), ic_ne (by decide), iw_at, zup_ne (by decide), iw_at, zup_same]
  · rw [k3 38 (by decide), ic_ne (by decide), iw_at, zup_same]
/-- the class's WAITING: how many, the price, what each loses a day, what each has chosen -/
def wv (P : Nat) (pr : Int) (d c : Int → Int) (v : gI) : Prop := v.1 38 0 = P ∧ v.1 38 1 = pr ∧ (∀ p : Int, 0 ≤ p → p < P → v.1 39 p = d p) ∧ v.1 40 = c
theorem c_cost {p y : Int} (hN : 5000 ≤ N) (hv : wv P pr d c v) (hP : 1 ≤ P ∧ P ≤ 4) (p0 : 0 ≤ p ∧ p < P) (y0 : 0 ≤ y ∧ y ≤ 7) (hc : ∀ j : Nat, j < P → 0 ≤ c j ∧ c j ≤ 7) (hd : 0 ≤ d p ∧ d p ≤ 800) (hpr : 0 ≤ pr ∧ pr ≤ 999) : f113 N p y v = some (wcost d pr P (zup c p y) p, v) := by
  obtain ⟨v0, v1, v2, v3⟩ := hv
  obtain ⟨s1, s2, s3⟩ := am_sp (zup c p y) P hP.1
  generalize hA : am (zup c p y) P = A at s1 s2 s3
  obtain ⟨An, hAn⟩ := Int.eq_ofNat_of_zero_le s1.1
  have cp : zup c p y p = y := zup_same _ _ _
  have cne : ∀ j : Nat, (j : Int) ≠ p → zup c p y j = c j := fun j h => zup_ne h
  have lp : ∀ (r fuel i : Nat) (x3 x4 : Int), i + r = P → r < fuel → (x4 = 0 ∨ x4 = 1) → (0 ≤ x3 ∧ x3 ≤ y) → (∀ j : Nat, j < i → (j : Int) ≠ p → x3 ≤ c j) → (x3 = y ∨ ∃ j : Nat, j < i ∧ (j : Int) ≠ p ∧ x3 = c j) →
      (x4 = 1 → x3 = y ∧ y ≠ 7 ∧ ∀ j : Nat, j < i → (j : Int) ≠ p → y < c j ∨ (y = c j ∧ p < j)) → (x4 = 0 → y = 7 ∨ ∃ j : Nat, j < i ∧ (j : Int) ≠ p ∧ (c j < y ∨ (c j = y ∧ (j : Int) < p))) →
      f113_at18 N fuel p x3 x4 i v = some (wcost d pr P (zup c p y) p, v) := by
    intro r
    induction r with
    | zero =>
      intro fuel i x3 x4 e hf h4 h3 hle hx h41 h40
      obtain ⟨fuel, rfl⟩ : ∃ g, fuel = g + 1 := ⟨fuel - 1, by omega⟩
      have ei : i = P := by omega
      subst ei
      -- the least day
      have hm : x3 = zup c p y A := by
        have a1 := s2 p.toNat (by omega)
        rw [show ((p.toNat : Nat) : Int) = p by omega, cp] at a1
        have a2 : x3 ≤ zup c p y A := by
          by_cases q : A = p
          · rw [q, cp]; exact h3.2
          · rw [hAn, cne An (by omega)]
            exact hle An (by omega) (by omega)
        rcases hx with q | ⟨j, j1, j2, j3⟩
        · omega
        · have := s2 j j1
          rw [cne j j2] at this
          omega
      have md : 0 ≤ d p * x3 ∧ d p * x3 ≤ 800 * 7 := by
        refine ⟨Int.mul_nonneg hd.1 h3.1, ?_⟩
        exact Int.mul_le_mul hd.2 (by omega) h3.1 (by decide)
      unfold f113_at18 wcost
      rw [v0, if_pos (Int.le_refl _), ick_ok p0.1 (by omega), v2 p p0.1 p0.2, iov_ok (by omega) (by omega), v1, hA, ← hm]
      by_cases g : x4 = 0
      · rw [if_pos g, Int.add_zero, iov_ok (by omega) (by omega), if_neg, Int.add_zero]
        rintro ⟨q1, q2⟩
        rcases h40 g with q | ⟨j, j1, j2, j3⟩
        · rw [hm, q1, cp] at q2
          omega
        · have b1 := s2 j j1
          rw [cne j j2, q1, cp] at b1
          rcases j3 with j3 | ⟨j3, j4⟩
          · omega
          · have b2 := s3 j (by omega)
            rw [cne j j2, q1, cp] at b2
            omega
      · obtain ⟨q1, q2, q3⟩ := h41 (by clear h40 hx h41; omega)
        have eA : A = p := by
          by_cases q : A = p
          · exact q
          · have b0 : zup c p y A = c An := by rw [hAn]; exact cne An (by omega)
            have b1 := q3 An (by omega) (by omega)
            rcases b1 with b1 | ⟨b1, b2⟩
            · omega
            · have b3 := s3 p.toNat (by omega)
              rw [show ((p.toNat : Nat) : Int) = p by omega, cp] at b3
              omega
        rw [if_neg g, iov_ok (by omega) (by omega), if_pos ⟨eA, by omega⟩]
    | succ r ih =>
      intro fuel i x3 x4 e hf h4 h3 hle hx h41 h40
      obtain ⟨fuel, rfl⟩ : ∃ g, fuel = g + 1 := ⟨fuel - 1, by omega⟩
      have c1 : ((i + 1 : Nat) : Int) = (i : Int) + 1 := by omega
      have ci := hc i (by omega)
      have better : (i : Int) ≠ p → (c i < x3 ∨ (c i = x3 ∧ (i : Int) < p)) → f113_at18 N fuel p (c i) 0 ((i : Int) + 1) v = some (wcost d pr P (zup c p y) p, v) := by
        intro hne hb
        rw [← c1]
        refine ih fuel (i + 1) (c i) 0 (by omega) (by omega) (Or.inl rfl) ⟨ci.1, by omega⟩ (fun j j1 j2 => ?_) (Or.inr ⟨i, by omega, hne, rfl⟩) (fun q => by omega) (fun _ => ?_)
        · by_cases q : j = i
          · subst q; exact Int.le_refl _
          · have := hle j (by omega) j2; omega
        · by_cases q : x3 = y
          · refine Or.inr ⟨i, by omega, hne, ?_⟩
            rcases hb with hb | ⟨hb1, hb2⟩
            · exact Or.inl (by omega)
            · exact Or.inr ⟨by omega, hb2⟩
          · refine Or.inr ⟨i, by omega, hne, Or.inl ?_⟩
            omega
      have same : (i : Int) = p ∨ ¬ (c i < x3 ∨ (c i = x3 ∧ (i : Int) < p)) → f113_at18 N fuel p x3 x4 ((i : Int) + 1) v = some (wcost d pr P (zup c p y) p, v) := by
        intro hs
        rw [← c1]
        refine ih fuel (i + 1) x3 x4 (by omega) (by omega) h4 h3 (fun j j1 j2 => ?_) ?_ (fun q => ?_) (fun q => ?_)
        · by_cases q : j = i
          · subst q
            rcases hs with hs | hs
            · exact absurd hs j2
            · clear hx h40 h41; omega
          · exact hle j (by omega) j2
        · rcases hx with q | ⟨j, j1, j2, j3⟩
          · exact Or.inl q
          · exact Or.inr ⟨j, by omega, j2, j3⟩
        · obtain ⟨q1, q2, q3⟩ := h41 q
          refine ⟨q1, q2, fun j j1 j2 => ?_⟩
          by_cases qq : j = i
          · subst qq
            rcases hs with hs | hs
            · exact absurd hs j2
            · clear hx h40 h41; omega
          · exact q3 j (by omega) j2
        · rcases h40 q with q | ⟨j, j1, j2, j3⟩
          · exact Or.inl q
          · exact Or.inr ⟨j, by omega, j2, j3⟩
      unfold f113_at18
      rw [v0, if_neg (by omega), ick_ok (by omega) (by omega), v3]
      unfold f113_at55 f113_at59 f113_at60
      by_cases hip : (i : Int) = p
      · rw [if_pos hip, if_pos hip, iov_ok (by omega) (by omega)]
        by_cases g1 : c i < x3
        · rw [if_pos g1]
          exact same (Or.inl hip)
        · rw [if_neg g1, ick_ok (by omega) (by omega)]
          by_cases g2 : c i = x3
          · rw [if_pos g2, if_pos (by omega)]
            exact same (Or.inl hip)
          · rw [if_neg g2]
            exact same (Or.inl hip)
      · rw [if_neg hip, if_neg hip, if_neg (show ¬ (1 : Int) = 0 by decide), if_pos (show (0 : Int) = 0 from rfl), ick_ok (by omega) (by omega), v3, iov_ok (by omega) (by omega)]
        dsimp only
        by_cases g1 : c i < x3
        · rw [if_pos g1]
          exact better hip (Or.inl g1)
        · rw [if_neg g1, ick_ok (by omega) (by omega)]
          by_cases g2 : c i = x3
          · rw [if_pos g2]
            by_cases g3 : p ≤ i
            · rw [if_pos g3, iov_ok (by omega) (by omega)]
              exact same (Or.inr (by clear hx h40 h41; omega))
            · rw [if_neg g3]
              exact better hip (Or.inr ⟨g2, by omega⟩)
          · rw [if_neg g2, iov_ok (by omega) (by omega)]
            exact same (Or.inr (by clear hx h40 h41; omega))
  unfold f113
  by_cases g : y = 7
  · rw [if_pos g]
    exact lp P N 0 y 0 (by omega) (by omega) (Or.inl rfl) ⟨y0.1, Int.le_refl _⟩ (fun j hj => by omega) (Or.inl rfl) (fun q => by omega) (fun _ => Or.inl g)
  · rw [if_neg g]
    exact lp P N 0 y 1 (by omega) (by omega) (Or.inr rfl) ⟨y0.1, Int.le_refl _⟩ (fun j hj => by omega) (Or.inl rfl) (fun _ => ⟨rfl, g, fun j hj => by omega⟩) (fun q => by omega)
theorem c_isRest (hN : 5000 ≤ N) (hv : wv P pr d c v) (hP : 1 ≤ P ∧ P ≤ 4) (hc : ∀ j : Nat, j < P → 0 ≤ c j ∧ c j ≤ 7) (hd : ∀ p : Int, 0 ≤ p → p < P → 0 ≤ d p ∧ d p ≤ 800) (hpr : 0 ≤ pr ∧ pr ≤ 999) : f112 N v = some (if rsB d pr P c = true then 1 else 0, v) := by
  have lpy : ∀ {f : Int → gI → Option (Int × gI)} {p : Int}, 0 ≤ p → p < P → ∀ (r fuel : Nat) (y : Int), 0 ≤ y → y + r = 8 → r < fuel →
      f112_at24 N f fuel p (wcost d pr P c p) y v = if allB (fun y => decide (wcost d pr P c p ≤ wcost d pr P (zup c p y) p)) r y = true then f (p + 1) v else some (0, v) := by
    intro f p p0 p1 r
    induction r with
    | zero =>
      intro fuel y y0 e hf
      obtain ⟨fuel, rfl⟩ : ∃ g, fuel = g + 1 := ⟨fuel - 1, by omega⟩
      unfold f112_at24
      rw [if_pos (by omega), iov_ok (by omega) (by omega)]
      rfl
    | succ r ih =>
      intro fuel y y0 e hf
      obtain ⟨fuel, rfl⟩ : ∃ g, fuel = g + 1 := ⟨fuel - 1, by omega⟩
      have go := ih fuel (y + 1) (by omega) (by omega) (by omega)
      unfold f112_at24 allB
      rw [if_neg (by omega), c_cost hN hv hP ⟨p0, p1⟩ ⟨y0, by omega⟩ hc (hd p p0 p1) hpr, i_o2_some]
      by_cases g : wcost d pr P c p ≤ wcost d pr P (zup c p y) p
      · rw [if_pos g, iov_ok (by omega) (by omega), decide_eq_true g, Bool.true_and]
        exact go
      · rw [if_neg g, ib1_ok (Or.inl rfl), decide_eq_false g, Bool.false_and]
        exact (if_neg (by decide)).symm
  have lpp : ∀ (r fuel : Nat) (p : Int), 0 ≤ p → p + r = P → r < fuel → f112_at2 N fuel p v = some (if allB (fun p => allB (fun y => decide (wcost d pr P c p ≤ wcost d pr P (zup c p y) p)) 8 0) r p = true then 1 else 0, v) := by
    intro r
    induction r with
    | zero =>
      intro fuel p p0 e hf
      obtain ⟨fuel, rfl⟩ : ∃ g, fuel = g + 1 := ⟨fuel - 1, by omega⟩
      unfold f112_at2
      rw [hv.1, if_pos (by omega), ib1_ok (Or.inr rfl)]
      rfl
    | succ r ih =>
      intro fuel p p0 e hf
      obtain ⟨fuel, rfl⟩ : ∃ g, fuel = g + 1 := ⟨fuel - 1, by omega⟩
      have go := ih fuel (p + 1) (by omega) (by omega) (by omega)
      have l1 := c_cost (y := c p) hN hv hP ⟨p0, by omega⟩ (by have := hc p.toNat (by omega); rwa [show ((p.toNat : Nat) : Int) = p by omega] at this) hc (hd p p0 (by omega)) hpr
      rw [zup_self] at l1
      have l2 := lpy (f := f112_at2 N fuel) p0 (by omega : p < P) 8 N 0 (by decide) (by decide) (by omega)
      unfold f112_at2
      rw [hv.1, if_neg (by omega), ick_ok p0 (by omega), hv.2.2.2, l1, i_o2_some, l2]
      conv => rhs; unfold allB
      by_cases g : allB (fun y => decide (wcost d pr P c p ≤ wcost d pr P (zup c p y) p)) 8 0 = true
      · rw [if_pos g, go, g, Bool.true_and]
      · rw [if_neg g]
        have : allB (fun y => decide (wcost d pr P c p ≤ wcost d pr P (zup c p y) p)) 8 0 = false := by
          cases hh : allB (fun y => decide (wcost d pr P c p ≤ wcost d pr P (zup c p y) p)) 8 0 with
          | true => exact absurd hh g
          | false => rfl
        rw [this, Bool.false_and]
        rfl
  exact lpp P N 0 (by decide) (by omega) (by omega)
theorem c_dec_lp : ∀ (r fuel : Nat) (z : Int) (F : Int → Int), 0 ≤ z → r ≤ 4 → r < fuel → f111_at9 N fuel z ((r : Int) - 1) (ic v 40 F) = some (ic v 40 (dec r z F)) := by
  intro r
  induction r with
  | zero =>
    intro fuel z F z0 r4 hf
    obtain ⟨fuel, rfl⟩ : ∃ g, fuel = g + 1 := ⟨fuel - 1, by omega⟩
    unfold f111_at9
    rw [if_pos (by decide)]
    rfl
  | succ r ih =>
    intro fuel z F z0 r4 hf
    obtain ⟨fuel, rfl⟩ : ∃ g, fuel = g + 1 := ⟨fuel - 1, by omega⟩
    unfold f111_at9 dec
    rw [show ((r + 1 : Nat) : Int) - 1 = (r : Int) by omega, if_neg (by omega), idv_ok z0 (by decide), ick_ok (by omega) (by omega)]
    dsimp only
    rw [idv_ok z0 (by decide), show (r : Int) + -1 = (r : Int) - 1 by omega, iov_ok (by omega) (by omega), iw_ic, ic_at, ic_ic]
    exact ih fuel (z / 8) _ (by omega) (by omega) (by omega)
theorem c_find_lp {w T : Int} (hN : 5000 ≤ N) (hP : 1 ≤ P ∧ P ≤ 4) (hd : ∀ p : Int, 0 ≤ p → p < P → 0 ≤ d p ∧ d p ≤ 800) (hpr : 0 ≤ pr ∧ pr ≤ 999) (hT : T ≤ 4096) : ∀ (r fuel : Nat) (z n : Int) (v : gI), 0 ≤ z → z + r = T → 0 ≤ n → n ≤ z → r < fuel → wt s v → (∃ c, wv P pr d c v) →
    ∃ v2, f110_at14 N fuel w T n z v = some (fnd (fun z => rsB d pr P (dec P z (fun _ => 0))) w r z n, v2) ∧ wt s v2 := by
  intro r
  induction r with
  | zero =>
    intro fuel z n v z0 e n0 n1 hf h hv
    obtain ⟨fuel, rfl⟩ : ∃ g, fuel = g + 1 := ⟨fuel - 1, by omega⟩
    refine ⟨v, ?_, h⟩
    unfold f110_at14 fnd
    rw [if_pos (by omega)]
    split <;> rfl
  | succ r ih =>
    intro fuel z n v z0 e n0 n1 hf h hv
    obtain ⟨fuel, rfl⟩ : ∃ g, fuel = g + 1 := ⟨fuel - 1, by omega⟩
    obtain ⟨c, v0, v1, v2, v3⟩ := hv
    have l1 := c_dec_lp (N := N) (v := v) P N z (v.1 40) z0 hP.2 (by omega)
    rw [ic_self] at l1
    have l111 : f111 N z v = some (ic v 40 (dec P z (v.1 40))) := by
      unfold f111
      rw [v0, iov_ok (by omega) (by omega)]
      exact l1
    have hv2 : wv P pr d (dec P z (v.1 40)) (ic v 40 (dec P z (v.1 40))) := ⟨by rw [ic_ne (by decide)]; exact v0, by rw [ic_ne (by decide)]; exact v1, by rw [ic_ne (by decide)]; exact v2, ic_at⟩
    have h2 : wt s (ic v 40 (dec P z (v.1 40))) := wt_c (Or.inr (Or.inr rfl)) h
    have l112 := c_isRest hN hv2 hP (fun j hj => (dec_in P z (v.1 40) (v.1 40) j z0 (by omega) (by omega)).2) hd hpr
    rw [rsB_congr hP.1 (c2 := dec P z (fun _ => 0)) (fun j hj => (dec_in P z (v.1 40) (fun _ => 0) j z0 (by omega) (by omega)).1)] at l112
    unfold f110_at14 fnd
    rw [if_neg (by omega), l111, i_o1_some, l112, i_o2_some]
    by_cases g : rsB d pr P (dec P z (fun _ => 0)) = true
    · rw [if_pos g, if_neg (by decide), if_pos g]
      by_cases g2 : n = w
      · rw [if_pos g2, if_pos g2]
        exact ⟨_, rfl, h2⟩
      · rw [if_neg g2, if_neg g2, iov_ok (by omega) (by omega)]
        dsimp only
        rw [iov_ok (by omega) (by omega)]
        exact ih fuel (z + 1) (n + 1) _ (by omega) (by omega) (by omega) (by omega) (by omega) h2 ⟨_, hv2⟩
    · rw [if_neg g, if_pos rfl, if_neg g, iov_ok (by omega) (by omega)]
      exact ih fuel (z + 1) n _ (by omega) (by omega) n0 (by omega) (by omega) h2 ⟨_, hv2⟩
end RESTS

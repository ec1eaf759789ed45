/-! Promise 19: plan, the class. -/
section CPLAN
variable {N : Nat} {s v u : gI} {k x a : Int} {P : Int → Int}
def mxO (g : Int → Int) (P : Int → Int) : Nat → Int → Int → Int
  | 0, _, a => a
  | r + 1, o, a => mxO g P r (o + 1) (if 64 ≤ P o then a else if g (P o) ≤ a then a else g (P o))
def mxT (g : Int → Int → Int) (P : Int → Int) (n : Nat) : Nat → Int → Int → Int
  | 0, _, a => a
  | r + 1, t, a => mxT g P n r (t + 1) (if P t = 64 then mxO (g t) P n 0 a else a)
def mxQ (g : Int → Int → Int → Int) (P : Int → Int) (n : Nat) : Nat → Int → Int → Int
  | 0, _, a => a
  | r + 1, q, a => mxQ g P n r (q + 1) (mxT (g q) P n n 0 a)
/-- the greatest of what each may get with each thing at each that lies on the roof -/
def isMx (g : Int → Int → Int → Int) (P : Int → Int) (n np : Nat) (b M : Int) : Prop := b ≤ M ∧ (∀ q t o : Nat, q < np → t < n → o < n → P t = 64 → P o < 64 → g q t (P o) ≤ M) ∧ (M = b ∨ ∃ q t o : Nat, q < np ∧ t < n ∧ o < n ∧ P t = 64 ∧ P o < 64 ∧ M = g q t (P o))
theorem mxO_sp {g : Int → Int} : ∀ (r o : Nat) (a : Int), a ≤ mxO g P r o a ∧ (∀ j : Nat, o ≤ j → j < o + r → P j < 64 → g (P j) ≤ mxO g P r o a) ∧ (mxO g P r o a = a ∨ ∃ j : Nat, o ≤ j ∧ j < o + r ∧ P j < 64 ∧ mxO g P r o a = g (P j))
  | 0, o, a => ⟨Int.le_refl _, fun j h1 h2 => by omega, Or.inl rfl⟩
  | r + 1, o, a => by
    have c : ((o + 1 : Nat) : Int) = (o : Int) + 1 := by omega
    obtain ⟨h1, h2, h3⟩ := mxO_sp (g := g) r (o + 1) (if 64 ≤ P o then a else if g (P o) ≤ a then a else g (P o))
    unfold mxO
    rw [← c]
    generalize hM : mxO g P r ((o + 1 : Nat) : Int) (if 64 ≤ P o then a else if g (P o) ≤ a then a else g (P o)) = M at h1 h2 h3
    by_cases g1 : 64 ≤ P o
    · rw [if_pos g1] at h1 h3
      refine ⟨h1, fun j j0 j1 hj => ?_, ?_⟩
      · by_cases e : j = o
        · subst e; omega
        · exact h2 j (by omega) (by omega) hj
      · rcases h3 with h | ⟨j, j0, j1, hj, e⟩
        · exact Or.inl h
        · exact Or.inr ⟨j, by omega, by omega, hj, e⟩
    · rw [if_neg g1] at h1 h3
      by_cases g2 : g (P o) ≤ a
      · rw [if_pos g2] at h1 h3
        refine ⟨h1, fun j j0 j1 hj => ?_, ?_⟩
        · by_cases e : j = o
          · subst e; omega
          · exact h2 j (by omega) (by omega) hj
        · rcases h3 with h | ⟨j, j0, j1, hj, e⟩
          · exact Or.inl h
          · exact Or.inr ⟨j, by omega, by omega, hj, e⟩
      · rw [if_neg g2] at h1 h3
        refine ⟨by omega, fun j j0 j1 hj => ?_, ?_⟩
        · by_cases e : j = o
          · subst e; omega
          · exact h2 j (by omega) (by omega) hj
        · rcases h3 with h | ⟨j, j0, j1, hj, e⟩
          · exact Or.inr ⟨o, by omega, by omega, by omega, h⟩
          · exact Or.inr ⟨j, by omega, by omega, hj, e⟩
theorem mxT_sp {g : Int → Int → Int} {n : Nat} : ∀ (r t : Nat) (a : Int), a ≤ mxT g P n r t a ∧ (∀ i j : Nat, t ≤ i → i < t + r → j < n → P i = 64 → P j < 64 → g i (P j) ≤ mxT g P n r t a) ∧ (mxT g P n r t a = a ∨ ∃ i j : Nat, t ≤ i ∧ i < t + r ∧ j < n ∧ P i = 64 ∧ P j < 64 ∧ mxT g P n r t a = g i (P j))
  | 0, t, a => ⟨Int.le_refl _, fun i j h1 h2 => by omega, Or.inl rfl⟩
  | r + 1, t, a => by
    have c : ((t + 1 : Nat) : Int) = (t : Int) + 1 := by omega
    obtain ⟨h1, h2, h3⟩ := mxT_sp (g := g) r (t + 1) (if P t = 64 then mxO (g t) P n 0 a else a)
    obtain ⟨k1, k2, k3⟩ := mxO_sp (P := P) (g := g t) n 0 a
    have z0 : ((0 : Nat) : Int) = 0 := rfl
    rw [z0] at k1 k2 k3
    unfold mxT
    rw [← c]
    generalize hM : mxT g P n r ((t + 1 : Nat) : Int) (if P t = 64 then mxO (g t) P n 0 a else a) = M at h1 h2 h3
    by_cases g1 : P t = 64
    · rw [if_pos g1] at h1 h3
      refine ⟨by omega, fun i j i0 i1 j1 hi hj => ?_, ?_⟩
      · by_cases e : i = t
        · subst e
          have := k2 j (by omega) (by omega) hj
          omega
        · exact h2 i j (by omega) (by omega) j1 hi hj
      · rcases h3 with h | ⟨i, j, i0, i1, j1, hi, hj, e⟩
        · rcases k3 with k | ⟨j, j0, j1, hj, e⟩
          · exact Or.inl (h.trans k)
          · exact Or.inr ⟨t, j, by omega, by omega, by omega, g1, hj, h.trans e⟩
        · exact Or.inr ⟨i, j, by omega, by omega, j1, hi, hj, e⟩
    · rw [if_neg g1] at h1 h3
      refine ⟨h1, fun i j i0 i1 j1 hi hj => ?_, ?_⟩
      · by_cases e : i = t
        · subst e; exact absurd hi g1
        · exact h2 i j (by omega) (by omega) j1 hi hj
      · rcases h3 with h | ⟨i, j, i0, i1, j1, hi, hj, e⟩
        · exact Or.inl h
        · exact Or.inr ⟨i, j, by omega, by omega, j1, hi, hj, e⟩
theorem mxQ_sp {g : Int → Int → Int → Int} {n : Nat} : ∀ (r q : Nat) (a : Int), a ≤ mxQ g P n r q a ∧ (∀ h i j : Nat, q ≤ h → h < q + r → i < n → j < n → P i = 64 → P j < 64 → g h i (P j) ≤ mxQ g P n r q a) ∧ (mxQ g P n r q a = a ∨ ∃ h i j : Nat, q ≤ h ∧ h < q + r ∧ i < n ∧ j < n ∧ P i = 64 ∧ P j < 64 ∧ mxQ g P n r q a = g h i (P j))
  | 0, q, a => ⟨Int.le_refl _, fun h i j h1 h2 => by omega, Or.inl rfl⟩
  | r + 1, q, a => by
    have c : ((q + 1 : Nat) : Int) = (q : Int) + 1 := by omega
    obtain ⟨h1, h2, h3⟩ := mxQ_sp (g := g) r (q + 1) (mxT (g q) P n n 0 a)
    obtain ⟨k1, k2, k3⟩ := mxT_sp (P := P) (g := g q) (n := n) n 0 a
    have z0 : ((0 : Nat) : Int) = 0 := rfl
    rw [z0] at k1 k2 k3
    unfold mxQ
    rw [← c]
    generalize hM : mxQ g P n r ((q + 1 : Nat) : Int) (mxT (g q) P n n 0 a) = M at h1 h2 h3
    refine ⟨by omega, fun h i j q0 q1 i1 j1 hi hj => ?_, ?_⟩
    · by_cases e : h = q
      · subst e
        have := k2 i j (by omega) (by omega) j1 hi hj
        omega
      · exact h2 h i j (by omega) (by omega) i1 j1 hi hj
    · rcases h3 with h | ⟨h, i, j, q0, q1, i1, j1, hi, hj, e⟩
      · rcases k3 with k | ⟨i, j, i0, i1, j1, hi, hj, e⟩
        · exact Or.inl (h.trans k)
        · exact Or.inr ⟨q, i, j, by omega, by omega, by omega, j1, hi, hj, h.trans e⟩
      · exact Or.inr ⟨h, i, j, by omega, by omega, i1, j1, hi, hj, e⟩
theorem mxQ_is {g : Int → Int → Int → Int} {n np : Nat} {b : Int} : isMx g P n np b (mxQ g P n np 0 b) := by
  obtain ⟨h1, h2, h3⟩ := mxQ_sp (P := P) (g := g) (n := n) np 0 b
  refine ⟨h1, fun q t o q1 t1 o1 ht ho => h2 q t o (by omega) (by omega) t1 o1 ht ho, ?_⟩
  rcases h3 with h | ⟨h, i, j, q0, q1, i1, j1, hi, hj, e⟩
  · exact Or.inl h
  · exact Or.inr ⟨h, i, j, by omega, i1, j1, hi, hj, e⟩
theorem isMx_le {g : Int → Int → Int → Int} {n np : Nat} {b M M2 : Int} (h1 : isMx g P n np b M) (h2 : isMx g P n np b M2) : M ≤ M2 := by
  rcases h1.2.2 with e | ⟨q, t, o, q1, t1, o1, ht, ho, e⟩
  · rw [e]; exact h2.1
  · rw [e]; exact h2.2.1 q t o q1 t1 o1 ht ho
theorem isMx_eq {g : Int → Int → Int → Int} {n np : Nat} {b M M2 : Int} (h1 : isMx g P n np b M) (h2 : isMx g P n np b M2) : M = M2 := Int.le_antisymm (isMx_le h1 h2) (isMx_le h2 h1)
def m1 (s : gI) (p : Int → Int) : Int := mxQ (fun q t c => meanV (cQ s) p t c (s.1 16 q) (s.1 20)) p (s.1 15 3).toNat (s.1 15 0).toNat 0 (80 * wIn p (s.1 20) (s.1 15 3).toNat)
theorem mul_rgB {a b B : Int} (h0 : 0 ≤ a) (h1 : a ≤ 80) (hB : 0 ≤ B) (h2 : -B ≤ b) (h3 : b ≤ B) : -(80 * B) ≤ a * b ∧ a * b ≤ 80 * B := by
  have e1 := Int.mul_le_mul_of_nonneg_left h3 h0
  have e2 := Int.mul_le_mul_of_nonneg_left h2 h0
  have e3 := Int.mul_le_mul_of_nonneg_right h1 hB
  have e4 : a * -B = -(a * B) := Int.mul_neg a B
  omega
theorem c_mean1B {b q : Int} (hs : CS s) (q0 : 0 ≤ q ∧ q < 4) (ha : -6000000 ≤ a ∧ a ≤ 6000000) (hb : -6000000 ≤ b ∧ b ≤ 6000000) : f9 N q a b s = some (wgt (s.1 16 q) 0 * a + wgt (s.1 16 q) 1 * b, s) := by
  have ar := hs.2.2.2.1 q q0.1 q0.2
  have w0 := wgt_rg (a := s.1 16 q) (z := 0) ar.1 ar.2
  have w1 := wgt_rg (a := s.1 16 q) (z := 1) ar.1 ar.2
  have m0 := mul_rgB w0.1 w0.2 (B := 6000000) (by decide) ha.1 ha.2
  have m1 := mul_rgB w1.1 w1.2 (B := 6000000) (by decide) hb.1 hb.2
  unfold f9
  rw [ick_ok q0.1 q0.2]
  dsimp only
  rw [c_weight ar.1 ar.2, i_o2_some, iov_ok (by omega) (by omega), c_weight ar.1 ar.2, i_o2_some, iov_ok (by omega) (by omega), iov_ok (by omega) (by omega)]
theorem c_best {b : Int} (hN : 5000 ≤ N) (hs : CS s) (hP : 1 ≤ s.1 15 0 ∧ s.1 15 0 ≤ 4) (ha : -6000000 ≤ a ∧ a ≤ 6000000) (hb : -6000000 ≤ b ∧ b ≤ 6000000) :
    ∃ M, f10 N a b s = some (M, s) ∧ (∀ q : Nat, q < (s.1 15 0).toNat → wgt (s.1 16 q) 0 * a + wgt (s.1 16 q) 1 * b ≤ M) ∧ ∃ q : Nat, q < (s.1 15 0).toNat ∧ M = wgt (s.1 16 q) 0 * a + wgt (s.1 16 q) 1 * b := by
  have lp : ∀ (r fuel q : Nat) (M : Int), r < fuel → (q : Int) + r = s.1 15 0 → (∀ j : Nat, j < q → wgt (s.1 16 j) 0 * a + wgt (s.1 16 j) 1 * b ≤ M) → (∃ j : Nat, j < q ∧ M = wgt (s.1 16 j) 0 * a + wgt (s.1 16 j) 1 * b) →
      ∃ M2, f10_at11 N fuel a b M q s = some (M2, s) ∧ (∀ j : Nat, j < (s.1 15 0).toNat → wgt (s.1 16 j) 0 * a + wgt (s.1 16 j) 1 * b ≤ M2) ∧ ∃ j : Nat, j < (s.1 15 0).toNat ∧ M2 = wgt (s.1 16 j) 0 * a + wgt (s.1 16 j) 1 * b := by
    intro r
    induction r with
    | zero =>
      intro fuel q M hf e h1 h2
      obtain ⟨fuel, rfl⟩ : ∃ g, fuel = g + 1 := ⟨fuel - 1, by omega⟩
      have eq : (s.1 15 0).toNat = q := by omega
      refine ⟨M, ?_, by rw [eq]; exact h1, by rw [eq]; exact h2⟩
      unfold f10_at11
      rw [if_pos (by omega)]
    | succ r ih =>
      intro fuel q M hf e h1 h2
      obtain ⟨fuel, rfl⟩ : ∃ g, fuel = g + 1 := ⟨fuel - 1, by omega⟩
      have c : ((q + 1 : Nat) : Int) = (q : Int) + 1 := by omega
      unfold f10_at11
      rw [if_neg (by omega), c_mean1B hs ⟨by omega, by omega⟩ ha hb, i_o2_some]
      dsimp only
      rw [iov_ok (by omega) (by omega), ← c]
      by_cases g : M < wgt (s.1 16 q) 0 * a + wgt (s.1 16 q) 1 * b
      · rw [if_pos g]
        exact ih fuel (q + 1) _ (by omega) (by omega) (fun j hj => by
          by_cases ej : j = q
          · subst ej; omega
          · have := h1 j (by omega); omega) ⟨q, by omega, rfl⟩
      · rw [if_neg g]
        exact ih fuel (q + 1) M (by omega) (by omega) (fun j hj => by
          by_cases ej : j = q
          · subst ej; omega
          · exact h1 j (by omega)) (by obtain ⟨j, j1, j2⟩ := h2; exact ⟨j, by omega, j2⟩)
  have := lp ((s.1 15 0).toNat - 1) N 1 (wgt (s.1 16 0) 0 * a + wgt (s.1 16 0) 1 * b) (by omega) (by omega) (fun j hj => by
    have : j = 0 := by omega
    subst this
    exact Int.le_refl _) ⟨0, by decide, rfl⟩
  unfold f10
  rw [c_mean1B hs ⟨by decide, by decide⟩ ha hb, i_o2_some]
  exact this
theorem c_isIn {t : Int} (hn : s.1 15 3 ≤ 8) (t0 : 0 ≤ t) : f13 N t s = some (if t < s.1 15 3 ∧ s.1 7 t = 64 then 1 else 0, s) := by
  unfold f13
  by_cases h : s.1 15 3 ≤ t
  · rw [if_pos h, ib1_ok (Or.inl rfl), if_neg (by omega)]
  · rw [if_neg h, ick_ok (by omega) (by omega), ib1_ok (Or.inr rfl), ib1_ok (Or.inl rfl)]
    by_cases h2 : s.1 7 t = 64
    · rw [if_pos h2, if_pos (show t < s.1 15 3 ∧ s.1 7 t = 64 from ⟨by omega, h2⟩)]
    · rw [if_neg h2, if_neg (show ¬ (t < s.1 15 3 ∧ s.1 7 t = 64) from fun h => h2 h.2)]
theorem c_ring1_lp {f : Int → Int → Int → gI → Option (Int × gI)} {T : Nat} {b M i c g0 : Int} (hN : 5000 ≤ N) (hs : CS s) (hT : T < (cQ s).2.2.2.1) (hp : s.1 7 T = 64) (c0 : 0 ≤ c ∧ c < 64) : ∀ (r fuel z : Nat), z + r = 9 → 1 ≤ z → r < fuel →
    f11_at84 N f fuel b M i T c g0 (rngS s T c z) z s = i_o2 (f10 N g0 (rngS s T c 9) s) fun i2 s1 => iov (b + i2) <| iov (i + 1) <| f b (if M < b + i2 then b + i2 else M) (i + 1) s1 := by
  have hn := cW_n hs.1
  have t8 : (0 : Int) ≤ T ∧ (T : Int) < 8 := ⟨by omega, by omega⟩
  intro r
  induction r with
  | zero =>
    intro fuel z e z1 hf
    obtain ⟨fuel, rfl⟩ : ∃ g, fuel = g + 1 := ⟨fuel - 1, by omega⟩
    have ez : z = 9 := by omega
    subst ez
    unfold f11_at84
    rw [if_pos (by decide)]
  | succ r ih =>
    intro fuel z e z1 hf
    obtain ⟨fuel, rfl⟩ : ∃ g, fuel = g + 1 := ⟨fuel - 1, by omega⟩
    have e1 : ((z + 1 : Nat) : Int) = (z : Int) + 1 := by omega
    have rx := sX_rg (z := z) (by omega) (by omega)
    have ry := sY_rg (z := z) (by omega) (by omega)
    have rr := rngS_rg (c := c) hs t8 z (by omega)
    have gg := gT_rg (x := c % 8 + sX z) (y := c / 8 + sY z) hs t8
    have eS : rngS s T c (z + 1) = rngS s T c z + gT s T (c % 8 + sX z) (c / 8 + sY z) := by
      show rngS s T c z + (if z = 0 then 0 else gT s T (c % 8 + sX z) (c / 8 + sY z)) = _
      rw [if_neg (by omega)]
    unfold f11_at84
    rw [if_neg (by omega), idv_ok (by omega) (by decide), ick_ok (by omega) (by omega), i_slipX (by omega) (by omega), iov_ok (by omega) (by omega), idv_ok (by omega) (by decide), ick_ok (by omega) (by omega), i_slipY (by omega) (by omega), iov_ok (by omega) (by omega), c_gT hN hs nx.rf hT hp (by omega) (by omega), i_o2_some, iov_ok (by omega) (by omega)]
    dsimp only
    rw [iov_ok (by omega) (by omega), ← eS, ← e1]
    exact ih fuel (z + 1) (by omega) (by omega) (by omega)
theorem c_plan1 (hN : 5000 ≤ N) (hs : CS s) (hP : s.1 15 0 ≤ 4) (hP1 : 0 < s.1 15 3 → 1 ≤ s.1 15 0) (hE : ∀ j, s.1 15 3 ≤ j → j < 8 → s.1 7 j = 64) : f11 N s = some (m1 s (s.1 7), s) := by
  have hn := cW_n hs.1
  have hn0 := hs.1.2.2.1
  have en : (cQ s).2.2.2.1 = (s.1 15 3).toNat := rfl
  have rwH := wIn_rg (p := s.1 7) (wo := s.1 20) (n := (cQ s).2.2.2.1) hn hs.2.2.2.2
  rw [en] at rwH
  generalize hg : (fun q t c : Int => meanV (cQ s) (s.1 7) t c (s.1 16 q) (s.1 20)) = g
  generalize hb : 80 * wIn (s.1 7) (s.1 20) (s.1 15 3).toNat = b
  have lp : ∀ (r fuel i : Nat) (M : Int), r < fuel → i + r = 64 → b ≤ M → (∀ q t o : Nat, q < (s.1 15 0).toNat → t < (s.1 15 3).toNat → o < (s.1 15 3).toNat → s.1 7 t = 64 → s.1 7 o < 64 → 8 * t + o < i → g q t (s.1 7 o) ≤ M) → (M = b ∨ ∃ q t o : Nat, q < (s.1 15 0).toNat ∧ t < (s.1 15 3).toNat ∧ o < (s.1 15 3).toNat ∧ s.1 7 t = 64 ∧ s.1 7 o < 64 ∧ M = g q t (s.1 7 o)) →
      ∃ M2, f11_at15 N fuel b M i s = some (M2, s) ∧ isMx g (s.1 7) (s.1 15 3).toNat (s.1 15 0).toNat b M2 := by
    intro r
    induction r with
    | zero =>
      intro fuel i M hf e h1 h2 h3
      obtain ⟨fuel, rfl⟩ : ∃ g, fuel = g + 1 := ⟨fuel - 1, by omega⟩
      refine ⟨M, ?_, h1, fun q t o q1 t1 o1 ht ho => h2 q t o q1 t1 o1 ht ho (by omega), h3⟩
      unfold f11_at15
      rw [if_pos (by omega)]
    | succ r ih =>
      intro fuel i M hf e h1 h2 h3
      obtain ⟨fuel, rfl⟩ : ∃ g, fuel = g + 1 := ⟨fuel - 1, by omega⟩
      have c1 : ((i + 1 : Nat) : Int) = (i : Int) + 1 := by omega
      have eT : (i : Int) / 8 = ((i / 8 : Nat) : Int) := by omega
      have eO : (i : Int) % 8 = ((i % 8 : Nat) : Int) := by omega
      have skip : ¬ ((i / 8 < (s.1 15 3).toNat ∧ s.1 7 (i / 8 : Nat) = 64) ∧ s.1 7 (i % 8 : Nat) < 64) → ∃ M2, f11_at15 N fuel b M ((i : Int) + 1) s = some (M2, s) ∧ isMx g (s.1 7) (s.1 15 3).toNat (s.1 15 0).toNat b M2 := by
        intro hno
        rw [← c1]
        refine ih fuel (i + 1) M (by omega) (by omega) h1 (fun q t o q1 t1 o1 ht ho hi => ?_) h3
        by_cases q3 : 8 * t + o < i
        · exact h2 q t o q1 t1 o1 ht ho q3
        · have et : t = i / 8 := by omega
          have eo : o = i % 8 := by omega
          exact absurd ⟨⟨by omega, by rw [← et]; exact ht⟩, by rw [← eo]; exact ho⟩ hno
      unfold f11_at15
      rw [if_neg (by omega), idv_ok (by omega) (by decide)]
      dsimp only
      rw [idv_ok (by omega) (by decide), ick_ok (by omega) (by omega), eT, eO, c_isIn hn0.2 (by omega), i_o2_some]
      by_cases g1 : ((i / 8 : Nat) : Int) < s.1 15 3 ∧ s.1 7 ((i / 8 : Nat) : Int) = 64
      rotate_left
      · rw [if_neg g1, if_pos rfl, iov_ok (by omega) (by omega)]
        exact skip (fun hh => g1 ⟨by clear h3; omega, hh.1.2⟩)
      rw [if_pos g1, if_neg (by decide)]
      by_cases g2 : s.1 7 ((i % 8 : Nat) : Int) < 64
      rotate_left
      · rw [if_neg g2, iov_ok (by omega) (by omega)]
        exact skip (fun hh => g2 hh.2)
      have o1 : ((i % 8 : Nat) : Int) < s.1 15 3 := by
        by_cases q : ((i % 8 : Nat) : Int) < s.1 15 3
        · exact q
        · have := hE ((i % 8 : Nat) : Int) (by omega) (by omega)
          omega
      have oO := okq_rg (hs.2.2.1 (i % 8) (by clear h3; omega))
      generalize hc : s.1 7 ((i % 8 : Nat) : Int) = c at g2 oO
      have t8 : (0 : Int) ≤ ((i / 8 : Nat) : Int) ∧ ((i / 8 : Nat) : Int) < 8 := ⟨by omega, by omega⟩
      have gg := gT_rg (x := c % 8) (y := c / 8) hs t8
      have rr := rngS_rg (c := c) hs t8 9 (by decide)
      obtain ⟨m, q1, q2, j, q3, q4⟩ := c_best (N := N) (a := gT s ((i / 8 : Nat) : Int) (c % 8) (c / 8)) (b := rngS s ((i / 8 : Nat) : Int) c 9) hN hs ⟨hP1 (by omega), hP⟩ (by omega) (by omega)
      have mg : ∀ q : Int, g q ((i / 8 : Nat) : Int) c = b + (wgt (s.1 16 q) 0 * gT s ((i / 8 : Nat) : Int) (c % 8) (c / 8) + wgt (s.1 16 q) 1 * rngS s ((i / 8 : Nat) : Int) c 9) := fun q => by
        have := mean_gn (q := q) (c := c) hs (show i / 8 < (cQ s).2.2.2.1 by omega) g1.2
        rw [← hg, ← hb, ← gnOf_split]
        have e : wH s = wIn (s.1 7) (s.1 20) (s.1 15 3).toNat := rfl
        rw [e] at this
        show meanV (cQ s) (s.1 7) ((i / 8 : Nat) : Int) c (s.1 16 q) (s.1 20) = _
        omega
      have rj := gnOf_rg (q := j) (c := c) hs t8 ⟨by omega, by omega⟩
      have l84 := c_ring1_lp (N := N) (f := f11_at15 N fuel) (b := b) (M := M) (i := i) (c := c) (g0 := gT s ((i / 8 : Nat) : Int) (c % 8) (c / 8)) hN hs (show i / 8 < (cQ s).2.2.2.1 by omega) g1.2 ⟨by omega, g2⟩ 8 N 1 (by decide) (by decide) (by omega)
      have l84' : f11_at84 N (f11_at15 N fuel) N b M i ((i / 8 : Nat) : Int) c (gT s ((i / 8 : Nat) : Int) (c % 8) (c / 8)) 0 1 s = _ := l84
      rw [if_pos g2, idv_ok (by omega) (by decide), idv_ok (by omega) (by decide), c_gT hN hs nx.rf (show i / 8 < (cQ s).2.2.2.1 by omega) g1.2 (by omega) (by omega), i_o2_some, l84', q1, i_o2_some, iov_ok (by omega) (by omega), iov_ok (by omega) (by omega), ← c1]
      have gq := mg j
      rw [← q4] at gq
      have h2' : ∀ M', M ≤ M' → b + m ≤ M' → ∀ q t o : Nat, q < (s.1 15 0).toNat → t < (s.1 15 3).toNat → o < (s.1 15 3).toNat → s.1 7 t = 64 → s.1 7 o < 64 → 8 * t + o < i + 1 → g q t (s.1 7 o) ≤ M' := by
        intro M' hM hM2 q t o q1 t1 o1 ht ho hi
        by_cases q5 : 8 * t + o < i
        · have := h2 q t o q1 t1 o1 ht ho q5
          omega
        · have et : t = i / 8 := by omega
          have eo : o = i % 8 := by omega
          rw [et, eo, hc, mg]
          have := q2 q q1
          omega
      by_cases g3 : M < b + m
      · rw [if_pos g3]
        exact ih fuel (i + 1) (b + m) (by omega) (by omega) (by omega) (h2' _ (by omega) (by omega)) (Or.inr ⟨j, i / 8, i % 8, q3, by clear h3; omega, by clear h3; omega, g1.2, by rw [hc]; exact g2, by rw [hc]; clear h3; omega⟩)
      · rw [if_neg g3]
        exact ih fuel (i + 1) M (by omega) (by omega) h1 (h2' _ (by omega) (by omega)) h3
  obtain ⟨M2, l1, l2⟩ := lp 64 N 0 b (by omega) (by decide) (Int.le_refl _) (fun q t o _ _ _ _ _ h => by omega) (Or.inl rfl)
  have em : m1 s (s.1 7) = M2 := by
    unfold m1
    rw [hg, hb]
    exact isMx_eq mxQ_is l2
  unfold f11
  rw [c_worth hN hs.1 hs.2.2.2.2, i_o2_some, iov_ok (by omega) (by omega), em]
  dsimp only
  rw [hb]
  exact l1
end CPLAN

/-! Promise 32: count answered alike. -/
section COUNT
variable {N : Nat} {s v u : gI} {k x a : Int} {p f : Int → Int}
def cRf (p : Int → Int) (n : Nat) : Int := sumN (fun k => if 64 ≤ p k then 0 else 1) n
def cPp (p : Int → Int) (n : Nat) : Int := sumN (fun k => if p k < 128 then 0 else 1) n
def cOv (p : Int → Int) (n : Nat) : Int := sumN (fun k => if p k = 65 then 1 else 0) n
def sCn (f : Int → Int) (n : Nat) : Int := sumN (fun k => if f k = -2 then 0 else 1) n
theorem c01 {g : Nat → Int} (h : ∀ k, g k = 0 ∨ g k = 1) : ∀ n : Nat, 0 ≤ sumN g n ∧ sumN g n ≤ n
  | 0 => ⟨Int.le_refl _, Int.le_refl _⟩
  | n + 1 => by
    have ih := c01 h n
    have e : sumN g (n + 1) = sumN g n + g n := rfl
    have := h n
    rw [e]
    omega
theorem cnt_split {n : Nat} (hp : ∀ j : Nat, j < n → p j = 64 ∨ p j = 65 ∨ (0 ≤ p j ∧ p j < 64) ∨ (128 ≤ p j ∧ p j < 192)) : ∀ i : Nat, i ≤ n → cntL p i - cntAt p 66 i = cRf p i ∧ cntAt p 65 i = cOv p i ∧ cntAt p 66 i = cPp p i
  | 0, _ => ⟨rfl, rfl, rfl⟩
  | i + 1, hi => by
    obtain ⟨h1, h2, h3⟩ := cnt_split hp i (by omega)
    have e1 : cRf p (i + 1) = cRf p i + (if 64 ≤ p i then 0 else 1) := rfl
    have e2 : cOv p (i + 1) = cOv p i + (if p i = 65 then 1 else 0) := rfl
    have e3 : cPp p (i + 1) = cPp p i + (if p i < 128 then 0 else 1) := rfl
    have h := hp i (by omega)
    rw [cntL_S, cntAt_S, cntAt_S, e1, e2, e3]
    have t : tol (p i) = if p i < 128 then p i else 66 := rfl
    rw [t]
    rcases h with h | h | h | h
    · rw [if_pos h, if_pos (show p i < 128 by omega), if_neg (show ¬ p i = 66 by omega), if_pos (show 64 ≤ p i by omega), if_neg (show ¬ p i = 65 by omega), if_pos (show p i < 128 by omega)]; omega
    · rw [if_neg (show ¬ p i = 64 by omega), if_pos h, if_pos (show p i < 128 by omega), if_neg (show ¬ p i = 66 by omega), if_pos (show 64 ≤ p i by omega), if_pos h, if_pos (show p i < 128 by omega)]; omega
    · rw [if_neg (show ¬ p i = 64 by omega), if_neg (show ¬ p i = 65 by omega), if_pos (show p i < 128 by omega), if_neg (show ¬ p i = 66 by omega), if_neg (show ¬ 64 ≤ p i by omega), if_neg (show ¬ p i = 65 by omega), if_pos (show p i < 128 by omega)]; omega
    · rw [if_neg (show ¬ p i = 64 by omega), if_neg (show ¬ p i = 65 by omega), if_neg (show ¬ p i < 128 by omega), if_pos (show (66 : Int) = 66 from rfl), if_pos (show 64 ≤ p i by omega), if_neg (show ¬ (66 : Int) = 65 by decide), if_neg (show ¬ p i = 65 by omega), if_neg (show ¬ p i < 128 by omega)]; omega
theorem c_seen_lp : ∀ (r fuel i : Nat), i + r = 8 → r < fuel → f93_at4 N fuel (sCn (s.1 10) i) i s = some (sCn (s.1 10) 8, s) := by
  intro r
  induction r with
  | zero =>
    intro fuel i e hf
    obtain ⟨fuel, rfl⟩ : ∃ g, fuel = g + 1 := ⟨fuel - 1, by omega⟩
    unfold f93_at4
    rw [if_pos (by omega), show i = 8 by omega]
  | succ r ih =>
    intro fuel i e hf
    obtain ⟨fuel, rfl⟩ : ∃ g, fuel = g + 1 := ⟨fuel - 1, by omega⟩
    have c1 : ((i + 1 : Nat) : Int) = (i : Int) + 1 := by omega
    have ih := ih fuel (i + 1) (by omega) (by omega)
    have es : sCn (s.1 10) (i + 1) = sCn (s.1 10) i + (if s.1 10 i = -2 then 0 else 1) := rfl
    have rg := c01 (g := fun k : Nat => if s.1 10 k = -2 then 0 else 1) (fun k => by split; exact Or.inl rfl; exact Or.inr rfl) i
    have rg : 0 ≤ sCn (s.1 10) i ∧ sCn (s.1 10) i ≤ i := rg
    unfold f93_at4 f93_at27
    rw [if_neg (by omega), ick_ok (by omega) (by omega)]
    by_cases g : s.1 10 i = -2
    · rw [es, if_pos g, c1] at ih
      rw [if_pos g, iov_ok (by omega) (by omega), iov_ok (by omega) (by omega)]
      exact ih
    · rw [es, if_neg g, c1] at ih
      rw [if_neg g, iov_ok (by omega) (by omega), iov_ok (by omega) (by omega)]
      exact ih
/-- what the reference answers at the end -/
noncomputable def ctA (N : Nat) (a x2 x3 x4 x5 : Int) (v : gI) : Option (Int × gI) :=
  if a = 0 then some (v.1 69 0, v) else if a = 1 then some (v.1 69 1, v) else if a = 2 then some (v.1 71 0, v) else if a = 3 then some (v.1 71 1, v) else if a = 4 then i_o2 (f267 N 0 v) (fun i12 s11 => some (i12, s11)) else if a = 5 then some (x2, v) else if a = 6 then some (x3, v) else if a = 7 then some (x4, v) else if a = 8 then some (v.1 78 16, v) else if a = 9 then some (v.1 78 17, v) else if a = 10 then some (v.1 63 23, v) else if a = 11 then some (x5, v) else if a = 12 then some (v.1 63 2, v) else some (-1, v)
theorem m_seen_lp {x2 x3 x4 : Int} (hW : 0 ≤ v.1 69 0 ∧ v.1 69 0 ≤ 8) : ∀ (r fuel i : Nat), (i : Int) + r = v.1 69 0 → r < fuel → f292_at99 N fuel a x2 x3 x4 (sCn (sh 18 (v.1 78)) i) i v = ctA N a x2 x3 x4 (sCn (sh 18 (v.1 78)) (v.1 69 0).toNat) v := by
  intro r
  induction r with
  | zero =>
    intro fuel i e hf
    obtain ⟨fuel, rfl⟩ : ∃ g, fuel = g + 1 := ⟨fuel - 1, by omega⟩
    unfold f292_at99 ctA
    rw [m_wide, i_o2_some, if_pos (by omega), m_wide, m_deep, m_people, m_things, i_o2_some, i_o2_some, i_o2_some, i_o2_some, ick_ok (by omega) (by omega), ick_ok (by omega) (by omega), show (v.1 69 0).toNat = i by omega]
  | succ r ih =>
    intro fuel i e hf
    obtain ⟨fuel, rfl⟩ : ∃ g, fuel = g + 1 := ⟨fuel - 1, by omega⟩
    have c1 : ((i + 1 : Nat) : Int) = (i : Int) + 1 := by omega
    have ih := ih fuel (i + 1) (by omega) (by omega)
    have es : sCn (sh 18 (v.1 78)) (i + 1) = sCn (sh 18 (v.1 78)) i + (if v.1 78 (18 + i) = -2 then 0 else 1) := rfl
    have rg := c01 (g := fun k : Nat => if sh 18 (v.1 78) k = -2 then 0 else 1) (fun k => by split; exact Or.inl rfl; exact Or.inr rfl) i
    have rg : 0 ≤ sCn (sh 18 (v.1 78)) i ∧ sCn (sh 18 (v.1 78)) i ≤ i := rg
    unfold f292_at99 f292_at130
    rw [m_wide, i_o2_some, if_neg (by omega), iov_ok (by omega) (by omega), ick_ok (by omega) (by omega)]
    by_cases g : v.1 78 (18 + i) = -2
    · rw [es, if_pos g, c1] at ih
      rw [if_pos g, iov_ok (by omega) (by omega), iov_ok (by omega) (by omega)]
      exact ih
    · rw [es, if_neg g, c1] at ih
      rw [if_neg g, iov_ok (by omega) (by omega), iov_ok (by omega) (by omega)]
      exact ih
theorem m_places_lp (hN : 5000 ≤ N) (hW : 0 ≤ v.1 69 0 ∧ v.1 69 0 ≤ 8) (hn : 0 ≤ v.1 71 1 ∧ v.1 71 1 ≤ 8) : ∀ (r fuel i : Nat), (i : Int) + r = v.1 71 1 → r < fuel → f292_at18 N fuel a (cRf (v.1 78) i) (cOv (v.1 78) i) (cPp (v.1 78) i) 0 i v = ctA N a (cRf (v.1 78) (v.1 71 1).toNat) (cOv (v.1 78) (v.1 71 1).toNat) (cPp (v.1 78) (v.1 71 1).toNat) (sCn (sh 18 (v.1 78)) (v.1 69 0).toNat) v := by
  intro r
  induction r with
  | zero =>
    intro fuel i e hf
    obtain ⟨fuel, rfl⟩ : ∃ g, fuel = g + 1 := ⟨fuel - 1, by omega⟩
    unfold f292_at18
    rw [m_things, i_o2_some, if_pos (by omega), show (v.1 71 1).toNat = i by omega]
    exact m_seen_lp hW (v.1 69 0).toNat N 0 (by omega) (by omega)
  | succ r ih =>
    intro fuel i e hf
    obtain ⟨fuel, rfl⟩ : ∃ g, fuel = g + 1 := ⟨fuel - 1, by omega⟩
    have c1 : ((i + 1 : Nat) : Int) = (i : Int) + 1 := by omega
    have ih := ih fuel (i + 1) (by omega) (by omega)
    have e1 : cRf (v.1 78) (i + 1) = cRf (v.1 78) i + (if 64 ≤ v.1 78 i then 0 else 1) := rfl
    have e2 : cOv (v.1 78) (i + 1) = cOv (v.1 78) i + (if v.1 78 i = 65 then 1 else 0) := rfl
    have e3 : cPp (v.1 78) (i + 1) = cPp (v.1 78) i + (if v.1 78 i < 128 then 0 else 1) := rfl
    have r1 := c01 (g := fun k : Nat => if 64 ≤ v.1 78 k then 0 else 1) (fun k => by split; exact Or.inl rfl; exact Or.inr rfl) i
    have r1 : 0 ≤ cRf (v.1 78) i ∧ cRf (v.1 78) i ≤ i := r1
    have r2 := c01 (g := fun k : Nat => if v.1 78 k = 65 then 1 else 0) (fun k => by split; exact Or.inr rfl; exact Or.inl rfl) i
    have r2 : 0 ≤ cOv (v.1 78) i ∧ cOv (v.1 78) i ≤ i := r2
    have r3 := c01 (g := fun k : Nat => if v.1 78 k < 128 then 0 else 1) (fun k => by split; exact Or.inl rfl; exact Or.inr rfl) i
    have r3 : 0 ≤ cPp (v.1 78) i ∧ cPp (v.1 78) i ≤ i := r3
    rw [e1, e2, e3, c1] at ih
    have at87 : ∀ x2 x3 : Int, f292_at18 N fuel a x2 x3 (cPp (v.1 78) i + (if v.1 78 i < 128 then 0 else 1)) 0 ((i : Int) + 1) v = (if v.1 78 i < 128 then f292_at87 N (f292_at18 N fuel) a x2 x3 0 i 0 (cPp (v.1 78) i) v else f292_at87 N (f292_at18 N fuel) a x2 x3 0 i 1 (cPp (v.1 78) i) v) := fun x2 x3 => by
      unfold f292_at87
      by_cases g : v.1 78 i < 128
      · rw [if_pos g, if_pos g, iov_ok (by omega) (by omega), iov_ok (by omega) (by omega)]
      · rw [if_neg g, if_neg g, iov_ok (by omega) (by omega), iov_ok (by omega) (by omega)]
    have at45 : ∀ d : Int, d = (if 64 ≤ v.1 78 i then 0 else 1) → f292_at45 N (f292_at18 N fuel) a (cOv (v.1 78) i) (cPp (v.1 78) i) 0 i d (cRf (v.1 78) i) v = f292_at18 N fuel a (cRf (v.1 78) i + d) (cOv (v.1 78) i + (if v.1 78 i = 65 then 1 else 0)) (cPp (v.1 78) i + (if v.1 78 i < 128 then 0 else 1)) 0 ((i : Int) + 1) v := fun d hd => by
      have dr : 0 ≤ d ∧ d ≤ 1 := by rw [hd]; split <;> omega
      rw [at87]
      unfold f292_at45 f292_at65
      rw [iov_ok (by omega) (by omega), ick_ok (by omega) (by omega)]
      dsimp only
      by_cases g : v.1 78 i = 65
      · rw [if_pos g, if_pos g, iov_ok (by omega) (by omega), ick_ok (by omega) (by omega)]
      · rw [if_neg g, if_neg g, iov_ok (by omega) (by omega), ick_ok (by omega) (by omega)]
    unfold f292_at18
    rw [m_things, i_o2_some, if_neg (by omega), ick_ok (by omega) (by omega)]
    by_cases g : 64 ≤ v.1 78 i
    · rw [if_pos g, at45 0 (if_pos g).symm]
      rw [if_pos g] at ih
      exact ih
    · rw [if_neg g, at45 1 (if_neg g).symm]
      rw [if_neg g] at ih
      exact ih
theorem q_count (hN : 5000 ≤ N) (hI : INV k s) : OKc k s (f164 N a) (f292 N a) := by
  obtain ⟨e0, e1, e2, e3, e4⟩ := INV_eq hI
  have hw := hI.1.1.1
  have hV := hI.1.1.2.2.1
  have i2 := hI.2.1
  have hn0 := hw.2.2.1
  obtain ⟨⟨hW0, hW⟩, ⟨hD0, hD⟩, -, -⟩ := id hw
  have en : (cQ s).2.2.2.1 = (s.1 15 3).toNat := rfl
  have n63 : ∀ b : Nat, b ≠ 63 → (iw s 63 0 0).1 b = s.1 b := fun b h => iw_ne h
  have f23 : (iw s 63 0 0).1 63 23 = s.1 41 4 := by rw [iw_at, zup_ne (by decide)]; exact hI.2.2.2.2.1.1
  have f2 : (iw s 63 0 0).1 63 2 = s.1 1 1 := by rw [iw_at, zup_ne (by decide)]; exact hI.2.2.2.2.2.1.1
  have h1 := c_manyAt (N := N) (s := s) hN hw (w := 64)
  have h2 := c_manyAt (N := N) (s := s) hN hw (w := 65)
  have h3 := c_manyAt (N := N) (s := s) hN hw (w := 66)
  have h4 := c_manyLost (N := N) (s := s) hN hw
  rw [inH_tol] at h1
  obtain ⟨s1, s2, s3⟩ := cnt_split (p := s.1 7) (n := (s.1 15 3).toNat) (fun j hj => okq_rg (hV j (by omega))) (s.1 15 3).toNat (Nat.le_refl _)
  have r3 := cntAt_rg (p := s.1 7) (z := 66) (s.1 15 3).toNat
  have r4 := cntL_rg (p := s.1 7) (s.1 15 3).toNat
  have h5 := c_seen_lp (N := N) (s := s) 8 N 0 (by decide) (by omega)
  have h5 : f93 N s = some (sCn (s.1 10) 8, s) := h5
  have mh := m_inHand (N := N) (s := iw s 63 0 0) hN (INV_thrown hI).1.2.1 (b := 0) (by decide) (by decide)
  rw [n63 78 (by decide), n63 71 (by decide), e3, inH_congr (q := s.1 7) (fun j hj => by rw [sh_at, Int.zero_add]; exact e4 j (by omega) (by omega))] at mh
  have lm := m_places_lp (N := N) (v := iw s 63 0 0) (a := a) hN (by rw [n63 69 (by decide), e0]; omega) (by rw [n63 71 (by decide), e3]; exact hn0) (s.1 15 3).toNat N 0 (by rw [n63 71 (by decide), e3]; omega) (by omega)
  rw [n63 78 (by decide), n63 71 (by decide), n63 69 (by decide), e3, e0] at lm
  have p1 : cRf (s.1 78) (s.1 15 3).toNat = cRf (s.1 7) (s.1 15 3).toNat := sumN_congr _ fun j hj => by rw [e4 j (by omega) (by omega)]
  have p2 : cOv (s.1 78) (s.1 15 3).toNat = cOv (s.1 7) (s.1 15 3).toNat := sumN_congr _ fun j hj => by rw [e4 j (by omega) (by omega)]
  have p3 : cPp (s.1 78) (s.1 15 3).toNat = cPp (s.1 7) (s.1 15 3).toNat := sumN_congr _ fun j hj => by rw [e4 j (by omega) (by omega)]
  have p4 : sCn (sh 18 (s.1 78)) (s.1 12 0).toNat = sCn (s.1 10) 8 := by
    have a1 : sCn (sh 18 (s.1 78)) (s.1 12 0).toNat = sCn (s.1 10) (s.1 12 0).toNat := sumN_congr _ fun j hj => by rw [sh_at, i2.2.2.2.1 j (by omega) (by omega)]
    have a2 : ∀ r : Nat, (s.1 12 0).toNat + r ≤ 8 → sCn (s.1 10) ((s.1 12 0).toNat + r) = sCn (s.1 10) (s.1 12 0).toNat := by
      intro r
      induction r with
      | zero => intro _; rfl
      | succ r ih =>
        intro h
        have e : sCn (s.1 10) ((s.1 12 0).toNat + (r + 1)) = sCn (s.1 10) ((s.1 12 0).toNat + r) + (if s.1 10 (((s.1 12 0).toNat + r : Nat) : Int) = -2 then 0 else 1) := rfl
        rw [e, ih (by omega), if_pos (i2.2.2.2.2.1.2 _ (by omega) (by omega)), Int.add_zero]
    rw [a1, ← a2 (8 - (s.1 12 0).toNat) (by omega), show (s.1 12 0).toNat + (8 - (s.1 12 0).toNat) = 8 by omega]
  rw [p1, p2, p3, p4] at lm
  have lm' : f292_at18 N N a 0 0 0 0 0 (iw s 63 0 0) = ctA N a (cRf (s.1 7) (s.1 15 3).toNat) (cOv (s.1 7) (s.1 15 3).toNat) (cPp (s.1 7) (s.1 15 3).toNat) (sCn (s.1 10) 8) (iw s 63 0 0) := lm
  have lm2 : f292 N a s = ctA N a (cRf (s.1 7) (s.1 15 3).toNat) (cOv (s.1 7) (s.1 15 3).toNat) (cPp (s.1 7) (s.1 15 3).toNat) (sCn (s.1 10) 8) (iw s 63 0 0) := lm'
  unfold ctA at lm2
  rw [mh, i_o2_some, f23, f2, n63 69 (by decide), n63 71 (by decide), n63 78 (by decide), e0, e1, e2, e3, i2.2.1, i2.2.2.1] at lm2
  have c := fun (z : Int) (hc : f164 N a s = some (z, s)) (hm : f292 N a s = some (z, iw s 63 0 0)) => OKc.q hI hc hm sameQ_thrown
  have lc : f164 N a s = f164 N a s := rfl
  conv at lc => rhs; unfold f164
  simp only [h1, h2, h3, h4, h5, i_o2_some] at lc
  rw [iov_ok (by omega) (by omega), s1, s2, s3] at lc
  by_cases g0 : a = 0
  · rw [if_pos g0] at lc lm2; exact c _ lc lm2
  rw [if_neg g0] at lc lm2
  by_cases g1 : a = 1
  · rw [if_pos g1] at lc lm2; exact c _ lc lm2
  rw [if_neg g1] at lc lm2
  by_cases g2 : a = 2
  · rw [if_pos g2] at lc lm2; exact c _ lc lm2
  rw [if_neg g2] at lc lm2
  by_cases g3 : a = 3
  · rw [if_pos g3] at lc lm2; exact c _ lc lm2
  rw [if_neg g3] at lc lm2
  by_cases g4 : a = 4
  · rw [if_pos g4] at lc lm2; exact c _ lc lm2
  rw [if_neg g4] at lc lm2
  by_cases g5 : a = 5
  · rw [if_pos g5] at lc lm2; exact c _ lc lm2
  rw [if_neg g5] at lc lm2
  by_cases g6 : a = 6
  · rw [if_pos g6] at lc lm2; exact c _ lc lm2
  rw [if_neg g6] at lc lm2
  by_cases g7 : a = 7
  · rw [if_pos g7] at lc lm2; exact c _ lc lm2
  rw [if_neg g7] at lc lm2
  by_cases g8 : a = 8
  · rw [if_pos g8] at lc lm2; exact c _ lc lm2
  rw [if_neg g8] at lc lm2
  by_cases g9 : a = 9
  · rw [if_pos g9] at lc lm2; exact c _ lc lm2
  rw [if_neg g9] at lc lm2
  by_cases g10 : a = 10
  · rw [if_pos g10] at lc lm2; exact c _ lc lm2
  rw [if_neg g10] at lc lm2
  by_cases g11 : a = 11
  · rw [if_pos g11] at lc lm2; exact c _ lc lm2
  rw [if_neg g11] at lc lm2
  by_cases g12 : a = 12
  · rw [if_pos g12] at lc lm2; exact c _ lc lm2
  rw [if_neg g12] at lc lm2
  exact c _ lc lm2
end COUNT

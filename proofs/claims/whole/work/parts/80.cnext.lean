/-! Promise 18: next, the class. -/
section CNEXT
variable {N : Nat} {s v u : gI} {k t x y : Int} {A : Int → Option (Int × (Int × Int × Int))}
/-- what a throw brings that comes to this very cell -/
def gT (s : gI) (t x y : Int) : Int := gnV (s.1 20) (thrown (cQ s) (s.1 7) t x y) (hitOf (cQ s) (s.1 7) t x y) t
def gnOf (s : gI) (q t c : Int) : Int := sumN (fun z => wgt (s.1 16 q) z * gT s t (c % 8 + sX z) (c / 8 + sY z)) 9
def nx (s v : gI) : Prop := (∀ a : Nat, (a < 32 ∨ 36 < a) → v.1 a = s.1 a) ∧ v.2 = s.2
theorem nx.rf : nx s s := ⟨fun _ _ => rfl, rfl⟩
theorem nx_w {a : Nat} {i z : Int} (ha : 32 ≤ a ∧ a ≤ 36) (h : nx s v) : nx s (iw v a i z) := ⟨fun b hb => by rw [iw_ne (by omega)]; exact h.1 b hb, h.2⟩
theorem nx_c {a : Nat} {F : Int → Int} (ha : 32 ≤ a ∧ a ≤ 36) (h : nx s v) : nx s (ic v a F) := ⟨fun b hb => by rw [ic_ne (by omega)]; exact h.1 b hb, h.2⟩
theorem nx_Q (h : nx s v) : cQ v = cQ s := by
  unfold cQ
  rw [h.1 12 (by omega), h.1 13 (by omega), h.1 15 (by omega), h.1 18 (by omega)]
theorem nx_CS (h : nx s v) (hs : CS s) : CS v := by
  obtain ⟨h1, h2, h3, h4, h5⟩ := hs
  refine ⟨?_, ?_, ?_, ?_, ?_⟩
  · unfold cOK
    rw [h.1 12 (by omega), h.1 13 (by omega), h.1 15 (by omega)]
    exact h1
  · unfold scOK
    rw [h.1 9 (by omega), h.1 7 (by omega), h.1 15 (by omega)]
    exact h2
  · rw [nx_Q h, h.1 7 (by omega)]
    exact h3
  · rw [h.1 16 (by omega)]
    exact h4
  · unfold cWo
    rw [h.1 20 (by omega)]
    exact h5
theorem gT_nx (h : nx s v) : gT v t x y = gT s t x y := by
  unfold gT
  rw [nx_Q h, h.1 20 (by omega), h.1 7 (by omega)]
theorem gT_rg (hs : CS s) (t0 : 0 ≤ t ∧ t < 8) : -99 ≤ gT s t x y ∧ gT s t x y ≤ 99 := by
  have hn := cW_n hs.1
  have hr := hit_rg (Q := cQ s) (p := s.1 7) (t := t) (x := x) (y := y) hn
  exact gnV_rg hs.2.2.2.2 t0.1 t0.2 hr.1 hr.2
theorem c_gT {T : Nat} (hN : 5000 ≤ N) (hs : CS s) (h : nx s v) (hT : T < (cQ s).2.2.2.1) (hp : s.1 7 T = 64) (hx : -1 ≤ x ∧ x ≤ 100) (hy : -100 ≤ y ∧ y ≤ 100) : f4 N T x y v = some (gT s T x y, v) := by
  have := c_landingGain (N := N) (s := v) (m := T) (x := x) (y := y) hN (nx_CS h hs) (by rw [nx_Q h]; exact hT) (by rw [h.1 7 (by omega)]; exact hp) hx hy
  rw [this]
  show some (gT v T x y, v) = _
  rw [gT_nx h]
/-- the table of what each cell brings -/
def tabH (s : gI) (t : Int) (F : Int → Int) (y x : Int) : Prop := ∀ x' y', -1 ≤ x' → x' ≤ s.1 12 0 → -1 ≤ y' → y' ≤ s.1 12 1 → (y' < y ∨ (y' = y ∧ x' < x)) → F ((y' + 1) * 10 + x' + 1) = gT s t x' y'
theorem c_tab_x {T : Nat} {f : Int → Int → gI → Option gI} (hN : 5000 ≤ N) (hs : CS s) (hT : T < (cQ s).2.2.2.1) (hp : s.1 7 T = 64) (y0 : -1 ≤ y) (y1 : y ≤ s.1 12 1) : ∀ (r fuel : Nat) (x : Int) (v : gI), r < fuel → -1 ≤ x → x + r = s.1 12 0 + 1 → nx s v → tabH s T (v.1 33) y x →
    ∃ v2, f6_at18 N f fuel T y x v = f T (y + 1) v2 ∧ nx s v2 ∧ (∀ a, a ≠ 33 → v2.1 a = v.1 a) ∧ tabH s T (v2.1 33) (y + 1) (-1) := by
  obtain ⟨⟨hW0, hW⟩, ⟨hD0, hD⟩, -, -⟩ := hs.1
  intro r
  induction r with
  | zero =>
    intro fuel x v hf x0 e h ht
    obtain ⟨fuel, rfl⟩ : ∃ g, fuel = g + 1 := ⟨fuel - 1, by omega⟩
    refine ⟨v, ?_, h, fun _ _ => rfl, fun x' y' a b c d g => ht x' y' a b c d (by omega)⟩
    unfold f6_at18
    rw [h.1 12 (by omega), if_pos (by omega), iov_ok (by omega) (by omega)]
  | succ r ih =>
    intro fuel x v hf x0 e h ht
    obtain ⟨fuel, rfl⟩ : ∃ g, fuel = g + 1 := ⟨fuel - 1, by omega⟩
    have hg := c_gT (N := N) (x := x) (y := y) hN hs h hT hp (by omega) (by omega)
    obtain ⟨v2, g1, g2, g3, g4⟩ := ih fuel (x + 1) (iw v 33 ((y + 1) * 10 + x + 1) (gT s T x y)) (by omega) (by omega) (by omega) (nx_w (by omega) h) (fun x' y' a b c d g => by
      rw [iw_at]
      by_cases q : y' = y ∧ x' = x
      · rw [q.1, q.2, zup_same]
      · rw [zup_ne (by omega)]
        exact ht x' y' a b c d (by omega))
    refine ⟨v2, ?_, g2, fun a ha => by rw [g3 a ha, iw_ne ha], g4⟩
    unfold f6_at18
    rw [h.1 12 (by omega), if_neg (by omega), iov_ok (by omega) (by omega), iov_ok (by omega) (by omega), iov_ok (by omega) (by omega), iov_ok (by omega) (by omega), hg, i_o2_some, ick_ok (by omega) (by omega)]
    dsimp only
    rw [iov_ok (by omega) (by omega)]
    exact g1
theorem c_tab_y {T : Nat} (hN : 5000 ≤ N) (hs : CS s) (hT : T < (cQ s).2.2.2.1) (hp : s.1 7 T = 64) : ∀ (r fuel : Nat) (y : Int) (v : gI), r < fuel → -1 ≤ y → y + r = s.1 12 1 + 1 → nx s v → tabH s T (v.1 33) y (-1) →
    ∃ v2, f6_at2 N fuel T y v = some v2 ∧ nx s v2 ∧ (∀ a, a ≠ 33 → v2.1 a = v.1 a) ∧ tabH s T (v2.1 33) (s.1 12 1 + 1) (-1) := by
  obtain ⟨⟨hW0, hW⟩, ⟨hD0, hD⟩, -, -⟩ := hs.1
  intro r
  induction r with
  | zero =>
    intro fuel y v hf y0 e h ht
    obtain ⟨fuel, rfl⟩ : ∃ g, fuel = g + 1 := ⟨fuel - 1, by omega⟩
    refine ⟨v, ?_, h, fun _ _ => rfl, ?_⟩
    · unfold f6_at2
      rw [h.1 12 (by omega), if_pos (by omega)]
    · rw [show s.1 12 1 + 1 = y by omega]
      exact ht
  | succ r ih =>
    intro fuel y v hf y0 e h ht
    obtain ⟨fuel, rfl⟩ : ∃ g, fuel = g + 1 := ⟨fuel - 1, by omega⟩
    obtain ⟨v1, g1, g2, g3, g4⟩ := c_tab_x (N := N) (f := f6_at2 N fuel) hN hs hT hp y0 (by omega) (s.1 12 0 + 2).toNat N (-1) v (by omega) (by decide) (by omega) h ht
    obtain ⟨v2, k1, k2, k3, k4⟩ := ih fuel (y + 1) v1 (by omega) (by omega) (by omega) g2 g4
    refine ⟨v2, ?_, k2, fun a ha => by rw [k3 a ha, g3 a ha], k4⟩
    unfold f6_at2
    rw [h.1 12 (by omega), if_neg (by omega), g1, k1]
theorem c_tab {T : Nat} (hN : 5000 ≤ N) (hs : CS s) (hT : T < (cQ s).2.2.2.1) (hp : s.1 7 T = 64) (h : nx s v) : ∃ v2, f6 N T v = some v2 ∧ nx s v2 ∧ (∀ a, a ≠ 33 → v2.1 a = v.1 a) ∧ tabH s T (v2.1 33) (s.1 12 1 + 1) (-1) := by
  obtain ⟨⟨hW0, hW⟩, ⟨hD0, hD⟩, -, -⟩ := hs.1
  exact c_tab_y hN hs hT hp (s.1 12 1 + 2).toNat N (-1) v (by omega) (by decide) (by omega) h (fun x' y' a b c d g => by omega)
theorem sum_split {arm : Int} {g : Nat → Int} : ∀ n : Nat, sumN (fun z => wgt arm z * g z) (n + 1) = wgt arm 0 * g 0 + wgt arm 1 * sumN (fun z => if z = 0 then 0 else g z) (n + 1)
  | 0 => by
    show (0 : Int) + wgt arm ((0 : Nat) : Int) * g 0 = wgt arm 0 * g 0 + wgt arm 1 * ((0 : Int) + (if (0 : Nat) = 0 then 0 else g 0))
    rw [if_pos rfl, Int.zero_add, Int.add_zero, Int.mul_zero, Int.add_zero]
    rfl
  | n + 1 => by
    have ih := sum_split (arm := arm) (g := g) n
    show sumN (fun z => wgt arm z * g z) (n + 1) + wgt arm ((n + 1 : Nat) : Int) * g (n + 1) = wgt arm 0 * g 0 + wgt arm 1 * (sumN (fun z => if z = 0 then 0 else g z) (n + 1) + (if n + 1 = 0 then 0 else g (n + 1)))
    rw [ih, if_neg (by omega), Int.mul_add, ← Int.add_assoc]
    congr 2
/-- what all slips but none bring together -/
def rngS (s : gI) (t c : Int) (n : Nat) : Int := sumN (fun z => if z = 0 then 0 else gT s t (c % 8 + sX z) (c / 8 + sY z)) n
theorem gnOf_split {q c : Int} : gnOf s q t c = wgt (s.1 16 q) 0 * gT s t (c % 8) (c / 8) + wgt (s.1 16 q) 1 * rngS s t c 9 := by
  unfold gnOf rngS
  rw [sum_split (arm := s.1 16 q) (g := fun z : Nat => gT s t (c % 8 + sX z) (c / 8 + sY z)) 8]
  have a : sX ((0 : Nat) : Int) = 0 := by decide
  have b : sY ((0 : Nat) : Int) = 0 := by decide
  rw [a, b, Int.add_zero, Int.add_zero]
theorem rngS_rg (hs : CS s) (t0 : 0 ≤ t ∧ t < 8) {c : Int} : ∀ n : Nat, n ≤ 9 → -(99 * n) ≤ rngS s t c n ∧ rngS s t c n ≤ 99 * n := by
  intro n hn
  exact sumN_rgB (n := 9) (B := 99) (fun z _ => by
    have := gT_rg (x := c % 8 + sX z) (y := c / 8 + sY z) hs t0
    split <;> omega) n hn
theorem gnOf_rg (hs : CS s) (t0 : 0 ≤ t ∧ t < 8) {q c : Int} (q0 : 0 ≤ q ∧ q < 4) : -100000 ≤ wgt (s.1 16 q) 0 * gT s t (c % 8) (c / 8) ∧ wgt (s.1 16 q) 0 * gT s t (c % 8) (c / 8) ≤ 100000 ∧ -100000 ≤ wgt (s.1 16 q) 1 * rngS s t c 9 ∧ wgt (s.1 16 q) 1 * rngS s t c 9 ≤ 100000 := by
  have ar := hs.2.2.2.1 q q0.1 q0.2
  have w0 := wgt_rg (a := s.1 16 q) (z := 0) ar.1 ar.2
  have w1 := wgt_rg (a := s.1 16 q) (z := 1) ar.1 ar.2
  have g := gT_rg (x := c % 8) (y := c / 8) hs t0
  have r := rngS_rg (c := c) hs t0 9 (by decide)
  have m0 := mul_rg w0.1 w0.2 (b := gT s t (c % 8) (c / 8)) (by omega) (by omega)
  have m1 := mul_rg w1.1 w1.2 (b := rngS s t c 9) (by omega) (by omega)
  omega
theorem gnOf_ring {c : Int} : ∀ n : Nat, rngS s t c (n + 1) = rngS s t c 1 + sumN (fun z => gT s t (c % 8 + sX (z + 1 : Nat)) (c / 8 + sY (z + 1 : Nat))) n
  | 0 => (Int.add_zero _).symm
  | n + 1 => by
    show rngS s t c (n + 1) + (if n + 1 = 0 then 0 else gT s t (c % 8 + sX (n + 1 : Nat)) (c / 8 + sY (n + 1 : Nat))) = rngS s t c 1 + (sumN (fun z => gT s t (c % 8 + sX (z + 1 : Nat)) (c / 8 + sY (z + 1 : Nat))) n + gT s t (c % 8 + sX (n + 1 : Nat)) (c / 8 + sY (n + 1 : Nat)))
    rw [gnOf_ring n, if_neg (by omega), Int.add_assoc]
/-- no gain is less than the worth of one thing lost for sure -/
theorem gnOf_lo (hs : CS s) (t0 : 0 ≤ t ∧ t < 8) {q c : Int} (q0 : 0 ≤ q ∧ q < 4) : -7920 ≤ gnOf s q t c := by
  have ar := hs.2.2.2.1 q q0.1 q0.2
  have g := gT_rg (x := c % 8) (y := c / 8) hs t0
  have r := rngS_rg (c := c) hs t0 9 (by decide)
  have r0 : rngS s t c 9 = rngS s t c 1 + sumN (fun z => gT s t (c % 8 + sX (z + 1 : Nat)) (c / 8 + sY (z + 1 : Nat))) 8 := by
    have := gnOf_ring (s := s) (t := t) (c := c) 8
    exact this
  have l := sumN_rgB (n := 8) (B := 99) (f := fun z : Nat => gT s t (c % 8 + sX (z + 1 : Nat)) (c / 8 + sY (z + 1 : Nat))) (fun z _ => by
    have := gT_rg (x := c % 8 + sX (z + 1 : Nat)) (y := c / 8 + sY (z + 1 : Nat)) hs t0
    exact ⟨by omega, by omega⟩) 8 (by decide)
  have e1 : rngS s t c 1 = 0 := rfl
  have w0 : wgt (s.1 16 q) 0 = 8 * s.1 16 q := if_pos rfl
  have w1 : wgt (s.1 16 q) 1 = 10 - s.1 16 q := if_neg (by decide)
  rw [gnOf_split, w0, w1]
  have m0 := Int.mul_le_mul_of_nonneg_left (show (-99 : Int) ≤ gT s t (c % 8) (c / 8) from g.1) (show 0 ≤ 8 * s.1 16 q by omega)
  have m1 := Int.mul_le_mul_of_nonneg_left (show (-792 : Int) ≤ rngS s t c 9 by omega) (show 0 ≤ 10 - s.1 16 q by omega)
  omega
def g34 (a : Option (Int × (Int × Int × Int))) : Int := match a with
  | none => -8000
  | some b => b.1
/-- what the class has chosen for each so far -/
def relA (s : gI) (A : Int → Option (Int × (Int × Int × Int))) (v : gI) : Prop := ∀ q : Int, 0 ≤ q → q < s.1 15 0 → v.1 34 q = g34 (A q) ∧ ∀ b, A q = some b → b.2.1 = q ∧ v.1 35 q = b.2.2.1 ∧ v.1 36 q = b.2.2.2 ∧ -1000000 ≤ b.1
theorem c_mean1 {a b q : Int} (h : nx s v) (hs : CS s) (q0 : 0 ≤ q ∧ q < 4) (ha : -1000 ≤ a ∧ a ≤ 1000) (hb : -1000 ≤ b ∧ b ≤ 1000) : f9 N q a b v = some (wgt (s.1 16 q) 0 * a + wgt (s.1 16 q) 1 * b, v) := by
  have ar := hs.2.2.2.1 q q0.1 q0.2
  have w0 := wgt_rg (a := s.1 16 q) (z := 0) ar.1 ar.2
  have w1 := wgt_rg (a := s.1 16 q) (z := 1) ar.1 ar.2
  have m0 := mul_rg w0.1 w0.2 ha.1 ha.2
  have m1 := mul_rg w1.1 w1.2 hb.1 hb.2
  unfold f9
  rw [ick_ok q0.1 q0.2, h.1 16 (by omega)]
  dsimp only
  rw [c_weight ar.1 ar.2, i_o2_some, iov_ok (by omega) (by omega), c_weight ar.1 ar.2, i_o2_some, iov_ok (by omega) (by omega), iov_ok (by omega) (by omega)]
theorem c_choose_lp {T c : Int} (hs : CS s) (hP : s.1 15 0 ≤ 4) (t0 : 0 ≤ T ∧ T < 8) : ∀ (r fuel : Nat) (q : Int) (v : gI), r < fuel → 0 ≤ q → q + r = s.1 15 0 → nx s v → relA s (fun j => if j < q then up1 (A j) (gnOf s j T c) (j, T, c) else A j) v →
    ∃ v2, f8_at3 N fuel T c (gT s T (c % 8) (c / 8)) (rngS s T c 9) q v = some v2 ∧ nx s v2 ∧ (∀ a, (a < 34 ∨ 36 < a) → v2.1 a = v.1 a) ∧ relA s (fun j => up1 (A j) (gnOf s j T c) (j, T, c)) v2 := by
  intro r
  induction r with
  | zero =>
    intro fuel q v hf q0 e h hr
    obtain ⟨fuel, rfl⟩ : ∃ g, fuel = g + 1 := ⟨fuel - 1, by omega⟩
    refine ⟨v, ?_, h, fun _ _ => rfl, fun j j0 j1 => ?_⟩
    · unfold f8_at3
      rw [h.1 15 (by omega), if_pos (by omega)]
    · have := hr j j0 j1
      dsimp only at this
      rw [if_pos (by omega)] at this
      exact this
  | succ r ih =>
    intro fuel q v hf q0 e h hr
    obtain ⟨fuel, rfl⟩ : ∃ g, fuel = g + 1 := ⟨fuel - 1, by omega⟩
    have g := gT_rg (x := c % 8) (y := c / 8) hs t0
    have rr := rngS_rg (c := c) hs t0 9 (by decide)
    have gg := gnOf_rg (q := q) (c := c) hs t0 ⟨q0, by omega⟩
    have gl := gnOf_lo (q := q) (c := c) hs t0 ⟨q0, by omega⟩
    obtain ⟨r1, r2⟩ := hr q q0 (by omega)
    dsimp only at r1 r2
    rw [if_neg (by omega)] at r1 r2
    have es := gnOf_split (s := s) (q := q) (t := T) (c := c)
    have hm := c_mean1 (N := N) (a := gT s T (c % 8) (c / 8)) (b := rngS s T c 9) (q := q) h hs ⟨q0, by omega⟩ (by omega) (by omega)
    rw [← es] at hm
    unfold f8_at3
    rw [h.1 15 (by omega), if_neg (by omega), hm, i_o2_some, ick_ok q0 (by omega), r1]
    by_cases g1 : gnOf s q T c ≤ g34 (A q)
    · rw [if_pos g1, iov_ok (by omega) (by omega)]
      refine ih fuel (q + 1) v (by omega) (by omega) (by omega) h fun j j0 j1 => ?_
      by_cases q2 : j = q
      · subst q2
        dsimp only
        rw [if_pos (by omega)]
        cases hA : A j with
        | none =>
          rw [hA] at g1
          have : g34 none = -8000 := rfl
          omega
        | some b =>
          rw [hA] at g1 r1
          have eu : up1 (some b) (gnOf s j T c) (j, T, c) = some b := if_pos g1
          rw [eu]
          exact ⟨r1, fun b' hb' => r2 b' (by rw [hA]; exact hb')⟩
      · have := hr j j0 j1
        dsimp only at this ⊢
        by_cases q3 : j < q
        · rw [if_pos q3] at this
          rw [if_pos (by omega)]
          exact this
        · rw [if_neg q3] at this
          rw [if_neg (by omega)]
          exact this
    · rw [if_neg g1, ick_ok q0 (by omega)]
      dsimp only
      rw [ick_ok q0 (by omega), ick_ok q0 (by omega), iov_ok (by omega) (by omega)]
      have hn : nx s (iw (iw (iw v 34 q (gnOf s q T c)) 35 q T) 36 q c) := nx_w (by omega) (nx_w (by omega) (nx_w (by omega) h))
      have e34 : (iw (iw (iw v 34 q (gnOf s q T c)) 35 q T) 36 q c).1 34 = zup (v.1 34) q (gnOf s q T c) := by
        rw [iw_ne (by decide), iw_ne (by decide), iw_at]
      have e35 : (iw (iw (iw v 34 q (gnOf s q T c)) 35 q T) 36 q c).1 35 = zup (v.1 35) q T := by
        rw [iw_ne (by decide), iw_at, iw_ne (by decide)]
      have e36 : (iw (iw (iw v 34 q (gnOf s q T c)) 35 q T) 36 q c).1 36 = zup (v.1 36) q c := by
        rw [iw_at, iw_ne (by decide), iw_ne (by decide)]
      obtain ⟨v2, k1, k2, k3, k4⟩ := ih fuel (q + 1) (iw (iw (iw v 34 q (gnOf s q T c)) 35 q T) 36 q c) (by omega) (by omega) (by omega) hn (fun j j0 j1 => by
        rw [e34, e35, e36]
        by_cases q2 : j = q
        · subst q2
          dsimp only
          rw [if_pos (by omega), zup_same, zup_same, zup_same]
          have eu : up1 (A j) (gnOf s j T c) (j, T, c) = some (gnOf s j T c, (j, T, c)) := by
            cases hA : A j with
            | none => rfl
            | some b =>
              rw [hA] at g1
              exact if_neg g1
          rw [eu]
          refine ⟨rfl, fun b hb => ?_⟩
          have hb : (gnOf s j T c, (j, T, c)) = b := Option.some.inj hb
          subst hb
          exact ⟨rfl, rfl, rfl, by show -1000000 ≤ gnOf s j T c; rw [es]; omega⟩
        · have := hr j j0 j1
          rw [zup_ne q2, zup_ne q2, zup_ne q2]
          dsimp only at this ⊢
          by_cases q3 : j < q
          · rw [if_pos q3] at this
            rw [if_pos (by omega)]
            exact this
          · rw [if_neg q3] at this
            rw [if_neg (by omega)]
            exact this)
      refine ⟨v2, k1, k2, fun a ha => ?_, k4⟩
      rw [k3 a ha, iw_ne (by omega), iw_ne (by omega), iw_ne (by omega)]
theorem c_choose {T c : Int} (hN : 5000 ≤ N) (hs : CS s) (hP : 0 ≤ s.1 15 0 ∧ s.1 15 0 ≤ 4) (t0 : 0 ≤ T ∧ T < 8) (h : nx s v) (hr : relA s A v) :
    ∃ v2, f8 N T c (gT s T (c % 8) (c / 8)) (rngS s T c 9) v = some v2 ∧ nx s v2 ∧ (∀ a, (a < 34 ∨ 36 < a) → v2.1 a = v.1 a) ∧ relA s (fun j => up1 (A j) (gnOf s j T c) (j, T, c)) v2 :=
  c_choose_lp hs hP.2 t0 (s.1 15 0).toNat N 0 v (by omega) (by decide) (by omega) h (fun j j0 j1 => by
    dsimp only
    rw [if_neg (by omega)]
    exact hr j j0 j1)
theorem c_ring_lp {T : Nat} {f : Int → Int → Int → gI → Option gI} (hs : CS s) (t8 : T < 8) (ht : tabH s T (v.1 33) (s.1 12 1 + 1) (-1)) (x0 : 0 ≤ x ∧ x < s.1 12 0) (y0 : 0 ≤ y ∧ y < s.1 12 1) : ∀ (r fuel z : Nat), r < fuel → 1 ≤ z → z + r = 9 →
    f7_at50 N f fuel T y x ((y + 1) * 10 + x + 1) (rngS s T (8 * y + x) z) z v = i_o1 (f8 N T (8 * y + x) (gT s T x y) (rngS s T (8 * y + x) 9) v) fun s1 => f T y (x + 1) s1 := by
  obtain ⟨⟨hW0, hW⟩, ⟨hD0, hD⟩, -, -⟩ := hs.1
  intro r
  induction r with
  | zero =>
    intro fuel z hf z1 e
    obtain ⟨fuel, rfl⟩ : ∃ g, fuel = g + 1 := ⟨fuel - 1, by omega⟩
    have ez : z = 9 := by omega
    subst ez
    have c0 := ht x y (by omega) (by omega) (by omega) (by omega) (Or.inl (by omega))
    unfold f7_at50
    rw [if_pos (by decide), iov_ok (by omega) (by omega), iov_ok (by omega) (by omega), ick_ok (by omega) (by omega), c0, show y * 8 + x = 8 * y + x by omega]
    congr 1
    funext s1
    rw [iov_ok (by omega) (by omega)]
  | succ r ih =>
    intro fuel z hf z1 e
    obtain ⟨fuel, rfl⟩ : ∃ g, fuel = g + 1 := ⟨fuel - 1, by omega⟩
    have bx := sX_rg (z := z) (by omega) (by omega)
    have bY := sY_rg (z := z) (by omega) (by omega)
    have rr := rngS_rg (c := 8 * y + x) hs ⟨(by omega : (0 : Int) ≤ T), by omega⟩ z (by omega)
    have gg := gT_rg (x := x + sX z) (y := y + sY z) hs ⟨(by omega : (0 : Int) ≤ T), by omega⟩
    have c0 := ht (x + sX z) (y + sY z) (by omega) (by omega) (by omega) (by omega) (Or.inl (by omega))
    have eS : rngS s T (8 * y + x) (z + 1) = rngS s T (8 * y + x) z + gT s T (x + sX z) (y + sY z) := by
      show rngS s T (8 * y + x) z + (if z = 0 then 0 else gT s T ((8 * y + x) % 8 + sX z) ((8 * y + x) / 8 + sY z)) = _
      rw [if_neg (by omega), show (8 * y + x) % 8 = x by omega, show (8 * y + x) / 8 = y by omega]
    unfold f7_at50
    rw [if_neg (by omega), ick_ok (by omega) (by omega), i_slipY (by omega) (by omega), iov_ok (by omega) (by omega), iov_ok (by omega) (by omega), ick_ok (by omega) (by omega), i_slipX (by omega) (by omega), iov_ok (by omega) (by omega), show (y + 1) * 10 + x + 1 + sY z * 10 + sX z = (y + sY z + 1) * 10 + (x + sX z) + 1 by omega, ick_ok (by omega) (by omega), c0, iov_ok (by omega) (by omega)]
    dsimp only
    rw [iov_ok (by omega) (by omega), ← eS]
    exact ih fuel (z + 1) (by omega) (by omega) (by omega)
theorem flC_add {α : Type} {W : Int} {G : Int → Int → Int} {xx : Int → Int → α} {t : Int} {r : Nat} : ∀ (k : Nat) (c : Int) (a : Option (Int × α)), flC W G xx t (k + r) c a = flC W G xx t r (c + k) (flC W G xx t k c a)
  | 0, c, a => by rw [Nat.zero_add]; show _ = flC W G xx t r (c + 0) a; rw [Int.add_zero]
  | k + 1, c, a => by
    rw [show k + 1 + r = (k + r) + 1 by omega]
    show flC W G xx t (k + r) (c + 1) (if c % 8 < W then up1 a (G t c) (xx t c) else a) = flC W G xx t r (c + ((k + 1 : Nat) : Int)) (flC W G xx t k (c + 1) (if c % 8 < W then up1 a (G t c) (xx t c) else a))
    rw [flC_add k, show c + ((k + 1 : Nat) : Int) = c + 1 + (k : Int) by omega]
/-- what is remembered of a choice: who, which thing, which cell -/
def pay (q : Int) : Int → Int → Int × Int × Int := fun t c => (q, t, c)
theorem c_cells_x {T : Nat} {f : Int → Int → gI → Option gI} (hN : 5000 ≤ N) (hs : CS s) (hP : 0 ≤ s.1 15 0 ∧ s.1 15 0 ≤ 4) (t8 : T < 8) (y0 : 0 ≤ y ∧ y < s.1 12 1) : ∀ (r fuel : Nat) (x : Int) (v : gI) (A : Int → Option (Int × (Int × Int × Int))), r < fuel → 0 ≤ x → x + r = s.1 12 0 → nx s v → tabH s T (v.1 33) (s.1 12 1 + 1) (-1) → relA s A v →
    ∃ v2, f7_at18 N f fuel T y x v = f T (y + 1) v2 ∧ nx s v2 ∧ (∀ a, (a < 34 ∨ 36 < a) → v2.1 a = v.1 a) ∧ relA s (fun j => flC (s.1 12 0) (gnOf s j) (pay j) T r (8 * y + x) (A j)) v2 := by
  obtain ⟨⟨hW0, hW⟩, ⟨hD0, hD⟩, -, -⟩ := hs.1
  intro r
  induction r with
  | zero =>
    intro fuel x v A hf x0 e h ht hr
    obtain ⟨fuel, rfl⟩ : ∃ g, fuel = g + 1 := ⟨fuel - 1, by omega⟩
    refine ⟨v, ?_, h, fun _ _ => rfl, hr⟩
    unfold f7_at18
    rw [h.1 12 (by omega), if_pos (by omega), iov_ok (by omega) (by omega)]
  | succ r ih =>
    intro fuel x v A hf x0 e h ht hr
    obtain ⟨fuel, rfl⟩ : ∃ g, fuel = g + 1 := ⟨fuel - 1, by omega⟩
    obtain ⟨v1, g1, g2, g3, g4⟩ := c_choose (T := T) (c := 8 * y + x) hN hs hP ⟨by omega, by omega⟩ h hr
    rw [show (8 * y + x) % 8 = x by omega, show (8 * y + x) / 8 = y by omega] at g1
    obtain ⟨v2, k1, k2, k3, k4⟩ := ih fuel (x + 1) v1 _ (by omega) (by omega) (by omega) g2 (by rw [g3 33 (by omega)]; exact ht) g4
    have lp := c_ring_lp (N := N) (v := v) (f := f7_at18 N f fuel) (x := x) (y := y) hs t8 ht ⟨x0, by omega⟩ y0 8 N 1 (by omega) (by decide) (by decide)
    have e1 : rngS s T (8 * y + x) 1 = 0 := rfl
    rw [e1] at lp
    refine ⟨v2, ?_, k2, fun a ha => by rw [k3 a ha, g3 a ha], ?_⟩
    · unfold f7_at18
      rw [h.1 12 (by omega), if_neg (by omega), iov_ok (by omega) (by omega), iov_ok (by omega) (by omega), iov_ok (by omega) (by omega), iov_ok (by omega) (by omega)]
      have lp' : f7_at50 N (f7_at18 N f fuel) N T y x ((y + 1) * 10 + x + 1) 0 1 v = i_o1 (f8 N T (8 * y + x) (gT s T x y) (rngS s T (8 * y + x) 9) v) fun s1 => f7_at18 N f fuel T y (x + 1) s1 := lp
      dsimp only
      rw [lp', g1, i_o1_some]
      exact k1
    · intro j j0 j1
      have := k4 j j0 j1
      show v2.1 34 j = g34 (flC (s.1 12 0) (gnOf s j) (pay j) T r (8 * y + x + 1) (if (8 * y + x) % 8 < s.1 12 0 then up1 (A j) (gnOf s j T (8 * y + x)) (pay j T (8 * y + x)) else A j)) ∧ ∀ b, flC (s.1 12 0) (gnOf s j) (pay j) T r (8 * y + x + 1) (if (8 * y + x) % 8 < s.1 12 0 then up1 (A j) (gnOf s j T (8 * y + x)) (pay j T (8 * y + x)) else A j) = some b → _
      rw [if_pos (by omega), show 8 * y + x + 1 = 8 * y + (x + 1) by omega]
      exact this
theorem c_cells_y {T : Nat} (hN : 5000 ≤ N) (hs : CS s) (hP : 0 ≤ s.1 15 0 ∧ s.1 15 0 ≤ 4) (t8 : T < 8) : ∀ (r fuel : Nat) (y : Int) (v : gI) (A : Int → Option (Int × (Int × Int × Int))), r < fuel → 0 ≤ y → y + r = s.1 12 1 → nx s v → tabH s T (v.1 33) (s.1 12 1 + 1) (-1) → relA s A v →
    ∃ v2, f7_at2 N fuel T y v = some v2 ∧ nx s v2 ∧ (∀ a, (a < 34 ∨ 36 < a) → v2.1 a = v.1 a) ∧ relA s (fun j => flC (s.1 12 0) (gnOf s j) (pay j) T (8 * r) (8 * y) (A j)) v2 := by
  obtain ⟨⟨hW0, hW⟩, ⟨hD0, hD⟩, -, -⟩ := hs.1
  intro r
  induction r with
  | zero =>
    intro fuel y v A hf y0 e h ht hr
    obtain ⟨fuel, rfl⟩ : ∃ g, fuel = g + 1 := ⟨fuel - 1, by omega⟩
    refine ⟨v, ?_, h, fun _ _ => rfl, hr⟩
    unfold f7_at2
    rw [h.1 12 (by omega), if_pos (by omega)]
  | succ r ih =>
    intro fuel y v A hf y0 e h ht hr
    obtain ⟨fuel, rfl⟩ : ∃ g, fuel = g + 1 := ⟨fuel - 1, by omega⟩
    obtain ⟨v1, g1, g2, g3, g4⟩ := c_cells_x (N := N) (f := f7_at2 N fuel) hN hs hP t8 ⟨y0, by omega⟩ (s.1 12 0).toNat N 0 v A (by omega) (by decide) (by omega) h ht hr
    obtain ⟨v2, k1, k2, k3, k4⟩ := ih fuel (y + 1) v1 _ (by omega) (by omega) (by omega) g2 (by rw [g3 33 (by omega)]; exact ht) g4
    refine ⟨v2, ?_, k2, fun a ha => by rw [k3 a ha, g3 a ha], ?_⟩
    · unfold f7_at2
      rw [h.1 12 (by omega), if_neg (by omega), g1]
      exact k1
    · intro j j0 j1
      have := k4 j j0 j1
      dsimp only at this ⊢
      have e1 : flC (s.1 12 0) (gnOf s j) (pay j) T (8 * (r + 1)) (8 * y) (A j) = flC (s.1 12 0) (gnOf s j) (pay j) T (8 * r) (8 * (y + 1)) (flC (s.1 12 0) (gnOf s j) (pay j) T (s.1 12 0).toNat (8 * y + 0) (A j)) := by
        rw [show 8 * (r + 1) = (s.1 12 0).toNat + ((8 - (s.1 12 0).toNat) + 8 * r) by omega, flC_add, flC_skip _ _ _ (fun i hi => by omega), Int.add_zero, show 8 * y + ((s.1 12 0).toNat : Int) + ((8 - (s.1 12 0).toNat : Nat) : Int) = 8 * (y + 1) by omega]
      rw [e1]
      exact this
theorem c_things_lp (hN : 5000 ≤ N) (hs : CS s) (hP : 0 ≤ s.1 15 0 ∧ s.1 15 0 ≤ 4) : ∀ (r fuel t : Nat) (v : gI) (A : Int → Option (Int × (Int × Int × Int))), r < fuel → t + r = (cQ s).2.2.2.1 → nx s v → relA s A v →
    ∃ v2, f5_at12 N fuel t v = f5_at63 N N 1 (iw v2 32 8 0) ∧ nx s v2 ∧ relA s (fun j => flT (s.1 12 0) (s.1 12 1) (s.1 7) (gnOf s j) (pay j) r t (A j)) v2 := by
  have hn := cW_n hs.1
  have hn0 := hs.1.2.2.1
  have en : (cQ s).2.2.2.1 = (s.1 15 3).toNat := rfl
  obtain ⟨⟨hW0, hW⟩, ⟨hD0, hD⟩, -, -⟩ := hs.1
  intro r
  induction r with
  | zero =>
    intro fuel t v A hf e h hr
    obtain ⟨fuel, rfl⟩ : ∃ g, fuel = g + 1 := ⟨fuel - 1, by omega⟩
    refine ⟨v, ?_, h, hr⟩
    unfold f5_at12
    rw [h.1 15 (by omega), if_pos (by omega)]
  | succ r ih =>
    intro fuel t v A hf e h hr
    obtain ⟨fuel, rfl⟩ : ∃ g, fuel = g + 1 := ⟨fuel - 1, by omega⟩
    have c : ((t + 1 : Nat) : Int) = (t : Int) + 1 := by omega
    unfold f5_at12
    rw [h.1 15 (by omega), if_neg (by omega), ick_ok (by omega) (by omega), h.1 7 (by omega)]
    by_cases g : s.1 7 t = 64
    · obtain ⟨v1, g1, g2, g3, g4⟩ := c_tab (N := N) (T := t) hN hs (by omega) g h
      obtain ⟨v2, k1, k2, k3, k4⟩ := c_cells_y (N := N) (T := t) hN hs hP (by omega) (s.1 12 1).toNat N 0 v1 A (by omega) (by decide) (by omega) g2 g4 (fun j j0 j1 => by
        rw [g3 34 (by decide), g3 35 (by decide), g3 36 (by decide)]
        exact hr j j0 j1)
      obtain ⟨v3, l1, l2, l3⟩ := ih fuel (t + 1) v2 _ (by omega) (by omega) k2 k4
      refine ⟨v3, ?_, l2, ?_⟩
      · have k1' : f7 N t v1 = some v2 := k1
        rw [if_pos g, g1, i_o1_some, k1', i_o1_some, iov_ok (by omega) (by omega), ← c]
        exact l1
      · intro j j0 j1
        have := l3 j j0 j1
        dsimp only at this ⊢
        unfold flT
        rw [if_pos g, ← c, show (8 * s.1 12 1).toNat = 8 * (s.1 12 1).toNat by omega]
        exact this
    · obtain ⟨v3, l1, l2, l3⟩ := ih fuel (t + 1) v A (by omega) (by omega) h hr
      refine ⟨v3, ?_, l2, ?_⟩
      · rw [if_neg g, iov_ok (by omega) (by omega), ← c]
        exact l1
      · intro j j0 j1
        have := l3 j j0 j1
        dsimp only at this ⊢
        unfold flT
        rw [if_neg g, ← c]
        exact this
/-- the first of the greatest among so many people -/
def joP (A : Int → Option (Int × (Int × Int × Int))) : Nat → Option (Int × (Int × Int × Int))
  | 0 => none
  | n + 1 => joi (joP A n) (A n)
theorem c_pick_lp (hP : 0 ≤ s.1 15 0 ∧ s.1 15 0 ≤ 4) (hA : ∀ q : Nat, (q : Int) < s.1 15 0 → ∃ b, A q = some b) : ∀ (r fuel q : Nat) (v : gI), r < fuel → 1 ≤ q → (q : Int) + r = s.1 15 0 → nx s v → relA s A v → 0 ≤ v.1 32 8 → v.1 32 8 < q → joP A q = A (v.1 32 8) →
    ∃ v2 b, f5_at63 N fuel q v = some v2 ∧ nx s v2 ∧ joP A (s.1 15 0).toNat = some b ∧ v2.1 32 7 = b.1 ∧ v2.1 32 8 = b.2.1 ∧ v2.1 32 9 = b.2.2.1 ∧ v2.1 32 10 = b.2.2.2 := by
  intro r
  induction r with
  | zero =>
    intro fuel q v hf q1 e h hr b0 b1 hj
    obtain ⟨fuel, rfl⟩ : ∃ g, fuel = g + 1 := ⟨fuel - 1, by omega⟩
    obtain ⟨B, hB⟩ := Int.eq_ofNat_of_zero_le b0
    obtain ⟨b, hb⟩ := hA B (by omega)
    obtain ⟨r1, r2⟩ := hr B (by omega) (by omega)
    obtain ⟨r3, r4, r5, -⟩ := r2 b hb
    rw [hb] at r1
    have e2 : (s.1 15 0).toNat = q := by omega
    refine ⟨_, b, ?_, nx_w (a := 32) (i := 10) (z := v.1 36 B) (by omega) (nx_w (a := 32) (i := 9) (z := v.1 35 B) (by omega) (nx_w (a := 32) (i := 7) (z := v.1 34 B) (by omega) h)), ?_, ?_, ?_, ?_, ?_⟩
    · unfold f5_at63
      rw [h.1 15 (by omega), if_pos (by omega), ick_ok b0 (by omega)]
      dsimp only
      have f1 : ∀ z : Int, (iw v 32 7 z).1 32 8 = v.1 32 8 := fun z => by rw [iw_at, zup_ne (by decide)]
      have f2 : ∀ z z2 : Int, (iw (iw v 32 7 z) 32 9 z2).1 32 8 = v.1 32 8 := fun z z2 => by rw [iw_at, zup_ne (by decide), f1]
      rw [f1, ick_ok b0 (by omega), f2, ick_ok b0 (by omega), iw_ne (by decide), iw_ne (by decide), iw_ne (by decide), hB]
    · rw [e2, hj, hB, hb]
    · rw [iw_at, zup_ne (by decide), iw_at, zup_ne (by decide), iw_at, zup_same, r1]
      rfl
    · rw [iw_at, zup_ne (by decide), iw_at, zup_ne (by decide), iw_at, zup_ne (by decide), r3, hB]
    · rw [iw_at, zup_ne (by decide), iw_at, zup_same, r4]
    · rw [iw_at, zup_same, r5]
  | succ r ih =>
    intro fuel q v hf q1 e h hr b0 b1 hj
    obtain ⟨fuel, rfl⟩ : ∃ g, fuel = g + 1 := ⟨fuel - 1, by omega⟩
    obtain ⟨B, hB⟩ := Int.eq_ofNat_of_zero_le b0
    obtain ⟨b, hb⟩ := hA B (by omega)
    obtain ⟨b', hb'⟩ := hA q (by omega)
    have r1 := (hr B (by omega) (by omega)).1
    have r2 := (hr q (by omega) (by omega)).1
    rw [hb] at r1
    rw [hb'] at r2
    have r1 : v.1 34 B = b.1 := r1
    have r2 : v.1 34 q = b'.1 := r2
    have c : ((q + 1 : Nat) : Int) = (q : Int) + 1 := by omega
    have ej : joP A (q + 1) = joi (some b) (some b') := by
      show joi (joP A q) (A q) = _
      rw [hj, hB, hb, hb']
    unfold f5_at63
    rw [h.1 15 (by omega), if_neg (by omega), ick_ok (by omega) (by omega), ick_ok b0 (by omega), hB, r1, r2]
    by_cases g : b'.1 ≤ b.1
    · have ej2 : joi (some b) (some b') = some b := if_pos g
      rw [if_pos g, iov_ok (by omega) (by omega), ← c]
      exact ih fuel (q + 1) v (by omega) (by omega) (by omega) h hr b0 (by omega) (by rw [ej, ej2, hB, hb])
    · have ej2 : joi (some b) (some b') = some b' := if_neg g
      rw [if_neg g]
      dsimp only
      rw [iov_ok (by omega) (by omega), ← c]
      exact ih fuel (q + 1) (iw v 32 8 q) (by omega) (by omega) (by omega) (nx_w (by omega) h) (fun j j0 j1 => by
        rw [iw_ne (by decide), iw_ne (by decide), iw_ne (by decide)]
        exact hr j j0 j1) (by rw [iw_at, zup_same]; omega) (by rw [iw_at, zup_same]; omega) (by rw [iw_at, zup_same, ej, ej2, hb'])
/-- what each would choose -/
def chA (s : gI) : Int → Option (Int × (Int × Int × Int)) := fun j => flT (s.1 12 0) (s.1 12 1) (s.1 7) (gnOf s j) (pay j) (s.1 15 3).toNat 0 none
theorem chA_some (hs : CS s) (hh : ∃ j : Nat, j < (s.1 15 3).toNat ∧ s.1 7 j = 64) (q : Int) : ∃ b, chA s q = some b := by
  obtain ⟨⟨hW0, hW⟩, ⟨hD0, hD⟩, -, -⟩ := hs.1
  refine flT_any (by omega) (by omega) _ _ _ ?_
  obtain ⟨j, h1, h2⟩ := hh
  exact ⟨j, h1, by rw [Int.zero_add]; exact h2⟩
theorem c_next (hN : 5000 ≤ N) (hs : CS s) (hP : 1 ≤ s.1 15 0 ∧ s.1 15 0 ≤ 4) (hh : ∃ j : Nat, j < (s.1 15 3).toNat ∧ s.1 7 j = 64) :
    ∃ v b, f5 N s = some v ∧ nx s v ∧ joP (chA s) (s.1 15 0).toNat = some b ∧ v.1 32 7 = b.1 ∧ v.1 32 8 = b.2.1 ∧ v.1 32 9 = b.2.2.1 ∧ v.1 32 10 = b.2.2.2 := by
  have hn := cW_n hs.1
  have en : (cQ s).2.2.2.1 = (s.1 15 3).toNat := rfl
  obtain ⟨G, g1, g2, -⟩ := c_fill (N := N) (s := s) (r := 34) (zn := 4) (x := -8000) hN (by decide) (by decide)
  have hr : relA s (fun _ => none) (ic s 34 G) := fun q q0 q1 => by
    refine ⟨?_, fun b hb => by cases hb⟩
    rw [ic_at, g2 q q0 (by omega)]
    rfl
  obtain ⟨v1, k1, k2, k3⟩ := c_things_lp (N := N) hN hs ⟨by omega, hP.2⟩ (cQ s).2.2.2.1 N 0 (ic s 34 G) _ (by omega) (by omega) (nx_c (by omega) nx.rf) hr
  have k3 : relA s (chA s) v1 := k3
  have z8 : (iw v1 32 8 0).1 32 8 = 0 := by rw [iw_at, zup_same]
  obtain ⟨v2, b, l1, l2, l3, l4⟩ := c_pick_lp (N := N) (s := s) (A := chA s) ⟨by omega, hP.2⟩ (fun q _ => chA_some hs hh q) ((s.1 15 0).toNat - 1) N 1 (iw v1 32 8 0) (by omega) (by decide) (by omega) (nx_w (by omega) k2) (fun j j0 j1 => by
    rw [iw_ne (by decide), iw_ne (by decide), iw_ne (by decide)]
    exact k3 j j0 j1) (by rw [z8]; decide) (by rw [z8]; decide) (by rw [z8]; rfl)
  refine ⟨v2, b, ?_, l2, l3, l4⟩
  unfold f5
  rw [g1, i_o1_some]
  have k1 : f5_at12 N N 0 (ic s 34 G) = f5_at63 N N 1 (iw v1 32 8 0) := k1
  rw [k1]
  exact l1
end CNEXT

/-! Promise 25: lies answered alike. -/
section QLIES
variable {N : Nat} {s v u : gI} {k x a b : Int} {P p : Int → Int} {Q R : Cf} {S : Int → Bool}
theorem m_kdB_lp (hN : 5000 ≤ N) (hw : mOK v) (hb0 : 0 ≤ b) (hb : b ≤ 680) (x0 : 0 ≤ x ∧ x < v.1 69 0) : ∀ (r fuel y : Nat), r < fuel → (y : Int) + r = v.1 69 1 → f277_at5 N fuel b x (kdU (mQ v) (sh b (v.1 78)) x y) y v = some (kdU (mQ v) (sh b (v.1 78)) x (v.1 69 1).toNat, v) := by
  obtain ⟨⟨hW0, hW⟩, ⟨hD0, hD⟩, hn⟩ := id hw
  have en : (mQ v).2.2.2.1 = (v.1 71 1).toNat := rfl
  intro r
  induction r with
  | zero =>
    intro fuel y hf e
    obtain ⟨fuel, rfl⟩ : ∃ g, fuel = g + 1 := ⟨fuel - 1, by omega⟩
    unfold f277_at5
    rw [m_deep, i_o2_some, if_pos (by omega), show (v.1 69 1).toNat = y by omega]
  | succ r ih =>
    intro fuel y hf e
    obtain ⟨fuel, rfl⟩ : ∃ g, fuel = g + 1 := ⟨fuel - 1, by omega⟩
    have c : ((y + 1 : Nat) : Int) = (y : Int) + 1 := by omega
    have ih := ih fuel (y + 1) (by omega) (by omega)
    have wh := m_thingAt (N := N) (s := v) (b := b) (c := 8 * y + x) (but := -1) hN hn.1 hn.2 hb0 (by omega)
    rw [← en] at wh
    have rg := occ_rg (sh b (v.1 78)) (8 * y + x) (-1) (mQ v).2.2.2.1
    have e1 : kdU (mQ v) (sh b (v.1 78)) x (y + 1) = if 0 ≤ occ (sh b (v.1 78)) (8 * y + x) (-1) (mQ v).2.2.2.1 then (mQ v).2.2.2.2 (occ (sh b (v.1 78)) (8 * y + x) (-1) (mQ v).2.2.2.1) else kdU (mQ v) (sh b (v.1 78)) x y := rfl
    unfold f277_at5
    rw [m_deep, i_o2_some, if_neg (by omega), iov_ok (by omega) (by omega), iov_ok (by omega) (by omega), wh, i_o2_some]
    by_cases g : 0 ≤ occ (sh b (v.1 78)) (8 * y + x) (-1) (mQ v).2.2.2.1
    · rw [e1, if_pos g, c] at ih
      rw [if_pos g, m_thingOf g (by omega) (by decide) (by decide), i_o2_some, iov_ok (by omega) (by omega), Int.add_zero]
      exact ih
    · rw [e1, if_neg g, c] at ih
      rw [if_neg g, iov_ok (by omega) (by omega)]
      exact ih
theorem m_fit_lp (hN : 5000 ≤ N) (hw : mOK v) (hb0 : 0 ≤ b) (hb : b ≤ 680) : ∀ (r fuel : Nat) (i : Int), r < fuel → 0 ≤ i → i + r = v.1 69 0 → f278_at4 N fuel b 1 i v = some (if allB (colB (mQ v) (sh b (v.1 78)) (sh 18 (v.1 78))) r i = true then 1 else 0, v) ∧ f278_at4 N fuel b 0 i v = some (0, v) := by
  obtain ⟨⟨hW0, hW⟩, ⟨hD0, hD⟩, hn⟩ := id hw
  intro r
  induction r with
  | zero =>
    intro fuel i hf i0 e
    obtain ⟨fuel, rfl⟩ : ∃ g, fuel = g + 1 := ⟨fuel - 1, by omega⟩
    refine ⟨?_, ?_⟩
    · unfold f278_at4
      rw [m_wide, i_o2_some, if_pos (by omega), ib1_ok (Or.inr rfl)]
      rfl
    · unfold f278_at4
      rw [m_wide, i_o2_some, if_pos (by omega), ib1_ok (Or.inl rfl)]
  | succ r ih =>
    intro fuel i hf i0 e
    obtain ⟨fuel, rfl⟩ : ∃ g, fuel = g + 1 := ⟨fuel - 1, by omega⟩
    obtain ⟨go, go0⟩ := ih fuel (i + 1) (by omega) (by omega) (by omega)
    have bad : f278_at52 N (f278_at4 N fuel) b i v = some (0, v) := by
      unfold f278_at52
      rw [iov_ok (by omega) (by omega)]
      exact go0
    refine ⟨?_, ?_⟩
    rotate_left
    · unfold f278_at4
      rw [m_wide, i_o2_some, if_neg (by omega), if_pos rfl]
      exact bad
    have lk := m_kdB_lp (N := N) (v := v) (b := b) (x := i) hN hw hb0 hb ⟨i0, by omega⟩ (v.1 69 1).toNat N 0 (by omega) (by omega)
    have lk : f277 N b i v = some (kdU (mQ v) (sh b (v.1 78)) i (v.1 69 1).toNat, v) := lk
    have e1 : (mQ v).2.1 = v.1 69 1 := rfl
    have es : sh 18 (v.1 78) i = v.1 78 (18 + i) := rfl
    have good : f278_at48 N (f278_at4 N fuel) b i v = some (if allB (colB (mQ v) (sh b (v.1 78)) (sh 18 (v.1 78))) r (i + 1) = true then 1 else 0, v) := by
      unfold f278_at48
      rw [iov_ok (by omega) (by omega)]
      exact go
    unfold f278_at4 allB
    have ecol : colB (mQ v) (sh b (v.1 78)) (sh 18 (v.1 78)) i = (decide (v.1 78 (18 + i) = -2) || decide (v.1 78 (18 + i) = kdU (mQ v) (sh b (v.1 78)) i (v.1 69 1).toNat)) := rfl
    rw [m_wide, i_o2_some, if_neg (by omega), if_neg (by decide), iov_ok (by omega) (by omega), ick_ok (by omega) (by omega), ecol]
    by_cases g : v.1 78 (18 + i) = -2
    · rw [if_pos g, decide_eq_true g, Bool.true_or, Bool.true_and]
      exact good
    rw [if_neg g, iov_ok (by omega) (by omega), ick_ok (by omega) (by omega), lk, i_o2_some, decide_eq_false g, Bool.false_or]
    by_cases g2 : v.1 78 (18 + i) = kdU (mQ v) (sh b (v.1 78)) i (v.1 69 1).toNat
    · rw [if_pos g2, decide_eq_true g2, Bool.true_and]
      exact good
    · rw [if_neg g2, decide_eq_false g2, Bool.false_and]
      exact bad
/-- in a row of the reference's that tells the same places -/
theorem m_fit (hN : 5000 ≤ N) (hw : mOK v) (hb0 : 0 ≤ b) (hb : b ≤ 680) (hE : eqQ (cQ s) (mQ v)) (hn : (cQ s).2.2.2.1 ≤ 8) (hW : s.1 12 0 ≤ 8) (he : eq8 P (sh b (v.1 78))) (hs : ∀ j, 0 ≤ j → j < 8 → v.1 78 (18 + j) = s.1 10 j) :
    f278 N b v = some (if fitB (cQ s) P (s.1 10) = true then 1 else 0, v) := by
  have h0 := hw.1
  have e1 : (mQ v).1 = v.1 69 0 := rfl
  have e2 : (cQ s).1 = s.1 12 0 := rfl
  have := (m_fit_lp (N := N) hN hw hb0 hb (mQ v).1.toNat N 0 (by omega) (by decide) (by omega)).1
  have ef : fitB (cQ s) P (s.1 10) = allB (colB (mQ v) (sh b (v.1 78)) (sh 18 (v.1 78))) (mQ v).1.toNat 0 := by
    unfold fitB
    rw [← hE.1]
    refine allB_congr _ _ fun j j0 j1 => ?_
    unfold colB
    rw [kdU_eq hE hn he, ← hE.2.1, sh_at, hs j j0 (by omega)]
  rw [ef]
  exact this
-- counting the bits
theorem gb_zero {j : Int} : gb 0 j = false := by
  unfold gb
  have : (Int64.ofInt 0).toBitVec = 0#64 := rfl
  rw [this]
  simp
theorem cntB_S {n : Nat} : cntB S (n + 1) = cntB S n + if S n = true then 1 else 0 := rfl
theorem cntB_0 : ∀ n : Nat, cntB S n = 0 → ∀ j : Nat, j < n → S j = false
  | 0, _, j, hj => by omega
  | n + 1, h, j, hj => by
    rw [cntB_S] at h
    by_cases g : S n = true
    · rw [if_pos g] at h; omega
    · rw [if_neg g] at h
      by_cases e : j = n
      · subst e
        cases hh : S j with
        | true => exact absurd hh g
        | false => rfl
      · exact cntB_0 n (by omega) j (by omega)
/-- the least of the first k, or -1 -/
def fstB (S : Int → Bool) : Nat → Int
  | 0 => -1
  | k + 1 => if 0 ≤ fstB S k then fstB S k else if S k = true then k else -1
theorem fstB_sp : ∀ k : Nat, (0 ≤ fstB S k → S (fstB S k) = true ∧ fstB S k < k ∧ ∀ j : Nat, j < k → S j = true → fstB S k ≤ j) ∧ (fstB S k < 0 → fstB S k = -1 ∧ ∀ j : Nat, j < k → S j = false)
  | 0 => ⟨fun h => absurd h (by show ¬ (0 : Int) ≤ -1; decide), fun _ => ⟨rfl, fun j hj => by omega⟩⟩
  | k + 1 => by
    obtain ⟨h1, h2⟩ := fstB_sp k
    unfold fstB
    by_cases g : 0 ≤ fstB S k
    · obtain ⟨a1, a2, a3⟩ := h1 g
      rw [if_pos g]
      refine ⟨fun _ => ⟨a1, by omega, fun j hj hS => ?_⟩, fun h => by omega⟩
      by_cases e : j = k
      · subst e; omega
      · exact a3 j (by omega) hS
    · obtain ⟨b1, b2⟩ := h2 (by omega)
      rw [if_neg g]
      by_cases g2 : S k = true
      · rw [if_pos g2]
        refine ⟨fun _ => ⟨g2, by omega, fun j hj hS => ?_⟩, fun h => by omega⟩
        by_cases e : j = k
        · subst e; omega
        · rw [b2 j (by omega)] at hS
          exact absurd hS (by decide)
      · rw [if_neg g2]
        refine ⟨fun h => absurd h (by decide), fun _ => ⟨rfl, fun j hj => ?_⟩⟩
        by_cases e : j = k
        · subst e
          cases hh : S j with
          | true => exact absurd hh g2
          | false => rfl
        · exact b2 j (by omega)
theorem m_count_lp {w y7 y9 : Int} (h7 : ∀ j : Int, 0 ≤ j → j < 64 → gb y7 j = S j) (h9 : ∀ j : Int, 64 ≤ j → j < 67 → gb y9 (j - 64) = S j) : ∀ (r fuel i : Nat), i + r = 67 → r < fuel →
    f279_at168 N fuel a w y7 y9 (cntB S i) (fstB S i) i u = some (if (cntB S 67 : Int) = 0 then -1 else if a = 0 then w else if a = 1 then (cntB S 67 : Int) else fstB S 67, u) := by
  intro r
  induction r with
  | zero =>
    intro fuel i e hf
    obtain ⟨fuel, rfl⟩ : ∃ g, fuel = g + 1 := ⟨fuel - 1, by omega⟩
    have ei : i = 67 := by omega
    subst ei
    unfold f279_at168
    rw [if_pos (by decide)]
    by_cases g : (cntB S 67 : Int) = 0
    · rw [if_pos g, if_pos g]
    rw [if_neg g, if_neg g]
    by_cases g0 : a = 0
    · rw [if_pos g0, if_pos g0]
    rw [if_neg g0, if_neg g0]
    by_cases g1 : a = 1
    · rw [if_pos g1, if_pos g1]
    · rw [if_neg g1, if_neg g1]
  | succ r ih =>
    intro fuel i e hf
    obtain ⟨fuel, rfl⟩ : ∃ g, fuel = g + 1 := ⟨fuel - 1, by omega⟩
    have c : ((i + 1 : Nat) : Int) = (i : Int) + 1 := by omega
    have ih := ih fuel (i + 1) (by omega) (by omega)
    have cl := cntB_le S i
    have fsp := fstB_sp (S := S) i
    have bit : ∀ b : Bool, b = S i → f279_at202 N (f279_at168 N fuel) a w y7 y9 (cntB S i) (fstB S i) i (if b = true then 1 else 0) u = some (if (cntB S 67 : Int) = 0 then -1 else if a = 0 then w else if a = 1 then (cntB S 67 : Int) else fstB S 67, u) := by
      intro b hb
      have hc : cntB S (i + 1) = cntB S i + if S i = true then 1 else 0 := rfl
      have hf1 : fstB S (i + 1) = if 0 ≤ fstB S i then fstB S i else if S i = true then (i : Int) else -1 := rfl
      cases hS : S i with
      | true =>
        rw [hS] at hb
        subst hb
        rw [hc, hf1, hS, if_pos rfl, if_pos rfl, c] at ih
        have cc : ((cntB S i + 1 : Nat) : Int) = (cntB S i : Int) + 1 := by omega
        rw [cc] at ih
        have e1 : i_cmp (if true = true then (1 : Int) else 0) 1 = 0 := by rw [if_pos rfl, i_cmp_eq]
        unfold f279_at202 f279_at212 f279_at226 f279_at244
        rw [if_pos e1, if_neg (by decide), iov_ok (by omega) (by omega), if_neg (by decide)]
        by_cases g : 0 ≤ fstB S i
        · rw [if_pos g] at ih
          rw [if_pos g, iov_ok (by omega) (by omega)]
          exact ih
        · rw [if_neg g] at ih
          rw [if_neg g, iov_ok (by omega) (by omega)]
          exact ih
      | false =>
        rw [hS] at hb
        subst hb
        rw [hc, hf1, hS, if_neg (show ¬ (false = true) by decide), if_neg (show ¬ (false = true) by decide), c, Nat.add_zero] at ih
        have e1 : ¬ i_cmp (if false = true then (1 : Int) else 0) 1 = 0 := by rw [if_neg (by decide), i_cmp_eq]; decide
        have ef : (if 0 ≤ fstB S i then fstB S i else -1) = fstB S i := by
          by_cases g : 0 ≤ fstB S i
          · exact if_pos g
          · rw [if_neg g]; exact (fsp.2 (by omega)).1.symm
        rw [ef] at ih
        unfold f279_at202 f279_at212 f279_at226 f279_at244
        rw [if_neg e1, if_pos rfl, Int.add_zero, iov_ok (by omega) (by omega), if_pos rfl, iov_ok (by omega) (by omega)]
        exact ih
    unfold f279_at168
    rw [if_neg (by omega)]
    by_cases g : (64 : Int) ≤ i
    · rw [if_pos g, iov_ok (by omega) (by omega), j_shr_bit (by omega) (by omega)]
      exact bit _ (h9 i g (by omega))
    · rw [if_neg g, j_shr_bit (by omega) (by omega)]
      exact bit _ (h7 i (by omega) (by omega))
theorem m_lies_lp {q t : Nat} {x y : Int} (hN : 5000 ≤ N) (hs : RS s) (hseen : ∀ j, 0 ≤ j → j < 8 → s.1 78 (18 + j) = s.1 10 j) (hq : (q : Int) < s.1 15 0) (ht : t < (cQ s).2.2.2.1) (x0 : 0 ≤ x ∧ x < 8) (y0 : 0 ≤ y ∧ y < 8) : ∀ (r z fuel : Nat) (y7 y9 : Int) (v : gI), z + r = 9 → r < fuel → trl 588 s v → (∀ j : Int, 0 ≤ j → j < 64 → gb y7 j = lsS s q t (8 * y + x) z j) → (∀ j : Int, 64 ≤ j → j < 67 → gb y9 (j - 64) = lsS s q t (8 * y + x) z j) →
    ∃ v2, trl 588 s v2 ∧ f279_at41 N fuel q t x y a (lsW s q t (8 * y + x) z) y7 y9 z v = some (if (cntB (lsS s q t (8 * y + x) 9) 67 : Int) = 0 then -1 else if a = 0 then lsW s q t (8 * y + x) 9 else if a = 1 then (cntB (lsS s q t (8 * y + x) 9) 67 : Int) else fstB (lsS s q t (8 * y + x) 9) 67, v2) := by
  obtain ⟨hw, -, hV, har, -⟩ := id hs.1
  have hn := cW_n hw
  have e8 := hs.2.2.2.1
  have hP4 := hs.P4
  obtain ⟨a0, a1⟩ := har q (by omega) (by omega)
  have harm := hs.2.2.2.2.2.2.2.1 q (by omega) (by omega)
  have ex : (8 * y + x) % 8 = x := by omega
  have ey : (8 * y + x) / 8 = y := by omega
  intro r
  induction r with
  | zero =>
    intro z fuel y7 y9 v e hf hv h7 h9
    obtain ⟨fuel, rfl⟩ : ∃ g, fuel = g + 1 := ⟨fuel - 1, by omega⟩
    have ez : z = 9 := by omega
    subst ez
    have := m_count_lp (N := N) (a := a) (u := v) (w := lsW s q t (8 * y + x) 9) h7 h9 67 N 0 (by decide) (by omega)
    refine ⟨v, hv, ?_⟩
    unfold f279_at41
    rw [if_pos (by decide)]
    exact this
  | succ r ih =>
    intro z fuel y7 y9 v e hf hv h7 h9
    obtain ⟨fuel, rfl⟩ : ∃ g, fuel = g + 1 := ⟨fuel - 1, by omega⟩
    have e1 : ((z : Int) + 1) = ((z + 1 : Nat) : Int) := by omega
    have rw1 := wgt_rg (z := z) a0 a1
    have rg := lsW_rg (t := t) (c := 8 * y + x) hs.1 (show q < 4 by omega) z
    obtain ⟨v1, m1, m2, m3⟩ := m_tryG (N := N) (s := s) (u := v) (p := s.1 7) (a := 0) (b := 588) (per := q) (x := x) (y := y) (z := z) (m := t) hN hs.ry hV e8 (by decide) (by decide) (by decide) (by decide) (Or.inl (by decide)) ht x0 y0 (by omega) (by omega) hv
    have eT : thrown (cQ s) (s.1 7) t (x + sX z) (y + sY z) = TZ (cQ s) (s.1 7) t (8 * y + x) z := by unfold TZ; rw [ex, ey]
    rw [eT] at m3
    have e71 : v1.1 71 = s.1 71 := m2.ne (by decide)
    have ew : f260 N q z v1 = some (wgt (s.1 16 q) z, v1) := by
      rw [m_weightOf (by omega) (by omega) (by rw [e71, harm]; exact ⟨a0, a1⟩), e71, harm]
    have eS : lsS s q t (8 * y + x) (z + 1) = if lsB s q t (8 * y + x) z = true then (fun j => lsS s q t (8 * y + x) z j || decide (j = tol (TZ (cQ s) (s.1 7) t (8 * y + x) z t))) else lsS s q t (8 * y + x) z := rfl
    have eW : lsW s q t (8 * y + x) (z + 1) = lsW s q t (8 * y + x) z + if lsB s q t (8 * y + x) z = true then wgt (s.1 16 q) z else 0 := rfl
    have lf := m_fit (N := N) (s := s) (v := v1) (b := 588) (P := TZ (cQ s) (s.1 7) t (8 * y + x) z) hN (m2.OK hs.2.1) (by decide) (by decide) (by rw [m2.Q]; exact hs.2.2.1) hn hw.1.2 m3.sy (fun j j0 j1 => by rw [m2.at (by omega)]; exact hseen j j0 j1)
    have skip : lsB s q t (8 * y + x) z = false → ∃ v2, trl 588 s v2 ∧ f279_at41 N fuel q t x y a (lsW s q t (8 * y + x) z) y7 y9 ((z : Int) + 1) v1 = some (if (cntB (lsS s q t (8 * y + x) 9) 67 : Int) = 0 then -1 else if a = 0 then lsW s q t (8 * y + x) 9 else if a = 1 then (cntB (lsS s q t (8 * y + x) 9) 67 : Int) else fstB (lsS s q t (8 * y + x) 9) 67, v2) := fun hB => by
      have := ih (z + 1) fuel y7 y9 v1 (by omega) (by omega) m2 (by rw [eS, hB, if_neg (by decide)]; exact h7) (by rw [eS, hB, if_neg (by decide)]; exact h9)
      rw [eW, hB, if_neg (by decide), Int.add_zero] at this
      rw [e1]
      exact this
    unfold f279_at41
    rw [if_neg (by omega), m1, i_o1_some, ew, i_o2_some]
    by_cases g : wgt (s.1 16 q) z ≤ 0
    · rw [if_pos g, iov_ok (by omega) (by omega)]
      exact skip (by unfold lsB; rw [decide_eq_false (by omega), Bool.false_and])
    rw [if_neg g, lf, i_o2_some]
    by_cases g2 : fitB (cQ s) (TZ (cQ s) (s.1 7) t (8 * y + x) z) (s.1 10) = true
    rotate_left
    · rw [if_neg g2, if_pos rfl, iov_ok (by omega) (by omega)]
      refine skip ?_
      unfold lsB
      cases hh : fitB (cQ s) (TZ (cQ s) (s.1 7) t (8 * y + x) z) (s.1 10) with
      | true => exact absurd hh g2
      | false => rw [Bool.and_false]
    have hB : lsB s q t (8 * y + x) z = true := by
      unfold lsB
      rw [g2, decide_eq_true (by omega), Bool.and_true]
    have hVT : VV (cQ s) (TZ (cQ s) (s.1 7) t (8 * y + x) z) := VV_thrown hw.1.2 hw.2.1.2 ht hV _ _
    have tr := tol_rg (okq_rg (hVT t ht))
    have a78 : v1.1 78 (588 + t) = TZ (cQ s) (s.1 7) t (8 * y + x) z t := by
      have := m3 t (by omega) (by omega)
      rwa [sh_at] at this
    rw [if_pos g2, if_neg (by decide), iov_ok (by omega) (by omega), ick_ok (by omega) (by omega), a78, m_told, i_o2_some, ew, i_o2_some, iov_ok (by omega) (by omega)]
    dsimp only
    rw [if_pos hB] at eS eW
    generalize hj : tol (TZ (cQ s) (s.1 7) t (8 * y + x) z t) = j at tr eS
    by_cases g3 : (64 : Int) ≤ j
    · rw [if_pos g3]
      unfold f279_at127
      dsimp only
      rw [if_pos g3, iov_ok (by omega) (by omega)]
      unfold f279_at150
      dsimp only
      rw [iov_ok (by omega) (by omega), e1, ← eW]
      refine ih (z + 1) fuel _ _ v1 (by omega) (by omega) m2 (fun i i0 i1 => ?_) (fun i i0 i1 => ?_)
      · rw [gb_or, h7 i i0 i1, gb_zero, Bool.or_false, eS]
        show _ = (lsS s q t (8 * y + x) z i || decide (i = j))
        rw [decide_eq_false (by omega), Bool.or_false]
      · rw [gb_or, h9 i i0 i1, gb_shl (by omega) (by omega) (by omega) (by omega), eS]
        show _ = (lsS s q t (8 * y + x) z i || decide (i = j))
        congr 1
        by_cases q : i = j
        · rw [decide_eq_true q, decide_eq_true (by omega)]
        · rw [decide_eq_false q, decide_eq_false (by omega)]
    · rw [if_neg g3]
      unfold f279_at127
      dsimp only
      rw [if_neg g3]
      unfold f279_at150
      dsimp only
      rw [iov_ok (by omega) (by omega), e1, ← eW]
      refine ih (z + 1) fuel _ _ v1 (by omega) (by omega) m2 (fun i i0 i1 => ?_) (fun i i0 i1 => ?_)
      · rw [gb_or, h7 i i0 i1, gb_shl (by omega) (by omega) (by omega) (by omega), eS]
      · rw [gb_or, h9 i i0 i1, gb_zero, Bool.or_false, eS]
        show _ = (lsS s q t (8 * y + x) z i || decide (i = j))
        rw [decide_eq_false (by omega), Bool.or_false]
theorem q_lies (hN : 5000 ≤ N) (hI : INV k s) {q t x y : Int} : OKc k s (f157 N q t x y a) (f279 N q t x y a) := by
  obtain ⟨e0, e1, e2, e3, e4⟩ := INV_eq hI
  have hI1 := INV_thrown (x := 0) hI
  have hw := hI.1.1.1
  have hp4 := hI.1.2.2.2.2.2.1
  have i2 := hI.2.1
  have hm := m_mayThrow (N := N) hI1 (p := q) (t := t) (x := x) (y := y)
  have em : mayP (iw s 63 0 0) q t x y ↔ mayP s q t x y := by
    unfold mayP
    rw [iw63 (by decide), iw63 (by decide), iw63 (by decide)]
  rw [em] at hm
  rcases c_canThrow (N := N) (s := s) hw (p := q) (t := t) (x := x) (y := y) with ⟨h, hc⟩ | ⟨h, hc⟩
  rotate_left
  · refine OKc.q hI (x := -1) (s1 := s) (s2 := iw s 63 0 0) ?_ ?_ sameQ_thrown
    · unfold f157
      rw [hc, i_o2_some, if_pos rfl]
    · unfold f279
      dsimp only
      rw [hm.2 h, i_o2_some, if_pos rfl]
  by_cases ha : 0 ≤ a ∧ a ≤ 2
  rotate_left
  · refine OKc.q hI (x := -1) (s1 := s) (s2 := iw s 63 0 0) ?_ ?_ sameQ_thrown
    · unfold f157
      rw [hc, i_o2_some, if_neg (by decide)]
      by_cases g : a < 0
      · rw [if_pos g]
      · rw [if_neg g, if_neg (by omega)]
    · unfold f279
      dsimp only
      rw [hm.1 h, i_o2_some, if_neg (by decide), m_within, i_o2_some, if_neg ha, if_pos rfl]
  obtain ⟨⟨p0, p1⟩, ⟨t0, t1⟩, ⟨x0, x1, y0, y1⟩, h64⟩ := id h
  obtain ⟨P, rfl⟩ := Int.eq_ofNat_of_zero_le p0
  obtain ⟨T, rfl⟩ := Int.eq_ofNat_of_zero_le t0
  obtain ⟨⟨hW0, hW⟩, ⟨hD0, hD⟩, ⟨hn0, hn⟩, -⟩ := id hw
  have hT : T < (cQ s).2.2.2.1 := by
    show T < (s.1 15 3).toNat
    omega
  obtain ⟨vc, k1, k2, r1, r2, r3, r4, r5⟩ := c_lies (N := N) (s := s) (q := P) (t := T) (c := 8 * y + x) hN hI.1.1 (by omega) hT h64 ⟨by omega, by omega⟩
  have qc : sameQ s vc := ⟨fun b hb => k2.1 b (by omega) (by omega), by rw [k2.1 1 (by decide) (by decide)], by rw [k2.1 63 (by decide) (by decide)], by rw [k2.1 63 (by decide) (by decide)], fun j _ => by rw [k2.1 78 (by decide) (by decide)], by rw [k2.2]⟩
  have q1 : sameQ s (iw vc 63 0 0) := qc.tr sameQ_thrown
  have hI2 := sameQ_inv q1 hI
  have w7 : (iw vc 63 0 0).1 7 = s.1 7 := q1.1 7 (by omega)
  have w10 : (iw vc 63 0 0).1 10 = s.1 10 := q1.1 10 (by omega)
  have w16 : (iw vc 63 0 0).1 16 = s.1 16 := q1.1 16 (by omega)
  have wQ := sameQ_cQ q1
  have eB : ∀ z, lsB (iw vc 63 0 0) P T (8 * y + x) z = lsB s P T (8 * y + x) z := fun z => by
    unfold lsB
    rw [wQ, w7, w10, w16]
  have eW : ∀ z, lsW (iw vc 63 0 0) P T (8 * y + x) z = lsW s P T (8 * y + x) z := by
    intro z
    induction z with
    | zero => rfl
    | succ z ih =>
      unfold lsW
      rw [ih, eB, w16]
  have eS : ∀ z, lsS (iw vc 63 0 0) P T (8 * y + x) z = lsS s P T (8 * y + x) z := by
    intro z
    induction z with
    | zero => rfl
    | succ z ih =>
      unfold lsS
      rw [ih, eB, wQ, w7]
  obtain ⟨v2, m2, m1⟩ := m_lies_lp (N := N) (s := iw vc 63 0 0) (a := a) (q := P) (t := T) (x := x) (y := y) hN hI2.1 hI2.2.1.2.2.2.1 (by rw [q1.1 15 (by omega)]; omega) (by rw [wQ]; exact hT) ⟨x0, by omega⟩ ⟨y0, by omega⟩ 9 0 N 0 0 (iw vc 63 0 0) (by decide) (by omega) trl.rf (fun j _ _ => gb_zero) (fun j _ _ => gb_zero)
  rw [eS 9, eW 0, eW 9] at m1
  have m1' : f279_at41 N N P T x y a 0 0 0 0 (iw vc 63 0 0) = _ := m1
  have pos := lsW_pos (t := T) (c := 8 * y + x) hI.1.1 (show P < 4 by omega) 9
  have rgS := lsS_rg (q := P) (c := 8 * y + x) hI.1.1 hT 9
  have fsp := fstB_sp (S := lsS s P T (8 * y + x) 9) 67
  have m71 : vc.1 71 = s.1 71 := k2.1 71 (by decide) (by decide)
  have mm : f279 N P T x y a vc = some (if (cntB (lsS s P T (8 * y + x) 9) 67 : Int) = 0 then -1 else if a = 0 then lsW s P T (8 * y + x) 9 else if a = 1 then (cntB (lsS s P T (8 * y + x) 9) 67 : Int) else fstB (lsS s P T (8 * y + x) 9) 67, v2) := by
    have hm2 := m_mayThrow (N := N) hI2 (p := P) (t := T) (x := x) (y := y)
    have em2 : mayP (iw vc 63 0 0) P T x y := by
      unfold mayP
      rw [q1.1 15 (by omega), q1.1 12 (by omega), w7]
      exact h
    unfold f279
    dsimp only
    rw [hm2.1 em2, i_o2_some, if_neg (by decide), m_within, i_o2_some, if_pos ha, if_neg (by decide)]
    exact m1'
  refine OKc.q hI (s1 := vc) (s2 := v2) ?_ mm (q1.tr (sameQ_trl (by decide) m2))
  unfold f157
  rw [hc, i_o2_some, if_neg (by decide), if_neg (by omega), if_pos ha.2, iov_ok (by omega) (by omega), iov_ok (by omega) (by omega), show y * 8 + x = 8 * y + x by omega, k1, i_o1_some, r1, r2]
  by_cases g : lsW s P T (8 * y + x) 9 = 0
  · have emp := pos.1 g
    have c0 : (cntB (lsS s P T (8 * y + x) 9) 67 : Int) = 0 := by
      have : lsS s P T (8 * y + x) 9 = fun _ => false := funext emp
      rw [this, cntB_false]
      rfl
    rw [if_pos g, if_pos c0]
  · obtain ⟨i, hi⟩ := pos.2 g
    have ri := rgS i hi
    have c0 : ¬ (cntB (lsS s P T (8 * y + x) 9) 67 : Int) = 0 := fun h0 => by
      have := cntB_0 (S := lsS s P T (8 * y + x) 9) 67 (by omega) i.toNat (by omega)
      rw [show ((i.toNat : Nat) : Int) = i by omega, hi] at this
      exact absurd this (by decide)
    rw [if_neg g, if_neg c0]
    by_cases g0 : a = 0
    · rw [if_pos g0, if_pos g0]
    rw [if_neg g0, if_neg g0]
    by_cases g1 : a = 1
    · rw [if_pos g1, if_pos g1]
    rw [if_neg g1, if_neg g1]
    have fpos : 0 ≤ fstB (lsS s P T (8 * y + x) 9) 67 := by
      by_cases q : 0 ≤ fstB (lsS s P T (8 * y + x) 9) 67
      · exact q
      · have := (fsp.2 (by omega)).2 i.toNat (by omega)
        rw [show ((i.toNat : Nat) : Int) = i by omega, hi] at this
        exact absurd this (by decide)
    obtain ⟨f1, f2, f3⟩ := fsp.1 fpos
    have le1 := r4 _ f1
    have hS13 : lsS s P T (8 * y + x) 9 (vc.1 32 13) = true := by
      rcases r5 with h | ⟨-, h⟩
      · exact h
      · rw [h i] at hi
        exact absurd hi (by decide)
    have r13 := rgS _ hS13
    have le2 := f3 (vc.1 32 13).toNat (by omega) (by rw [show (((vc.1 32 13).toNat : Nat) : Int) = vc.1 32 13 by omega]; exact hS13)
    rw [show vc.1 32 13 = fstB (lsS s P T (8 * y + x) 9) 67 by omega]
end QLIES

/-! Promise 25: lies; what is seen from below, and the class. -/
section LIES
variable {N : Nat} {s v u : gI} {k x a : Int} {P p : Int → Int} {Q R : Cf}
/-- the kind nearest the street, so many cells looked at -/
def kdU (Q : Cf) (P : Int → Int) (x : Int) : Nat → Int
  | 0 => -1
  | y + 1 => if 0 ≤ occ P (8 * y + x) (-1) Q.2.2.2.1 then Q.2.2.2.2 (occ P (8 * y + x) (-1) Q.2.2.2.1) else kdU Q P x y
def allB (g : Int → Bool) : Nat → Int → Bool
  | 0, _ => true
  | r + 1, i => g i && allB g r (i + 1)
/-- one column is as it was seen -/
def colB (Q : Cf) (P f : Int → Int) (x : Int) : Bool := decide (f x = -2) || decide (f x = kdU Q P x Q.2.1.toNat)
def fitB (Q : Cf) (P f : Int → Int) : Bool := allB (colB Q P f) Q.1.toNat 0
theorem kdU_eq (h : eqQ Q R) (hn : Q.2.2.2.1 ≤ 8) (he : eq8 P p) {x : Int} : ∀ y : Nat, kdU Q P x y = kdU R p x y
  | 0 => rfl
  | y + 1 => by
    unfold kdU
    have e : occ P (8 * y + x) (-1) Q.2.2.2.1 = occ p (8 * y + x) (-1) R.2.2.2.1 := by rw [← h.2.2.1]; exact occ_eq8 he _ hn
    rw [kdU_eq h hn he y, e]
    by_cases g : 0 ≤ occ p (8 * y + x) (-1) R.2.2.2.1
    · rw [if_pos g, if_pos g]
      obtain ⟨m, hm⟩ := Int.eq_ofNat_of_zero_le g
      have := occ_rg p (8 * y + x) (-1) R.2.2.2.1
      rw [hm, h.2.2.2.2 m (by rw [h.2.2.1]; omega)]
    · rw [if_neg g, if_neg g]
theorem allB_congr {g h : Int → Bool} : ∀ (r : Nat) (i : Int), (∀ j, i ≤ j → j < i + r → g j = h j) → allB g r i = allB h r i
  | 0, _, _ => rfl
  | r + 1, i, hh => by
    unfold allB
    rw [hh i (by omega) (by omega), allB_congr r (i + 1) (fun j j0 j1 => hh j (by omega) (by omega))]
theorem c_kdB_lp (hw : cOK s) (hV : VV (cQ s) P) (x0 : 0 ≤ x ∧ x < s.1 12 0) : ∀ (y fuel : Nat), y < fuel → (y : Int) ≤ s.1 12 1 → f19_at13 N fuel x ((y : Int) - 1) (cst s P) = some (kdU (cQ s) P x y, cst s P) := by
  obtain ⟨⟨hW0, hW⟩, ⟨hD0, hD⟩, hn0, ht⟩ := id hw
  have hn := cW_n hw
  intro y
  induction y with
  | zero =>
    intro fuel hf e
    obtain ⟨fuel, rfl⟩ : ∃ g, fuel = g + 1 := ⟨fuel - 1, by omega⟩
    unfold f19_at13
    rw [if_pos (by decide)]
    rfl
  | succ y ih =>
    intro fuel hf e
    obtain ⟨fuel, rfl⟩ : ∃ g, fuel = g + 1 := ⟨fuel - 1, by omega⟩
    have ih := ih fuel (by omega) (by omega)
    have c : ((y + 1 : Nat) : Int) - 1 = (y : Int) := by omega
    have o9 : (cst s P).1 9 (8 * y + x) = occ2 P (8 * y + x) (cQ s).2.2.2.1 := by rw [cst_9]; exact if_pos ⟨by omega, by omega⟩
    have ow := occ2_who hV (d := 8 * y + x) (by omega) (by omega)
    have e7 : (cQ s).2.2.1 (8 * y + x) = s.1 13 (8 * y + x) := rfl
    unfold f19_at13 kdU
    rw [c, if_neg (by omega), iov_ok (by omega) (by omega), iov_ok (by omega) (by omega)]
    dsimp only
    rw [show (y : Int) * 8 + x = 8 * y + x by omega, ick_ok (by omega) (by omega), o9, ick_ok (by omega) (by omega), cst_ne (by decide) (by decide), show (y : Int) + -1 = (y : Int) - 1 by omega]
    by_cases g7 : s.1 13 (8 * y + x) = 7
    · have hno : occ P (8 * y + x) (-1) (cQ s).2.2.2.1 = -1 := by
        refine occ_none _ fun m hm _ hp => ?_
        have on := okq_on (hV m hm) (by rw [hp]; omega) (by rw [hp]; omega)
        rw [hp] at on
        exact on.2.1 g7
      rw [hno, if_neg (show ¬ (0 : Int) ≤ -1 by decide)]
      by_cases g : occ2 P (8 * y + x) (cQ s).2.2.2.1 < 0
      · rw [if_pos g, iov_ok (by omega) (by omega)]
        exact ih
      · rw [if_neg g, if_pos g7, iov_ok (by omega) (by omega)]
        exact ih
    · rw [e7, if_neg g7] at ow
      rw [ow]
      by_cases g : occ P (8 * y + x) (-1) (cQ s).2.2.2.1 < 0
      · rw [if_pos g, iov_ok (by omega) (by omega), if_neg (by omega)]
        exact ih
      · have rg := occ_rg P (8 * y + x) (-1) (cQ s).2.2.2.1
        rw [if_neg g, if_neg g7, ick_ok (by omega) (by omega), cst_ne (by decide) (by decide), if_pos (by omega)]
        rfl
theorem c_fit_lp (hN : 5000 ≤ N) (hw : cOK s) (hV : VV (cQ s) P) : ∀ (r fuel : Nat) (i : Int), r < fuel → 0 ≤ i → i + r = s.1 12 0 → f18_at2 N fuel i (cst s P) = some (if allB (colB (cQ s) P (s.1 10)) r i = true then 1 else 0, cst s P) := by
  obtain ⟨⟨hW0, hW⟩, ⟨hD0, hD⟩, hn0, ht⟩ := id hw
  intro r
  induction r with
  | zero =>
    intro fuel i hf i0 e
    obtain ⟨fuel, rfl⟩ : ∃ g, fuel = g + 1 := ⟨fuel - 1, by omega⟩
    unfold f18_at2
    rw [cst_ne (by decide) (by decide), if_pos (by omega), ib1_ok (Or.inr rfl)]
    rfl
  | succ r ih =>
    intro fuel i hf i0 e
    obtain ⟨fuel, rfl⟩ : ∃ g, fuel = g + 1 := ⟨fuel - 1, by omega⟩
    have go := ih fuel (i + 1) (by omega) (by omega) (by omega)
    have lk := c_kdB_lp (N := N) (x := i) hw hV ⟨i0, by omega⟩ (s.1 12 1).toNat N (by omega) (by omega)
    have l19 : f19 N i (cst s P) = some (kdU (cQ s) P i (s.1 12 1).toNat, cst s P) := by
      unfold f19
      rw [cst_ne (by decide) (by decide), iov_ok (by omega) (by omega), show s.1 12 1 - 1 = ((s.1 12 1).toNat : Int) - 1 by omega]
      exact lk
    have e1 : (cQ s).2.1 = s.1 12 1 := rfl
    unfold f18_at2 allB colB
    rw [cst_ne (by decide) (by decide), if_neg (by omega), ick_ok (by omega) (by omega), cst_ne (by decide) (by decide), e1]
    by_cases g : s.1 10 i = -2
    · rw [if_pos g, iov_ok (by omega) (by omega), decide_eq_true g, Bool.true_or, Bool.true_and]
      exact go
    rw [if_neg g, ick_ok (by omega) (by omega), l19, i_o2_some, decide_eq_false g, Bool.false_or]
    by_cases g2 : s.1 10 i = kdU (cQ s) P i (s.1 12 1).toNat
    · rw [if_pos g2, iov_ok (by omega) (by omega), decide_eq_true g2, Bool.true_and]
      exact go
    · rw [if_neg g2, ib1_ok (Or.inl rfl), decide_eq_false g2, Bool.false_and]
      rfl
theorem c_fit (hN : 5000 ≤ N) (hw : cOK s) (hV : VV (cQ s) P) : f18 N (cst s P) = some (if fitB (cQ s) P (s.1 10) = true then 1 else 0, cst s P) := by
  have h0 := hw.1.1
  have e1 : (cQ s).1 = s.1 12 0 := rfl
  exact c_fit_lp hN hw hV (cQ s).1.toNat N 0 (by have := hw.1.2; omega) (by decide) (by omega)
/-- whether a slip counts -/
def lsB (s : gI) (q t c : Int) (z : Nat) : Bool := decide (0 < wgt (s.1 16 q) z) && fitB (cQ s) (TZ (cQ s) (s.1 7) t c z) (s.1 10)
def lsW (s : gI) (q t c : Int) : Nat → Int
  | 0 => 0
  | z + 1 => lsW s q t c z + if lsB s q t c z = true then wgt (s.1 16 q) z else 0
def lsS (s : gI) (q t c : Int) : Nat → Int → Bool
  | 0 => fun _ => false
  | z + 1 => if lsB s q t c z = true then (fun j => lsS s q t c z j || decide (j = tol (TZ (cQ s) (s.1 7) t c z t))) else lsS s q t c z
/-- where it may lie, as the class keeps it: a list, how many, the least -/
def lsR (S : Int → Bool) (w : Int) (v : gI) : Prop := v.1 32 11 = w ∧ v.1 32 12 = cntB S 67 ∧ (∀ j, S j = true ↔ ∃ i : Nat, (i : Int) < v.1 32 12 ∧ v.1 37 i = j) ∧ (∀ j, S j = true → v.1 32 13 ≤ j) ∧ (S (v.1 32 13) = true ∨ (v.1 32 13 = 66 ∧ ∀ j, S j = false))
def nl (s v : gI) : Prop := (∀ b : Nat, b ≠ 32 → b ≠ 37 → v.1 b = s.1 b) ∧ v.2 = s.2
theorem nl_w {b : Nat} {i z : Int} (hb : b = 32 ∨ b = 37) (h : nl s v) : nl s (iw v b i z) := ⟨fun c c1 c2 => by rw [iw_ne (by omega)]; exact h.1 c c1 c2, h.2⟩
theorem nl_Q (h : nl s v) : cQ v = cQ s := by
  unfold cQ
  rw [h.1 12 (by decide) (by decide), h.1 13 (by decide) (by decide), h.1 15 (by decide) (by decide), h.1 18 (by decide) (by decide)]
theorem nl_CS (h : nl s v) (hs : CS s) : CS v := by
  obtain ⟨h1, h2, h3, h4, h5⟩ := hs
  refine ⟨?_, ?_, ?_, ?_, ?_⟩
  · unfold cOK
    rw [h.1 12 (by decide) (by decide), h.1 13 (by decide) (by decide), h.1 15 (by decide) (by decide)]
    exact h1
  · unfold scOK
    rw [h.1 9 (by decide) (by decide), h.1 7 (by decide) (by decide), h.1 15 (by decide) (by decide)]
    exact h2
  · rw [nl_Q h, h.1 7 (by decide) (by decide)]
    exact h3
  · rw [h.1 16 (by decide) (by decide)]
    exact h4
  · unfold cWo
    rw [h.1 20 (by decide) (by decide)]
    exact h5
theorem cst_iw {b : Nat} {i z : Int} (hb : b = 32 ∨ b = 37) : iw (cst v P) b i z = cst (iw v b i z) P := by
  have eQ : cQ (iw v b i z) = cQ v := by
    unfold cQ
    rw [iw_ne (by omega), iw_ne (by omega), iw_ne (by omega), iw_ne (by omega)]
  refine gI_ext (fun c => ?_) rfl
  by_cases h9 : c = 9
  · subst h9
    rw [iw_ne (by omega), cst_9, cst_9, eQ, iw_ne (by omega)]
  by_cases h7 : c = 7
  · subst h7
    rw [iw_ne (by omega), cst_7, cst_7]
  rw [cst_ne h7 h9]
  by_cases hc : c = b
  · subst hc
    rw [iw_at, iw_at, cst_ne h7 h9]
  · rw [iw_ne hc, iw_ne hc, cst_ne h7 h9]
/-- one more place is kept -/
theorem c_keep {S : Int → Bool} {w j : Int} {z : Nat} (hN : 5000 ≤ N) (hz : z < 9) (j0 : 0 ≤ j ∧ j ≤ 66) (hc : v.1 32 12 ≤ z) (hr : lsR S w v) (hS : ∀ i, S i = true → 0 ≤ i ∧ i ≤ 66) :
    ∃ v2, f17 N j (cst v P) = some (cst v2 P) ∧ nl v v2 ∧ lsR (fun i => S i || decide (i = j)) w v2 ∧ v2.1 32 12 ≤ (z + 1 : Nat) := by
  obtain ⟨r1, r2, r3, r4, r5⟩ := hr
  have c0 : 0 ≤ v.1 32 12 := by rw [r2]; omega
  -- the least goes first
  generalize hm : (if j < v.1 32 13 then j else v.1 32 13) = m
  have f13 : (iw v 32 13 m).1 32 13 = m := by rw [iw_at, zup_same]
  have f12 : (iw v 32 13 m).1 32 12 = v.1 32 12 := by rw [iw_at, zup_ne (by decide)]
  have f11 : (iw v 32 13 m).1 32 11 = v.1 32 11 := by rw [iw_at, zup_ne (by decide)]
  have f37 : (iw v 32 13 m).1 37 = v.1 37 := iw_ne (by decide)
  have low : ∀ i, (S i || decide (i = j)) = true → m ≤ i := fun i hi => by
    rw [Bool.or_eq_true] at hi
    rcases hi with h | h
    · have := r4 i h
      rw [← hm]
      split <;> omega
    · have := of_decide_eq_true h
      rw [← hm]
      split <;> omega
  have isl : (S m || decide (m = j)) = true := by
    rw [← hm]
    by_cases g : j < v.1 32 13
    · rw [if_pos g, decide_eq_true rfl, Bool.or_true]
    · rw [if_neg g]
      rcases r5 with h | ⟨h1, h2⟩
      · rw [h, Bool.true_or]
      · have : v.1 32 13 = j := by omega
        rw [this, decide_eq_true rfl, Bool.or_true]
  have lp : ∀ (r fuel i : Nat), r < fuel → (i : Int) + r = v.1 32 12 → (∀ l : Nat, l < i → v.1 37 l ≠ j) →
      ∃ v2, f17_at14 N fuel j i (cst (iw v 32 13 m) P) = some (cst v2 P) ∧ nl v v2 ∧ lsR (fun i => S i || decide (i = j)) w v2 ∧ v2.1 32 12 ≤ (z + 1 : Nat) := by
    intro r
    induction r with
    | zero =>
      intro fuel i hf e hne
      obtain ⟨fuel, rfl⟩ : ∃ g, fuel = g + 1 := ⟨fuel - 1, by omega⟩
      have hj : S j = false := by
        cases h : S j with
        | false => rfl
        | true =>
          obtain ⟨l, l1, l2⟩ := (r3 j).1 h
          exact absurd l2 (hne l (by omega))
      have g37 : (iw (iw v 32 13 m) 37 (v.1 32 12) j).1 32 = (iw v 32 13 m).1 32 := iw_ne (by decide)
      refine ⟨iw (iw (iw v 32 13 m) 37 (v.1 32 12) j) 32 12 (v.1 32 12 + 1), ?_, nl_w (Or.inl rfl) (nl_w (Or.inr rfl) (nl_w (Or.inl rfl) ⟨fun _ _ _ => rfl, rfl⟩)), ⟨?_, ?_, ?_, ?_, ?_⟩, ?_⟩
      · unfold f17_at14
        rw [cst_ne (by decide) (by decide), f12, if_pos (by omega), ick_ok (by omega) (by omega)]
        dsimp only
        rw [cst_iw (Or.inr rfl), cst_ne (by decide) (by decide), g37, f12, iov_ok (by omega) (by omega), cst_iw (Or.inl rfl)]
      · rw [iw_at, zup_ne (by decide), g37, f11, r1]
      · rw [iw_at, zup_same, r2, cntB_add S j j0.1 hj 67, if_pos (by omega)]
        omega
      · have e37 : (iw (iw (iw v 32 13 m) 37 (v.1 32 12) j) 32 12 (v.1 32 12 + 1)).1 37 = zup (v.1 37) (v.1 32 12) j := by
          rw [iw_ne (by decide), iw_at, f37]
        intro l
        rw [e37, iw_at, zup_same]
        constructor
        · intro h
          have h : (S l || decide (l = j)) = true := h
          rw [Bool.or_eq_true] at h
          rcases h with h | h
          · obtain ⟨b, b1, b2⟩ := (r3 l).1 h
            exact ⟨b, by omega, by rw [zup_ne (by omega)]; exact b2⟩
          · have hl := of_decide_eq_true h
            exact ⟨(v.1 32 12).toNat, by omega, by rw [show ((v.1 32 12).toNat : Int) = v.1 32 12 by omega, zup_same]; exact hl.symm⟩
        · rintro ⟨b, b1, b2⟩
          show (S l || decide (l = j)) = true
          by_cases q : (b : Int) = v.1 32 12
          · rw [q, zup_same] at b2
            rw [decide_eq_true b2.symm, Bool.or_true]
          · rw [zup_ne q] at b2
            rw [(r3 l).2 ⟨b, by omega, b2⟩, Bool.true_or]
      · rw [iw_at, zup_ne (by decide), g37, f13]
        exact low
      · rw [iw_at, zup_ne (by decide), g37, f13]
        exact Or.inl isl
      · rw [iw_at, zup_same]
        omega
    | succ r ih =>
      intro fuel i hf e hne
      obtain ⟨fuel, rfl⟩ : ∃ g, fuel = g + 1 := ⟨fuel - 1, by omega⟩
      have c : ((i + 1 : Nat) : Int) = (i : Int) + 1 := by omega
      unfold f17_at14
      rw [cst_ne (by decide) (by decide), f12, if_neg (by omega), ick_ok (by omega) (by omega), cst_ne (by decide) (by decide), f37]
      by_cases g : v.1 37 i = j
      · have hj : S j = true := (r3 j).2 ⟨i, by omega, g⟩
        have eS : (fun i => S i || decide (i = j)) = S := funext fun l => by
          by_cases q : l = j
          · rw [q, hj]; rfl
          · rw [decide_eq_false q, Bool.or_false]
        rw [if_pos g]
        refine ⟨iw v 32 13 m, rfl, nl_w (Or.inl rfl) ⟨fun _ _ _ => rfl, rfl⟩, ⟨?_, ?_, ?_, ?_, ?_⟩, ?_⟩
        · rw [f11, r1]
        · rw [f12, r2, eS]
        · rw [f12, f37, eS]
          exact r3
        · rw [f13]
          exact low
        · rw [f13]
          exact Or.inl isl
        · rw [f12]
          omega
      · rw [if_neg g, iov_ok (by omega) (by omega), ← c]
        refine ih fuel (i + 1) (by omega) (by omega) (fun l hl => ?_)
        by_cases q : l = i
        · subst q; exact g
        · exact hne l (by omega)
  have := lp (v.1 32 12).toNat N 0 (by omega) (by omega) (fun l hl => by omega)
  unfold f17
  rw [cst_ne (by decide) (by decide), hm]
  dsimp only
  rw [cst_iw (Or.inl rfl)]
  exact this
theorem tol_rg {z : Int} (h : z = 64 ∨ z = 65 ∨ (0 ≤ z ∧ z < 64) ∨ (128 ≤ z ∧ z < 192)) : 0 ≤ tol z ∧ tol z ≤ 66 := by
  unfold tol
  split <;> omega
theorem lsS_rg {q t : Nat} {c : Int} (hs : CS s) (ht : t < (cQ s).2.2.2.1) : ∀ (z : Nat) (i : Int), lsS s q t c z i = true → 0 ≤ i ∧ i ≤ 66
  | 0, i, h => by exact absurd h (by show ¬ (false = true); decide)
  | z + 1, i, h => by
    unfold lsS at h
    by_cases g : lsB s q t c z = true
    · rw [if_pos g] at h
      have h : (lsS s q t c z i || decide (i = tol (TZ (cQ s) (s.1 7) t c z t))) = true := h
      rw [Bool.or_eq_true] at h
      rcases h with h | h
      · exact lsS_rg hs ht z i h
      · have e := of_decide_eq_true h
        have hV := VV_thrown hs.1.1.2 hs.1.2.1.2 ht hs.2.2.1 (c % 8 + sX z) (c / 8 + sY z)
        have := tol_rg (okq_rg (hV t ht))
        have eT : TZ (cQ s) (s.1 7) t c z = thrown (cQ s) (s.1 7) t (c % 8 + sX z) (c / 8 + sY z) := rfl
        rw [← eT] at this
        omega
    · rw [if_neg g] at h
      exact lsS_rg hs ht z i h
theorem lsW_rg {q : Nat} {t c : Int} (hs : CS s) (hq : q < 4) : ∀ z : Nat, 0 ≤ lsW s q t c z ∧ lsW s q t c z ≤ 80 * z
  | 0 => ⟨Int.le_refl _, Int.le_refl _⟩
  | z + 1 => by
    have ih := lsW_rg (t := t) (c := c) hs hq z
    have ar := hs.2.2.2.1 q (by omega) (by omega)
    have := wgt_rg (z := z) ar.1 ar.2
    have e : lsW s q t c (z + 1) = lsW s q t c z + if lsB s q t c z = true then wgt (s.1 16 q) z else 0 := rfl
    rw [e]
    split <;> omega
theorem lsW_pos {q : Nat} {t c : Int} (hs : CS s) (hq : q < 4) : ∀ z : Nat, (lsW s q t c z = 0 → ∀ i, lsS s q t c z i = false) ∧ (lsW s q t c z ≠ 0 → ∃ i, lsS s q t c z i = true)
  | 0 => ⟨fun _ _ => rfl, fun h => absurd rfl h⟩
  | z + 1 => by
    have ih := lsW_pos (t := t) (c := c) hs hq z
    have rg := lsW_rg (t := t) (c := c) hs hq z
    have e : lsW s q t c (z + 1) = lsW s q t c z + if lsB s q t c z = true then wgt (s.1 16 q) z else 0 := rfl
    have eS : lsS s q t c (z + 1) = if lsB s q t c z = true then (fun j => lsS s q t c z j || decide (j = tol (TZ (cQ s) (s.1 7) t c z t))) else lsS s q t c z := rfl
    rw [e, eS]
    by_cases g : lsB s q t c z = true
    · have gw : 0 < wgt (s.1 16 q) z := by
        unfold lsB at g
        rw [Bool.and_eq_true] at g
        exact of_decide_eq_true g.1
      rw [if_pos g, if_pos g]
      refine ⟨fun h => by omega, fun _ => ⟨tol (TZ (cQ s) (s.1 7) t c z t), ?_⟩⟩
      show (_ || decide _) = true
      rw [decide_eq_true rfl, Bool.or_true]
    · rw [if_neg g, if_neg g, Int.add_zero]
      exact ih
theorem c_lies_lp {q t : Nat} {c : Int} (hN : 5000 ≤ N) (hs : CS s) (hq : q < 4) (ht : t < (cQ s).2.2.2.1) (hp : s.1 7 t = 64) (c0 : 0 ≤ c ∧ c < 64) : ∀ (r z fuel : Nat) (v : gI), z + r = 9 → r < fuel → nl s v → lsR (lsS s q t c z) (lsW s q t c z) v → v.1 32 12 ≤ z →
    ∃ v2, f16_at19 N fuel q t c z v = some v2 ∧ nl s v2 ∧ lsR (lsS s q t c 9) (lsW s q t c 9) v2 := by
  have hn := cW_n hs.1
  have ar := hs.2.2.2.1 q (by omega) (by omega)
  intro r
  induction r with
  | zero =>
    intro z fuel v e hf h hr hc
    obtain ⟨fuel, rfl⟩ : ∃ g, fuel = g + 1 := ⟨fuel - 1, by omega⟩
    have ez : z = 9 := by omega
    subst ez
    refine ⟨v, ?_, h, hr⟩
    unfold f16_at19
    rw [if_pos (by decide)]
  | succ r ih =>
    intro z fuel v e hf h hr hc
    obtain ⟨fuel, rfl⟩ : ∃ g, fuel = g + 1 := ⟨fuel - 1, by omega⟩
    have e1 : ((z : Int) + 1) = ((z + 1 : Nat) : Int) := by omega
    have rw1 := wgt_rg (z := z) ar.1 ar.2
    have rx := sX_rg (z := z) (by omega) (by omega)
    have ry := sY_rg (z := z) (by omega) (by omega)
    have hv := nl_CS h hs
    have eQ := nl_Q h
    have e7 := h.1 7 (by decide) (by decide)
    have e10 := h.1 10 (by decide) (by decide)
    have e16 := h.1 16 (by decide) (by decide)
    have eT : thrown (cQ s) (s.1 7) t (c % 8 + sX z) (c / 8 + sY z) = TZ (cQ s) (s.1 7) t c z := rfl
    have l1 := c_land (N := N) (s := v) (p := v.1 7) (m := t) (x := c % 8 + sX z) (y := c / 8 + sY z) hN hv.1 hv.2.2.1 (by rw [eQ]; exact ht) (by rw [e7]; exact hp) (by omega) (by omega)
    rw [CS_self hv, eQ, e7, eT] at l1
    have hVT : VV (cQ s) (TZ (cQ s) (s.1 7) t c z) := VV_thrown hs.1.1.2 hs.1.2.1.2 ht hs.2.2.1 _ _
    have back : ∀ v' : gI, nl s v' → f16_at124 N (f16_at19 N fuel) q t c z (c % 8 + sX z) (c / 8 + sY z) (hitOf (cQ s) (s.1 7) t (c % 8 + sX z) (c / 8 + sY z)) (cst v' (TZ (cQ s) (s.1 7) t c z)) = f16_at19 N fuel q t c ((z + 1 : Nat) : Int) v' := fun v' h' => by
      have hv' := nl_CS h' hs
      have l2 := c_takeBack (N := N) (s := v') (p := v'.1 7) (m := t) (x := c % 8 + sX z) (y := c / 8 + sY z) hv'.1 hv'.2.2.1 (by rw [nl_Q h']; exact ht) (by rw [h'.1 7 (by decide) (by decide)]; exact hp) (by omega) (by omega)
      rw [CS_self hv', nl_Q h', h'.1 7 (by decide) (by decide), eT] at l2
      unfold f16_at124
      rw [l2, i_o1_some, iov_ok (by omega) (by omega), e1]
    have eS : lsS s q t c (z + 1) = if lsB s q t c z = true then (fun j => lsS s q t c z j || decide (j = tol (TZ (cQ s) (s.1 7) t c z t))) else lsS s q t c z := rfl
    have eW : lsW s q t c (z + 1) = lsW s q t c z + if lsB s q t c z = true then wgt (s.1 16 q) z else 0 := rfl
    have rg := lsW_rg (t := t) (c := c) hs hq z
    have lf := c_fit (N := N) (s := v) (P := TZ (cQ s) (s.1 7) t c z) hN hv.1 (by rw [eQ]; exact hVT)
    rw [eQ, e10] at lf
    have skip : lsB s q t c z = false → ∃ v2, f16_at124 N (f16_at19 N fuel) q t c z (c % 8 + sX z) (c / 8 + sY z) (hitOf (cQ s) (s.1 7) t (c % 8 + sX z) (c / 8 + sY z)) (cst v (TZ (cQ s) (s.1 7) t c z)) = some v2 ∧ nl s v2 ∧ lsR (lsS s q t c 9) (lsW s q t c 9) v2 := fun hB => by
      rw [back v h]
      refine ih (z + 1) fuel v (by omega) (by omega) h ?_ (by omega)
      rw [eS, eW, hB, if_neg (by decide), if_neg (by decide), Int.add_zero]
      exact hr
    unfold f16_at19
    rw [if_neg (by omega), ick_ok (by omega) (by omega), e16, c_weight ar.1 ar.2, i_o2_some, idv_ok (by omega) (by decide), ick_ok (by omega) (by omega), i_slipX (by omega) (by omega), iov_ok (by omega) (by omega)]
    dsimp only
    rw [idv_ok (by omega) (by decide), ick_ok (by omega) (by omega), i_slipY (by omega) (by omega), iov_ok (by omega) (by omega), l1, i_o2_some]
    by_cases g : wgt (s.1 16 q) z ≤ 0
    · rw [if_pos g]
      exact skip (by unfold lsB; rw [decide_eq_false (by omega), Bool.false_and])
    rw [if_neg g, lf, i_o2_some]
    by_cases g2 : fitB (cQ s) (TZ (cQ s) (s.1 7) t c z) (s.1 10) = true
    rotate_left
    · rw [if_neg g2, if_pos rfl]
      refine skip ?_
      unfold lsB
      cases hh : fitB (cQ s) (TZ (cQ s) (s.1 7) t c z) (s.1 10) with
      | true => exact absurd hh g2
      | false => rw [Bool.and_false]
    have hB : lsB s q t c z = true := by
      unfold lsB
      rw [g2, decide_eq_true (by omega), Bool.and_true]
    obtain ⟨r1, r2, r3, r4, r5⟩ := id hr
    have hr2 : lsR (lsS s q t c z) (lsW s q t c z + wgt (s.1 16 q) z) (iw v 32 11 (lsW s q t c z + wgt (s.1 16 q) z)) := by
      refine ⟨?_, ?_, ?_, ?_, ?_⟩
      · rw [iw_at, zup_same]
      · rw [iw_at, zup_ne (by decide)]; exact r2
      · rw [iw_at, zup_ne (by decide), iw_ne (by decide)]; exact r3
      · rw [iw_at, zup_ne (by decide)]; exact r4
      · rw [iw_at, zup_ne (by decide)]; exact r5
    have tr := tol_rg (okq_rg (hVT t ht))
    obtain ⟨v1, k1, k2, k3, k4⟩ := c_keep (N := N) (P := TZ (cQ s) (s.1 7) t c z) (j := tol (TZ (cQ s) (s.1 7) t c z t)) (z := z) hN (by omega) tr (by rw [iw_at, zup_ne (by decide)]; exact hc) hr2 (lsS_rg hs ht z)
    have h1 : nl s v1 := ⟨fun b b1 b2 => by rw [k2.1 b b1 b2, iw_ne b1]; exact h.1 b b1 b2, by rw [k2.2]; exact h.2⟩
    rw [if_pos g2, if_neg (by decide), cst_ne (by decide) (by decide), r1, iov_ok (by omega) (by omega), cst_iw (Or.inl rfl)]
    rw [ick_ok (by omega) (by omega), cst_7, c_told, i_o2_some, k1, i_o1_some, back v1 h1]
    refine ih (z + 1) fuel v1 (by omega) (by omega) h1 ?_ k4
    rw [eS, eW, if_pos hB, if_pos hB]
    exact k3
theorem cntB_false : ∀ n : Nat, cntB (fun _ => false) n = 0
  | 0 => rfl
  | n + 1 => by
    unfold cntB
    rw [cntB_false n]
    rfl
theorem c_lies {q t : Nat} {c : Int} (hN : 5000 ≤ N) (hs : CS s) (hq : q < 4) (ht : t < (cQ s).2.2.2.1) (hp : s.1 7 t = 64) (c0 : 0 ≤ c ∧ c < 64) :
    ∃ v2, f16 N q t c s = some v2 ∧ nl s v2 ∧ lsR (lsS s q t c 9) (lsW s q t c 9) v2 := by
  have h0 : nl s (iw (iw (iw s 32 11 0) 32 12 0) 32 13 66) := nl_w (Or.inl rfl) (nl_w (Or.inl rfl) (nl_w (Or.inl rfl) ⟨fun _ _ _ => rfl, rfl⟩))
  have f13 : (iw (iw (iw s 32 11 0) 32 12 0) 32 13 66).1 32 13 = 66 := by rw [iw_at, zup_same]
  have f12 : (iw (iw (iw s 32 11 0) 32 12 0) 32 13 66).1 32 12 = 0 := by rw [iw_at, zup_ne (by decide), iw_at, zup_same]
  have f11 : (iw (iw (iw s 32 11 0) 32 12 0) 32 13 66).1 32 11 = 0 := by rw [iw_at, zup_ne (by decide), iw_at, zup_ne (by decide), iw_at, zup_same]
  have := c_lies_lp (N := N) (s := s) hN hs hq ht hp c0 9 0 N (iw (iw (iw s 32 11 0) 32 12 0) 32 13 66) (by decide) (by omega) h0 ⟨f11, by rw [f12]; show 0 = ((cntB (fun _ => false) 67 : Nat) : Int); rw [cntB_false]; rfl, fun j => ⟨fun h => absurd h (by show ¬ (false = true); decide), fun ⟨i, i1, _⟩ => by rw [f12] at i1; omega⟩, fun j h => absurd h (by show ¬ (false = true); decide), Or.inr ⟨f13, fun _ => rfl⟩⟩ (by rw [f12]; decide)
  unfold f16
  exact this
end LIES

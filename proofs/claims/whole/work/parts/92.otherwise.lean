/-! Promise 29: otherwise answered alike. -/
section OTHER
variable {N : Nat} {s v u : gI} {k x y a place : Int} {tl T : Int → Int} {W D cell : Int}
/-- what rolls freely on a roof without things, told -/
def bR (W D : Int) (tl : Int → Int) (c : Int) : Int := tol (roll W D tl (fun _ => -1) 64 (fun j => decide (j = c)) c)
def ow1 (h : Bool) (z : Int) (nf : Int × Int) : Int × Int := if h = true then (nf.1 + 1, if nf.2 = -1 then z else nf.2) else nf
def owZ (h : Int → Bool) (c : Int) : Nat → Int → Int × Int → Int × Int
  | 0, _, nf => nf
  | r + 1, z, nf => owZ h c r (z + 1) (ow1 (h z) (8 * c + z) nf)
def owC (W : Int) (tl : Int → Int) (H : Int → Int → Bool) : Nat → Int → Int × Int → Int × Int
  | 0, _, nf => nf
  | r + 1, c, nf => owC W tl H r (c + 1) (if c % 8 < W ∧ tl c ≤ 5 then owZ (H c) c 6 0 nf else nf)
def owI (nf : Int × Int) : Prop := (nf.1 = 0 ∧ nf.2 = -1) ∨ (0 < nf.1 ∧ 0 ≤ nf.2)
theorem ow1_I {h : Bool} {z : Int} {nf : Int × Int} (hz : 0 ≤ z) (hi : owI nf) : owI (ow1 h z nf) ∧ nf.1 ≤ (ow1 h z nf).1 ∧ (ow1 h z nf).1 ≤ nf.1 + 1 := by
  unfold ow1 owI at *
  cases h with
  | false => rw [if_neg (by decide)]; omega
  | true =>
    rw [if_pos rfl]
    dsimp only
    rcases hi with ⟨h1, h2⟩ | ⟨h1, h2⟩
    · rw [if_pos h2]; omega
    · rw [if_neg (by omega)]; omega
theorem owZ_I {h : Int → Bool} {c : Int} (hc : 0 ≤ c) : ∀ (r : Nat) (z : Int) (nf : Int × Int), 0 ≤ z → owI nf → owI (owZ h c r z nf) ∧ nf.1 ≤ (owZ h c r z nf).1 ∧ (owZ h c r z nf).1 ≤ nf.1 + r
  | 0, _, nf, _, hi => ⟨hi, Int.le_refl _, by show nf.1 ≤ nf.1 + 0; omega⟩
  | r + 1, z, nf, z0, hi => by
    obtain ⟨h1, h2, h3⟩ := ow1_I (h := h z) (z := 8 * c + z) (by omega) hi
    obtain ⟨k1, k2, k3⟩ := owZ_I (h := h) hc r (z + 1) _ (by omega) h1
    unfold owZ
    exact ⟨k1, by omega, by omega⟩
theorem owC_none {H : Int → Int → Bool} (hH : ∀ c z, 0 ≤ c → c < 64 → 0 ≤ z → z ≤ 5 → H c z = false) : ∀ (r : Nat) (c : Int) (nf : Int × Int), 0 ≤ c → c + r ≤ 64 → owC W tl H r c nf = nf
  | 0, _, _, _, _ => rfl
  | r + 1, c, nf, c0, c1 => by
    have hz : ∀ (q : Nat) (z : Int), 0 ≤ z → z + q ≤ 6 → owZ (H c) c q z nf = nf := by
      intro q
      induction q with
      | zero => intro z _ _; rfl
      | succ q ih =>
        intro z z0 z1
        unfold owZ ow1
        rw [hH c z c0 (by omega) z0 (by omega), if_neg (by decide)]
        exact ih (z + 1) (by omega) (by omega)
    unfold owC
    rw [hz 6 0 (by decide) (by decide)]
    have : (if c % 8 < W ∧ tl c ≤ 5 then nf else nf) = nf := by split <;> rfl
    rw [this]
    exact owC_none hH r (c + 1) nf (by omega) (by omega)
theorem owZ_congr {h g : Int → Bool} {c : Int} : ∀ (r : Nat) (z : Int) (nf : Int × Int), 0 ≤ z → z + r ≤ 6 → (∀ w, 0 ≤ w → w ≤ 5 → h w = g w) → owZ h c r z nf = owZ g c r z nf
  | 0, _, _, _, _, _ => rfl
  | r + 1, z, nf, z0, z1, hh => by
    unfold owZ
    rw [hh z z0 (by omega), owZ_congr r (z + 1) _ (by omega) (by omega) hh]
theorem owC_congr {H G : Int → Int → Bool} {tl2 : Int → Int} (hD : D ≤ 8) : ∀ (r : Nat) (c : Int) (nf : Int × Int), 0 ≤ c → c + r ≤ 8 * D → (∀ d, 0 ≤ d → d < 8 * D → d % 8 < W → tl d = tl2 d ∧ (tl d ≤ 5 → ∀ w, 0 ≤ w → w ≤ 5 → H d w = G d w)) → owC W tl H r c nf = owC W tl2 G r c nf
  | 0, _, _, _, _, _ => rfl
  | r + 1, c, nf, c0, c1, hh => by
    unfold owC
    have e : (if c % 8 < W ∧ tl c ≤ 5 then owZ (H c) c 6 0 nf else nf) = (if c % 8 < W ∧ tl2 c ≤ 5 then owZ (G c) c 6 0 nf else nf) := by
      by_cases g : c % 8 < W
      · obtain ⟨h1, h2⟩ := hh c c0 (by omega) g
        by_cases g2 : tl c ≤ 5
        · rw [if_pos ⟨g, g2⟩, if_pos ⟨g, by omega⟩, owZ_congr 6 0 nf (by decide) (by decide) (h2 g2)]
        · rw [if_neg (fun q => g2 q.2), if_neg (fun q => g2 (by omega))]
      · rw [if_neg (fun q => g q.1), if_neg (fun q => g q.1)]
    rw [e, owC_congr hD r (c + 1) _ (by omega) (by omega) hh]
/-- where it may come to -/
theorem bR_rg (hW : W ≤ 8) (hD : D ≤ 8) (h : 0 ≤ cell ∧ cell < 64 ∧ cell % 8 < W ∧ cell / 8 < D) (h7 : tl cell ≠ 7) (h8 : tl cell ≠ 8) : (64 ≤ bR W D tl cell ∧ bR W D tl cell ≤ 66) ∨ (0 ≤ bR W D tl cell ∧ bR W D tl cell < 64 ∧ bR W D tl cell % 8 < W ∧ bR W D tl cell / 8 < D) := by
  have := roll_ok (Q := (W, D, tl, 0, fun _ => 0)) (p := fun _ => 64) (t := 0) hW hD 64 (fun j => decide (j = cell)) cell (Or.inr (Or.inr (Or.inl ⟨h, h7, h8, fun k hk => absurd hk (Nat.not_lt_zero k)⟩)))
  have e : exO (W, D, tl, 0, fun _ => 0) (fun _ => 64) 0 = fun _ => -1 := rfl
  rw [e] at this
  have er : bR W D tl cell = tol (roll W D tl (fun _ => -1) 64 (fun j => decide (j = cell)) cell) := rfl
  have this : okq (W, D, tl, 0, fun _ => 0) (fun _ => 64) 0 (roll W D tl (fun _ => -1) 64 (fun j => decide (j = cell)) cell) := this
  generalize roll W D tl (fun _ => -1) 64 (fun j => decide (j = cell)) cell = z at this er
  rw [er]
  unfold tol
  rcases this with q | q | q | q
  · rw [q, if_pos (by decide)]; exact Or.inl (by decide)
  · rw [q, if_pos (by decide)]; exact Or.inl (by decide)
  · obtain ⟨q1, q2, q3, q4⟩ := q.1
    rw [if_pos (by omega)]
    exact Or.inr ⟨q1, q2, q3, q4⟩
  · have := q.1.1
    rw [if_neg (by omega)]
    exact Or.inl (by decide)
theorem c_bare (hN : 5000 ≤ N) (hw : cOK s) (hb : ∀ c, 0 ≤ c → c < 64 → s.1 14 c = -1) (on : onR (cQ s) cell) (hT : ∀ c, 0 ≤ c → c < 64 → 0 ≤ T c ∧ T c ≤ 8) (h7 : T cell ≠ 7) (h8 : T cell ≠ 8) : i_o2 (f84 N 14 cell 64 (ic s 13 T)) (fun i5 s4 => f171 N i5 s4) = some (bR (s.1 12 0) (s.1 12 1) T cell, ic s 13 T) := by
  have hw' : cOK (ic s 13 T) := by
    refine ⟨?_, ?_, ?_, ?_⟩
    · rw [ic_ne (by decide)]; exact hw.1
    · rw [ic_ne (by decide)]; exact hw.2.1
    · rw [ic_ne (by decide)]; exact hw.2.2.1
    · rw [ic_at]; exact hT
  have on' : onR (cQ (ic s 13 T)) cell := by
    obtain ⟨o1, o2, o3, o4⟩ := on
    refine ⟨o1, o2, ?_, ?_⟩
    · show cell % 8 < (ic s 13 T).1 12 0
      rw [ic_ne (by decide)]; exact o3
    · show cell / 8 < (ic s 13 T).1 12 1
      rw [ic_ne (by decide)]; exact o4
  have l := c_bareRoll (N := N) (s := ic s 13 T) hN hw' (by rw [ic_ne (by decide)]; exact hb) on' (by rw [ic_at]; exact h7) (by rw [ic_at]; exact h8)
  rw [l, i_o2_some, c_told]
  have e12 : (ic s 13 T).1 12 = s.1 12 := ic_ne (by decide)
  have e : rollT (Qb (ic s 13 T)) (fun _ => 64) 0 cell = roll ((ic s 13 T).1 12 0) ((ic s 13 T).1 12 1) ((ic s 13 T).1 13) (fun _ => -1) 64 (fun j => decide (j = cell)) cell := rfl
  rw [e, e12, ic_at]
  rfl
/-- whether this tile on that cell does it -/
def hB (W D : Int) (tl : Int → Int) (cell place c z : Int) : Bool := decide (bR W D (zup tl c z) cell = place)
theorem c_owZ_lp {f : Int → Int → Int → Int → Int → Int → gI → Option (Int × gI)} {c : Int} (hN : 5000 ≤ N) (hw : cOK s) (hb : ∀ c, 0 ≤ c → c < 64 → s.1 14 c = -1) (on : onR (cQ s) cell) (h7 : s.1 13 cell ≠ 7) (h8 : s.1 13 cell ≠ 8) (c0 : 0 ≤ c ∧ c < 64) : ∀ (r fuel : Nat) (z n fst : Int) (T : Int → Int), 0 ≤ z → z + r = 6 → r < fuel → (∀ w, zup T c w = zup (s.1 13) c w) → owI (n, fst) → n + r ≤ 900 →
    f85_at82 N f fuel cell place a n fst c (s.1 13 c) z (ic s 13 T) = f cell place a (owZ (hB (s.1 12 0) (s.1 12 1) (s.1 13) cell place c) c r z (n, fst)).1 (owZ (hB (s.1 12 0) (s.1 12 1) (s.1 13) cell place c) c r z (n, fst)).2 (c + 1) s := by
  intro r
  induction r with
  | zero =>
    intro fuel z n fst T z0 e hf hT hi hn
    obtain ⟨fuel, rfl⟩ : ∃ g, fuel = g + 1 := ⟨fuel - 1, by omega⟩
    unfold f85_at82
    rw [if_pos (by omega), ick_ok c0.1 c0.2]
    dsimp only
    rw [iov_ok (by omega) (by omega), iw_ic, ic_at, ic_ic, hT, zup_self, ic_self]
    rfl
  | succ r ih =>
    intro fuel z n fst T z0 e hf hT hi hn
    obtain ⟨fuel, rfl⟩ : ∃ g, fuel = g + 1 := ⟨fuel - 1, by omega⟩
    have n0 : 0 ≤ n := by
      rcases hi with ⟨i1, -⟩ | ⟨i1, -⟩
      · have i1 : n = 0 := i1
        omega
      · have i1 : 0 < n := i1
        omega
    have l := c_bare (N := N) (T := zup (s.1 13) c z) hN hw hb on (fun d d0 d1 => by
      by_cases q : d = c
      · rw [q, zup_same]; omega
      · rw [zup_ne q]; exact hw.2.2.2 d d0 d1) (by
      by_cases q : cell = c
      · rw [q, zup_same]; omega
      · rw [zup_ne q]; exact h7) (by
      by_cases q : cell = c
      · rw [q, zup_same]; omega
      · rw [zup_ne q]; exact h8)
    have hI2 := ow1_I (h := hB (s.1 12 0) (s.1 12 1) (s.1 13) cell place c z) (z := 8 * c + z) (by omega) hi
    have hI1 := hI2.1
    have go := fun nf : Int × Int => fun hnf : nf = ow1 (hB (s.1 12 0) (s.1 12 1) (s.1 13) cell place c z) (8 * c + z) (n, fst) => ih fuel (z + 1) nf.1 nf.2 (zup (s.1 13) c z) (by omega) (by omega) (by omega) (fun w => by rw [zup_zup]) (by rw [hnf]; exact hI1)
    have eo : owZ (hB (s.1 12 0) (s.1 12 1) (s.1 13) cell place c) c (r + 1) z (n, fst) = owZ (hB (s.1 12 0) (s.1 12 1) (s.1 13) cell place c) c r (z + 1) (ow1 (hB (s.1 12 0) (s.1 12 1) (s.1 13) cell place c z) (8 * c + z) (n, fst)) := rfl
    rw [eo]
    have l2 : ∀ K : Int → gI → Option (Int × gI), i_o2 (f84 N 14 cell 64 (ic s 13 (zup (s.1 13) c z))) (fun i5 s4 => i_o2 (f171 N i5 s4) K) = K (bR (s.1 12 0) (s.1 12 1) (zup (s.1 13) c z) cell) (ic s 13 (zup (s.1 13) c z)) := fun K => by
      cases hq : f84 N 14 cell 64 (ic s 13 (zup (s.1 13) c z)) with
      | none => rw [hq] at l; exact absurd l (by intro q; cases q)
      | some b =>
        obtain ⟨b1, b2⟩ := b
        rw [hq, i_o2_some] at l
        rw [i_o2_some, l, i_o2_some]
    unfold f85_at82
    rw [if_neg (by omega), ick_ok c0.1 c0.2]
    dsimp only
    rw [iw_ic, ic_at, ic_ic, hT, l2]
    by_cases g : bR (s.1 12 0) (s.1 12 1) (zup (s.1 13) c z) cell = place
    · have hh : hB (s.1 12 0) (s.1 12 1) (s.1 13) cell place c z = true := decide_eq_true g
      rw [if_pos g, iov_ok (by omega) (by omega)]
      by_cases g2 : fst = -1
      · have e2 : ow1 (hB (s.1 12 0) (s.1 12 1) (s.1 13) cell place c z) (8 * c + z) (n, fst) = (n + 1, 8 * c + z) := by
          unfold ow1
          rw [if_pos hh]
          show (n + 1, if fst = -1 then 8 * c + z else fst) = _
          rw [if_pos g2]
        rw [if_pos g2, iov_ok (by omega) (by omega), iov_ok (by omega) (by omega), iov_ok (by omega) (by omega), show c * 8 + z = 8 * c + z by omega, e2]
        exact go _ e2.symm (by show n + 1 + r ≤ 900; omega)
      · have e2 : ow1 (hB (s.1 12 0) (s.1 12 1) (s.1 13) cell place c z) (8 * c + z) (n, fst) = (n + 1, fst) := by
          unfold ow1
          rw [if_pos hh]
          show (n + 1, if fst = -1 then 8 * c + z else fst) = _
          rw [if_neg g2]
        rw [if_neg g2, iov_ok (by omega) (by omega), e2]
        exact go _ e2.symm (by show n + 1 + r ≤ 900; omega)
    · have hh : hB (s.1 12 0) (s.1 12 1) (s.1 13) cell place c z = false := decide_eq_false g
      have e2 : ow1 (hB (s.1 12 0) (s.1 12 1) (s.1 13) cell place c z) (8 * c + z) (n, fst) = (n, fst) := by
        unfold ow1
        rw [hh, if_neg (by decide)]
      rw [if_neg g, iov_ok (by omega) (by omega), e2]
      exact go _ e2.symm (by show n + r ≤ 900; omega)
theorem c_owC_lp (hN : 5000 ≤ N) (hw : cOK s) (hb : ∀ c, 0 ≤ c → c < 64 → s.1 14 c = -1) (on : onR (cQ s) cell) (h7 : s.1 13 cell ≠ 7) (h8 : s.1 13 cell ≠ 8) : ∀ (r fuel : Nat) (c n fst : Int), 0 ≤ c → c + r = 64 → r < fuel → owI (n, fst) → n + 6 * r ≤ 800 →
    f85_at37 N fuel cell place a n fst c s = some (if a = 0 then (if (owC (s.1 12 0) (s.1 13) (hB (s.1 12 0) (s.1 12 1) (s.1 13) cell place) (8 * s.1 12 1 - c).toNat c (n, fst)).1 ≤ 0 then (owC (s.1 12 0) (s.1 13) (hB (s.1 12 0) (s.1 12 1) (s.1 13) cell place) (8 * s.1 12 1 - c).toNat c (n, fst)).2 else (owC (s.1 12 0) (s.1 13) (hB (s.1 12 0) (s.1 12 1) (s.1 13) cell place) (8 * s.1 12 1 - c).toNat c (n, fst)).1) else (owC (s.1 12 0) (s.1 13) (hB (s.1 12 0) (s.1 12 1) (s.1 13) cell place) (8 * s.1 12 1 - c).toNat c (n, fst)).2, s) := by
  obtain ⟨⟨hW0, hW⟩, ⟨hD0, hD⟩, -, -⟩ := id hw
  intro r
  induction r with
  | zero =>
    intro fuel c n fst c0 e hf hi hn
    obtain ⟨fuel, rfl⟩ : ∃ g, fuel = g + 1 := ⟨fuel - 1, by omega⟩
    rw [show (8 * s.1 12 1 - c).toNat = 0 by omega]
    unfold f85_at37 owC
    rw [if_pos (by omega)]
    by_cases g : a = 0
    · rw [if_pos g, if_pos g]
      dsimp only
      by_cases g2 : n ≤ 0
      · rw [if_pos g2, if_pos g2]
      · rw [if_neg g2, if_neg g2]
    · rw [if_neg g, if_neg g]
  | succ r ih =>
    intro fuel c n fst c0 e hf hi hn
    obtain ⟨fuel, rfl⟩ : ∃ g, fuel = g + 1 := ⟨fuel - 1, by omega⟩
    have go := ih fuel (c + 1)
    have skip : (owC (s.1 12 0) (s.1 13) (hB (s.1 12 0) (s.1 12 1) (s.1 13) cell place) (8 * s.1 12 1 - c).toNat c (n, fst)) = (owC (s.1 12 0) (s.1 13) (hB (s.1 12 0) (s.1 12 1) (s.1 13) cell place) (8 * s.1 12 1 - (c + 1)).toNat (c + 1) (n, fst)) → f85_at37 N fuel cell place a n fst (c + 1) s = some (if a = 0 then (if (owC (s.1 12 0) (s.1 13) (hB (s.1 12 0) (s.1 12 1) (s.1 13) cell place) (8 * s.1 12 1 - c).toNat c (n, fst)).1 ≤ 0 then (owC (s.1 12 0) (s.1 13) (hB (s.1 12 0) (s.1 12 1) (s.1 13) cell place) (8 * s.1 12 1 - c).toNat c (n, fst)).2 else (owC (s.1 12 0) (s.1 13) (hB (s.1 12 0) (s.1 12 1) (s.1 13) cell place) (8 * s.1 12 1 - c).toNat c (n, fst)).1) else (owC (s.1 12 0) (s.1 13) (hB (s.1 12 0) (s.1 12 1) (s.1 13) cell place) (8 * s.1 12 1 - c).toNat c (n, fst)).2, s) := fun he => by
      rw [he]
      exact go n fst (by omega) (by omega) (by omega) hi (by omega)
    have cut : c < 8 * s.1 12 1 → (8 * s.1 12 1 - c).toNat = (8 * s.1 12 1 - (c + 1)).toNat + 1 := fun h => by omega
    unfold f85_at37
    rw [if_neg (by omega), ick_ok c0 (by omega)]
    dsimp only
    rw [idv_ok c0 (by decide), idv_ok c0 (by decide), c_has, i_o2_some]
    by_cases g1 : c < 8 * s.1 12 1 ∧ c % 8 < s.1 12 0
    rotate_left
    · rw [if_neg (show ¬ (0 ≤ c % 8 ∧ c % 8 < s.1 12 0 ∧ 0 ≤ c / 8 ∧ c / 8 < s.1 12 1) from fun q => g1 ⟨by omega, q.2.1⟩), if_pos rfl, iov_ok (by omega) (by omega)]
      refine skip ?_
      by_cases g2 : c < 8 * s.1 12 1
      · rw [cut g2]
        have hno : ¬ (c % 8 < s.1 12 0 ∧ s.1 13 c ≤ 5) := fun q => g1 ⟨g2, q.1⟩
        conv => lhs; unfold owC
        rw [if_neg hno]
      · rw [show (8 * s.1 12 1 - c).toNat = 0 by omega, show (8 * s.1 12 1 - (c + 1)).toNat = 0 by omega]
        rfl
    rw [if_pos (show 0 ≤ c % 8 ∧ c % 8 < s.1 12 0 ∧ 0 ≤ c / 8 ∧ c / 8 < s.1 12 1 by omega), if_neg (by decide)]
    by_cases g3 : s.1 13 c ≤ 5
    rotate_left
    · rw [if_neg g3, iov_ok (by omega) (by omega)]
      refine skip ?_
      have hno : ¬ (c % 8 < s.1 12 0 ∧ s.1 13 c ≤ 5) := fun q => g3 q.2
      rw [cut g1.1]
      conv => lhs; unfold owC
      rw [if_neg hno]
    have hz := owZ_I (h := hB (s.1 12 0) (s.1 12 1) (s.1 13) cell place c) c0 6 0 (n, fst) (by decide) hi
    have lz := c_owZ_lp (N := N) (a := a) (place := place) (f := f85_at37 N fuel) hN hw hb on h7 h8 ⟨c0, by omega⟩ 6 N 0 n fst (s.1 13) (by decide) (by decide) (by omega) (fun w => rfl) hi (by omega)
    rw [ic_self] at lz
    have hyes : c % 8 < s.1 12 0 ∧ s.1 13 c ≤ 5 := ⟨g1.2, g3⟩
    have eC : owC (s.1 12 0) (s.1 13) (hB (s.1 12 0) (s.1 12 1) (s.1 13) cell place) (8 * s.1 12 1 - c).toNat c (n, fst) = owC (s.1 12 0) (s.1 13) (hB (s.1 12 0) (s.1 12 1) (s.1 13) cell place) (8 * s.1 12 1 - (c + 1)).toNat (c + 1) (owZ (hB (s.1 12 0) (s.1 12 1) (s.1 13) cell place c) c 6 0 (n, fst)) := by
      rw [cut g1.1]
      conv => lhs; unfold owC
      rw [if_pos hyes]
    rw [if_pos g3, lz, eC]
    obtain ⟨hz1, hz2, hz3⟩ := hz
    generalize owZ (hB (s.1 12 0) (s.1 12 1) (s.1 13) cell place c) c 6 0 (n, fst) = nf at hz1 hz2 hz3
    have hz2 : n ≤ nf.1 := hz2
    have hz3 : nf.1 ≤ n + 6 := hz3
    exact go nf.1 nf.2 (by omega) (by omega) (by omega) hz1 (by omega)
end OTHER

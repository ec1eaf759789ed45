/-! A ROOF read: class and reference. -/
section ROOFP
variable {N : Nat} {s u v : gI} {F G A B C T : Int → Int} {n e st lo hi c m zn W D : Int} {r i w y : Nat}
def tix (c : Int) : Int := if (102 : Int) = c then 0 else if (100 : Int) = c then 1 else if (117 : Int) = c then 2 else if (108 : Int) = c then 3 else if (114 : Int) = c then 4 else if (109 : Int) = c then 5 else if (103 : Int) = c then 6 else if (112 : Int) = c then 7 else if (99 : Int) = c then 8 else -1
theorem tix_rg : -1 ≤ tix c ∧ tix c ≤ 8 := by
  unfold tix
  repeat (first | omega | split)
theorem ic_tl : i_c 1033 0 = 102 ∧ i_c 1033 1 = 100 ∧ i_c 1033 2 = 117 ∧ i_c 1033 3 = 108 ∧ i_c 1033 4 = 114 ∧ i_c 1033 5 = 109 ∧ i_c 1033 6 = 103 ∧ i_c 1033 7 = 112 ∧ i_c 1033 8 = 99 ∧ i_c 1032 1 = 0 := by
  simp only [i_c_def]
  decide +kernel
theorem c_tix (hN : 5000 ≤ N) (c0 : 0 ≤ c) (c1 : c < 128) : f302 N 1032 9 c s = some (tix c, s) := by
  obtain ⟨e0, e1, e2, e3, e4, e5, e6, e7, e8, e9⟩ := ic_tl
  rw [c_indexOf hN e9 (by decide) (by decide) c0 c1]
  have h : fndI (i_c 1033) c 9 0 = tix c := by
    simp only [fndI, Int.reduceAdd, e0, e1, e2, e3, e4, e5, e6, e7, e8]
    rfl
  exact congrArg (fun z => some (z, s)) h
theorem m_tileOf (hN : 5000 ≤ N) (hL : ∀ j : Nat, j < 9 → s.1 70 j = lettersT.getD j 0) : f193 N c s = some (tix c, s) := by
  obtain ⟨g, rfl⟩ : ∃ g, N = g + 10 := ⟨N - 10, by omega⟩
  have e0 : s.1 70 0 = 102 := hL 0 (by decide)
  have e1 : s.1 70 1 = 100 := hL 1 (by decide)
  have e2 : s.1 70 2 = 117 := hL 2 (by decide)
  have e3 : s.1 70 3 = 108 := hL 3 (by decide)
  have e4 : s.1 70 4 = 114 := hL 4 (by decide)
  have e5 : s.1 70 5 = 109 := hL 5 (by decide)
  have e6 : s.1 70 6 = 103 := hL 6 (by decide)
  have e7 : s.1 70 7 = 112 := hL 7 (by decide)
  have e8 : s.1 70 8 = 99 := hL 8 (by decide)
  have st : ∀ (q : Nat) (j z l : Int), 0 ≤ j → j < 9 → s.1 70 j = l → f193_at4 (g + 10) (q + 1) c z j s = f193_at4 (g + 10) q c (if l = c then j else z) (j + 1) s := fun q j z l j0 j1 hl => by
    show (if (9 : Int) ≤ j then some (z, s) else ick j 9 <| if s.1 70 j = c then iov (j + 1) (f193_at4 (g + 10) q c j (j + 1) s) else iov (j + 1) (f193_at4 (g + 10) q c z (j + 1) s)) = _
    rw [if_neg (by omega), ick_ok j0 j1, hl, iov_ok (by omega) (by omega), iov_ok (by omega) (by omega)]
    split <;> rfl
  unfold f193
  rw [st (g + 9) 0 _ 102 (by decide) (by decide) e0, show (0 : Int) + 1 = 1 from rfl, st (g + 8) 1 _ 100 (by decide) (by decide) e1, show (1 : Int) + 1 = 2 from rfl, st (g + 7) 2 _ 117 (by decide) (by decide) e2, show (2 : Int) + 1 = 3 from rfl, st (g + 6) 3 _ 108 (by decide) (by decide) e3, show (3 : Int) + 1 = 4 from rfl, st (g + 5) 4 _ 114 (by decide) (by decide) e4, show (4 : Int) + 1 = 5 from rfl, st (g + 4) 5 _ 109 (by decide) (by decide) e5, show (5 : Int) + 1 = 6 from rfl, st (g + 3) 6 _ 103 (by decide) (by decide) e6, show (6 : Int) + 1 = 7 from rfl, st (g + 2) 7 _ 112 (by decide) (by decide) e7, show (7 : Int) + 1 = 8 from rfl, st (g + 1) 8 _ 99 (by decide) (by decide) e8, show (8 : Int) + 1 = 9 from rfl]
  have fin : ∀ z : Int, f193_at4 (g + 10) (g + 1) c z 9 s = some (z, s) := fun z => if_pos (by decide)
  rw [fin]
  refine congrArg (fun z => some (z, s)) ?_
  unfold tix
  by_cases h0 : (102 : Int) = c
  · subst h0; rfl
  by_cases h1 : (100 : Int) = c
  · subst h1; rfl
  by_cases h2 : (117 : Int) = c
  · subst h2; rfl
  by_cases h3 : (108 : Int) = c
  · subst h3; rfl
  by_cases h4 : (114 : Int) = c
  · subst h4; rfl
  by_cases h5 : (109 : Int) = c
  · subst h5; rfl
  by_cases h6 : (103 : Int) = c
  · subst h6; rfl
  by_cases h7 : (112 : Int) = c
  · subst h7; rfl
  by_cases h8 : (99 : Int) = c
  · subst h8; rfl
  · simp only [if_neg h0, if_neg h1, if_neg h2, if_neg h3, if_neg h4, if_neg h5, if_neg h6, if_neg h7, if_neg h8]
def goodT (F : Int → Int) (st : Int) : Nat → Bool
  | 0 => true
  | r + 1 => goodT F st r && decide (0 ≤ tix (F (st + r)))
theorem goodT_iff : ∀ r : Nat, goodT F st r = true ↔ ∀ x : Int, 0 ≤ x → x < r → 0 ≤ tix (F (st + x))
  | 0 => ⟨fun _ x a b => by omega, fun _ => rfl⟩
  | r + 1 => by
    unfold goodT
    rw [Bool.and_eq_true, decide_eq_true_eq, goodT_iff r]
    refine ⟨fun h x a b => ?_, fun h => ⟨fun x a b => h x a (by omega), h r (by omega) (by omega)⟩⟩
    by_cases q : x = r
    · subst q; exact h.2
    · exact h.1 x a (by omega)
def rowZ (F : Int → Int) (n W : Int) (i : Nat) : Int := if tK F n (tP F n i) = 2 then (if tE F n (tP F n i) - tP F n i = W ∧ goodT F (tP F n i) W.toNat = true then 0 else 2 + 16 * tP F n i) else 1 + 16 * tP F n i
def rowsZ (F : Int → Int) (n W : Int) : Nat → Nat → Int
  | 0, i => if tK F n (tP F n i) = 0 then 0 else (if isW F n (tP F n i) 27 then 5 else 1) + 16 * tP F n i
  | r + 1, i => if isW F n (tP F n i) 27 then (if rowZ F n W (i + 1) = 0 then (if isS F n (tP F n (i + 2)) 59 then rowsZ F n W r (i + 3) else 1 + 16 * tP F n (i + 2)) else rowZ F n W (i + 1)) else 1 + 16 * tP F n i
def roofZ (F : Int → Int) (n : Int) : Int := if isW F n (tP F n 0) 26 then (if isN F n (tP F n 1) 2 8 then (if isN F n (tP F n 2) 2 8 then (if isS F n (tP F n 3) 59 then rowsZ F n (tV F n (tP F n 1)) (tV F n (tP F n 2)).toNat 4 else 1 + 16 * tP F n 3) else nWhy F n (tP F n 2) + 16 * tP F n 2) else nWhy F n (tP F n 1) + 16 * tP F n 1) else 1 + 16 * tP F n 0
/-- what tile a ROOF as told has -/
def rtl (F : Int → Int) (n : Int) : Int → Int := fun c => tix (F (tP F n (5 + 3 * (c / 8).toNat) + c % 8))
def okT (T : Int → Int) : Prop := ∀ c, 0 ≤ c → c < 64 → 0 ≤ T c ∧ T c ≤ 8
theorem okT_up (h : okT T) {j x : Int} (h0 : 0 ≤ x) (h1 : x ≤ 8) : okT (zup T j x) := fun c c0 c1 => by
  by_cases q : c = j
  · rw [q, zup_same]; omega
  · rw [zup_ne q]; exact h c c0 c1
theorem c_rowR_lp (hN : 5000 ≤ N) (hT : tpF F n) (hc : cAt F n i s) (k : tK F n (tP F n i) = 2) (hW : s.1 44 0 = W) (hL : tE F n (tP F n i) - tP F n i = W) (W8 : W ≤ 8) (y8 : y < 8) : ∀ (r fuel : Nat) (x : Int) (T : Int → Int), 0 ≤ x → x + r = W → r < fuel → okT T → (∀ z, 0 ≤ z → z < x → 0 ≤ tix (F (tP F n i + z)) ∧ T (8 * y + z) = tix (F (tP F n i + z))) →
    ∃ T2 G, f81_at38 N fuel y x (ic s 45 T) = some (if goodT F (tP F n i) W.toNat = true then 1 else 0, ic (ic s 45 T2) 1 G) ∧ okT T2 ∧ (∀ c : Int, c < 8 * (y : Int) → T2 c = T c) ∧
      (goodT F (tP F n i) W.toNat = true → atC F n (tP F n (i + 1)) G ∧ ∀ z, 0 ≤ z → z < W → T2 (8 * y + z) = tix (F (tP F n i + z))) ∧ (goodT F (tP F n i) W.toNat ≠ true → G 7 = 2 + 16 * tP F n i)
  | 0, fuel, x, T, x0, e, hf, hT0, hz => by
    obtain ⟨fuel, rfl⟩ : ∃ g, fuel = g + 1 := ⟨fuel - 1, by omega⟩
    have good : goodT F (tP F n i) W.toNat = true := (goodT_iff _).mpr (fun z a b => (hz z a (by omega)).1)
    have hc2 : cAt F n i (ic s 45 T) := ⟨by rw [ic_ne (by decide)]; exact hc.1, by rw [ic_ne (by decide)]; exact hc.2⟩
    obtain ⟨G, g1, g2, -⟩ := c_next1 hN hT hc2
    refine ⟨T, G, ?_, hT0, fun _ _ => rfl, fun _ => ⟨g2, fun z a b => (hz z a (by omega)).2⟩, fun h => absurd good h⟩
    unfold f81_at38
    rw [ic_ne (by decide), hW, if_pos (by omega), g1, i_o1_some, ib1_ok (Or.inr rfl), if_pos good]
  | r + 1, fuel, x, T, x0, e, hf, hT0, hz => by
    obtain ⟨fuel, rfl⟩ : ∃ g, fuel = g + 1 := ⟨fuel - 1, by omega⟩
    have hT1 := hT.1
    have hc2 : cAt F n i (ic s 45 T) := ⟨by rw [ic_ne (by decide)]; exact hc.1, by rw [ic_ne (by decide)]; exact hc.2⟩
    obtain ⟨t1, t2, t3, t4⟩ := tK_2 k
    have ch := t2 (tP F n i + x) (by omega) (by omega)
    have tr := tix_rg (c := F (tP F n i + x))
    unfold f81_at38
    rw [ic_ne (by decide), hW, if_neg (by omega), c_letter hT hc2 k x0 (by omega), i_o2_some, c_tix hN (by omega) (by omega), i_o2_some]
    by_cases g : 0 ≤ tix (F (tP F n i + x))
    · rw [if_pos g, iov_ok (by omega) (by omega), iov_ok (by omega) (by omega), ick_ok (by omega) (by omega), iw_ic, ic_at, ic_ic, iov_ok (by omega) (by omega), show (y : Int) * 8 + x = 8 * y + x by omega]
      obtain ⟨T2, G, h1, h2, h3, h4, h5⟩ := c_rowR_lp hN hT hc k hW hL W8 y8 r fuel (x + 1) (zup T (8 * y + x) (tix (F (tP F n i + x)))) (by omega) (by omega) (by omega) (okT_up hT0 g tr.2) (fun z a b => by
        by_cases q : z = x
        · rw [q]; exact ⟨g, zup_same _ _ _⟩
        · rw [zup_ne (by omega)]; exact hz z a (by omega))
      exact ⟨T2, G, h1, h2, fun c hc => by rw [h3 c hc, zup_ne (by omega)], h4, h5⟩
    · have bad : ¬ goodT F (tP F n i) W.toNat = true := fun q => g ((goodT_iff _).mp q x x0 (by omega))
      rw [if_neg g, c_fail hT hc2 (by decide) (by decide), i_o2_some, ib1_ok (Or.inl rfl), if_neg bad]
      exact ⟨T, _, rfl, hT0, fun _ _ => rfl, fun h => absurd h bad, fun _ => by rw [zup_same]⟩
theorem c_row (hN : 5000 ≤ N) (hT : tpF F n) (hc : cAt F n i s) (hW : s.1 44 0 = W) (W0 : 2 ≤ W) (W8 : W ≤ 8) (y8 : y < 8) (hT0 : okT (s.1 45)) :
    ∃ T2 G, f81 N y s = some (if rowZ F n W i = 0 then 1 else 0, ic (ic s 45 T2) 1 G) ∧ okT T2 ∧ (∀ c : Int, c < 8 * (y : Int) → T2 c = s.1 45 c) ∧
      (rowZ F n W i = 0 → atC F n (tP F n (i + 1)) G ∧ ∀ z, 0 ≤ z → z < W → T2 (8 * y + z) = tix (F (tP F n i + z))) ∧ (rowZ F n W i ≠ 0 → G 7 = rowZ F n W i) := by
  obtain ⟨h2, g1, g2, g3, g4, g5⟩ := id hc
  have rg := tP_rg (F := F) hT.1.1 i
  have eg := tE_le (F := F) rg.2
  have hT1 := hT.1
  unfold f81
  rw [g2]
  by_cases k : tK F n (tP F n i) = 2
  rotate_left
  · have ez : rowZ F n W i = 1 + 16 * tP F n i := if_neg k
    rw [if_neg k, c_fail hT hc (by decide) (by decide), i_o2_some, ib1_ok (Or.inl rfl), ez, if_neg (by omega)]
    refine ⟨s.1 45, _, by rw [ic_self (s := s) (a := 45)], hT0, fun _ _ => rfl, fun h => by omega, fun _ => by rw [zup_same]⟩
  rw [if_pos k, g3, g4, iov_ok (by omega) (by omega), hW]
  by_cases g : tE F n (tP F n i) - tP F n i = W
  rotate_left
  · have ez : rowZ F n W i = 2 + 16 * tP F n i := (if_pos k).trans (if_neg (fun q => g q.1))
    rw [if_neg g, c_fail hT hc (by decide) (by decide), i_o2_some, ib1_ok (Or.inl rfl), ez, if_neg (by omega)]
    refine ⟨s.1 45, _, by rw [ic_self (s := s) (a := 45)], hT0, fun _ _ => rfl, fun h => by omega, fun _ => by rw [zup_same]⟩
  rw [if_pos g]
  obtain ⟨T2, G, h1, h3, h4, h5, h6⟩ := c_rowR_lp (N := N) (y := y) hN hT hc k hW g W8 y8 W.toNat N 0 (s.1 45) (by decide) (by omega) (by omega) hT0 (fun z a b => by omega)
  rw [ic_self] at h1
  by_cases q : goodT F (tP F n i) W.toNat = true
  · have ez : rowZ F n W i = 0 := (if_pos k).trans (if_pos ⟨g, q⟩)
    rw [if_pos q] at h1
    rw [ez, if_pos rfl]
    exact ⟨T2, G, h1, h3, h4, fun _ => h5 q, fun h => absurd rfl h⟩
  · have ez : rowZ F n W i = 2 + 16 * tP F n i := (if_pos k).trans (if_neg (fun z => q z.2))
    rw [if_neg q] at h1
    rw [ez, if_neg (by omega)]
    exact ⟨T2, G, h1, h3, h4, fun h => by omega, fun _ => h6 q⟩
theorem wd_row : wdC 1030 3 27 := wdC_of (z := 3) (by decide +kernel)
theorem wd_roof : wdC 1028 4 26 := wdC_of (z := 4) (by decide +kernel)
theorem c_rows (hN : 5000 ≤ N) (hT : tpF F n) (W0 : 2 ≤ W) (W8 : W ≤ 8) {DD : Nat} (D8 : DD ≤ 8) : ∀ (r fuel y : Nat) (s : gI), y + r = DD → r < fuel → cAt F n (4 + 3 * y) s → s.1 44 0 = W → s.1 44 1 = DD → okT (s.1 45) →
    ∃ T G, f80_at64 N fuel y s = some (if rowsZ F n W r (4 + 3 * y) = 0 then 1 else 0, ic (ic s 45 T) 1 G) ∧ okT T ∧ (∀ c : Int, c < 8 * (y : Int) → T c = s.1 45 c) ∧ (rowsZ F n W r (4 + 3 * y) = 0 → ∀ (y2 : Nat) (x : Int), y ≤ y2 → y2 < DD → 0 ≤ x → x < W → T (8 * y2 + x) = tix (F (tP F n (5 + 3 * y2) + x))) ∧ (rowsZ F n W r (4 + 3 * y) ≠ 0 → G 7 = rowsZ F n W r (4 + 3 * y))
  | 0, fuel, y, s, e, hf, hc, hW, hD, hT0 => by
    obtain ⟨fuel, rfl⟩ : ∃ g, fuel = g + 1 := ⟨fuel - 1, by omega⟩
    have hT1 := hT.1
    have rg := tP_rg (F := F) hT.1.1 (4 + 3 * y)
    unfold f80_at64 rowsZ
    rw [hD, if_pos (by omega), hc.2.2.1]
    by_cases k : tK F n (tP F n (4 + 3 * y)) = 0
    · rw [if_pos k, if_pos k, ib1_ok (Or.inr rfl), if_pos rfl]
      exact ⟨s.1 45, s.1 1, by rw [ic_self, ic_self], hT0, fun _ _ => rfl, fun _ y2 x a b => by omega, fun h => absurd rfl h⟩
    · rw [if_neg k, if_neg k, c_isWord hN hT hc wd_row, i_o2_some]
      have fin : ∀ z : Int, 0 < z → z ≤ 16 → ∃ T G, f80_at127 N z s = some (if z + 16 * tP F n (4 + 3 * y) = 0 then 1 else 0, ic (ic s 45 T) 1 G) ∧ okT T ∧ (∀ c, c < 8 * (y : Int) → T c = s.1 45 c) ∧ (z + 16 * tP F n (4 + 3 * y) = 0 → ∀ (y2 : Nat) (x : Int), y ≤ y2 → y2 < DD → 0 ≤ x → x < W → T (8 * y2 + x) = tix (F (tP F n (5 + 3 * y2) + x))) ∧ (z + 16 * tP F n (4 + 3 * y) ≠ 0 → G 7 = z + 16 * tP F n (4 + 3 * y)) := fun z z0 z1 => by
        unfold f80_at127
        rw [c_fail hT hc (by omega) z1, i_o2_some, if_pos rfl, ib1_ok (Or.inl rfl), if_neg (by omega)]
        exact ⟨s.1 45, _, by rw [ic_self (s := s) (a := 45)], hT0, fun _ _ => rfl, fun h => by omega, fun _ => by rw [zup_same]⟩
      by_cases q : isW F n (tP F n (4 + 3 * y)) 27
      · rw [if_pos q, if_neg (by decide), if_pos q]
        exact fin 5 (by decide) (by decide)
      · rw [if_neg q, if_pos rfl, if_neg q]
        exact fin 1 (by decide) (by decide)
  | r + 1, fuel, y, s, e, hf, hc, hW, hD, hT0 => by
    obtain ⟨fuel, rfl⟩ : ∃ g, fuel = g + 1 := ⟨fuel - 1, by omega⟩
    have hT1 := hT.1
    have rg := tP_rg (F := F) hT.1.1 (4 + 3 * y)
    have rg2 := tP_rg (F := F) hT.1.1 (4 + 3 * y + 2)
    unfold f80_at64 rowsZ
    rw [hD, if_neg (by omega)]
    rcases c_takeWord hN hT hc wd_row with ⟨q, G, a1, a2, -, a4⟩ | ⟨q, a1⟩
    rotate_left
    · rw [a1, i_o2_some, if_pos rfl, ib1_ok (Or.inl rfl), if_neg q, if_neg (by omega)]
      exact ⟨s.1 45, _, by rw [ic_self (s := s) (a := 45)], hT0, fun _ _ => rfl, fun h => by omega, fun _ => by rw [zup_same]⟩
    rw [a1, i_o2_some, if_neg (by decide), if_pos q]
    have hc2 : cAt F n (4 + 3 * y + 1) (ic s 1 G) := ⟨by rw [ic_ne (by decide)]; exact hc.1, by rw [ic_at]; exact a2⟩
    obtain ⟨T2, G2, b1, b2, b3, b4, b5⟩ := c_row (y := y) hN hT hc2 (by rw [ic_ne (by decide)]; exact hW) W0 W8 (by omega) (by rw [ic_ne (by decide)]; exact hT0)
    have e2 : ic (ic (ic s 1 G) 45 T2) 1 G2 = ic (ic s 45 T2) 1 G2 := by
      rw [ic_comm (a := 45) (b := 1) (by decide), ic_ic, ic_comm (a := 1) (b := 45) (by decide)]
    rw [b1, e2, i_o2_some]
    rw [ic_ne (by decide)] at b3
    by_cases q2 : rowZ F n W (4 + 3 * y + 1) = 0
    rotate_left
    · rw [if_neg q2, if_pos rfl, ib1_ok (Or.inl rfl), if_neg q2, if_neg q2]
      exact ⟨T2, G2, rfl, b2, b3, fun h => absurd h q2, b5⟩
    obtain ⟨b6, b7⟩ := b4 q2
    rw [if_pos q2, if_neg (by decide), if_pos q2]
    have hc3 : cAt F n (4 + 3 * y + 2) (ic (ic s 45 T2) 1 G2) := ⟨by rw [ic_ne (by decide), ic_ne (by decide)]; exact hc.1, by rw [ic_at]; exact b6⟩
    rcases c_takeSemi hN hT hc3 with ⟨q3, G3, d1, d2, -, d4⟩ | ⟨q3, d1⟩
    rotate_left
    · rw [d1, i_o2_some, if_pos rfl, ib1_ok (Or.inl rfl), if_neg q3, if_neg (by omega), ic_ic, ic_at]
      exact ⟨T2, _, rfl, b2, b3, fun h => by omega, fun _ => by rw [zup_same]⟩
    rw [d1, i_o2_some, if_neg (by decide), if_pos q3, iov_ok (by omega) (by omega), ic_ic]
    have hc4 : cAt F n (4 + 3 * (y + 1)) (ic (ic s 45 T2) 1 G3) := ⟨by rw [ic_ne (by decide), ic_ne (by decide)]; exact hc.1, by rw [ic_at]; exact d2⟩
    obtain ⟨T3, G4, x1, x2, x3, x4, x5⟩ := c_rows hN hT W0 W8 D8 r fuel (y + 1) (ic (ic s 45 T2) 1 G3) (by omega) (by omega) hc4 (by rw [ic_ne (by decide), ic_ne (by decide)]; exact hW) (by rw [ic_ne (by decide), ic_ne (by decide)]; exact hD) (by rw [ic_ne (by decide), ic_at]; exact b2)
    have e3 : ic (ic (ic (ic s 45 T2) 1 G3) 45 T3) 1 G4 = ic (ic s 45 T3) 1 G4 := by
      rw [ic_comm (a := 45) (b := 1) (by decide), ic_ic, ic_comm (a := 1) (b := 45) (by decide), ic_ic]
    rw [e3] at x1
    rw [ic_ne (by decide), ic_at] at x3
    have e4 : 4 + 3 * (y + 1) = 4 + 3 * y + 3 := by omega
    rw [e4] at x1 x4 x5
    refine ⟨T3, G4, x1, x2, fun c hc => by rw [x3 c (by omega), b3 c hc], fun h y2 x h1 h2 h3 h4 => ?_, x5⟩
    by_cases z : y2 = y
    · subst z
      rw [x3 _ (by omega), b7 x h3 h4, show 5 + 3 * y2 = 4 + 3 * y2 + 1 by omega]
    · exact x4 h y2 x (by omega) h2 h3 h4
theorem c_roofRead (hN : 5000 ≤ N) (hT : tpF F n) (h1 : s.1 1 1 = n) (h2 : s.1 2 = F) (hT0 : okT (s.1 45)) :
    ∃ H T G, f80 N s = some (if roofZ F n = 0 then 1 else 0, ic (ic (ic s 44 H) 45 T) 1 G) ∧ okT T ∧
      (roofZ F n = 0 → H 0 = tV F n (tP F n 1) ∧ H 1 = tV F n (tP F n 2) ∧ isN F n (tP F n 1) 2 8 ∧ isN F n (tP F n 2) 2 8 ∧ ∀ (y2 : Nat) (x : Int), y2 < tV F n (tP F n 2) → 0 ≤ x → x < tV F n (tP F n 1) → T (8 * y2 + x) = tix (F (tP F n (5 + 3 * y2) + x))) ∧ (roofZ F n ≠ 0 → G 7 = roofZ F n) := by
  have hT1 := hT.1
  unfold f80 f96
  try dsimp only
  rw [iw_ic, iw_ic, ic_at, ic_ic]
  obtain ⟨G0, g1, g2, -⟩ := c_adv (N := N) (s := ic s 1 (zup (zup (s.1 1) 4 0) 7 0)) (e := 0) hN (by rw [ic_at, zup_ne (by decide), zup_ne (by decide)]; exact h1) (by rw [ic_ne (by decide)]; exact h2) hT (by rw [ic_at, zup_ne (by decide), zup_same]) (by decide) hT1.1
  rw [ic_ic] at g1
  rw [g1, i_o1_some, i_o1_some]
  have c0 : cAt F n 0 (ic s 1 G0) := ⟨by rw [ic_ne (by decide)]; exact h2, by rw [ic_at]; exact g2⟩
  have r0 := tP_rg (F := F) hT1.1 0
  have r1 := tP_rg (F := F) hT1.1 1
  have r2 := tP_rg (F := F) hT1.1 2
  have r3 := tP_rg (F := F) hT1.1 3
  have nw : ∀ p : Int, 0 ≤ p → nWhy F n p + 16 * p ≠ 0 := fun p hp => by
    unfold nWhy
    split <;> omega
  have e45 : ∀ G, ic (ic (ic s 44 (s.1 44)) 45 (s.1 45)) 1 G = ic s 1 G := fun G => by rw [ic_self, ic_self]
  unfold roofZ
  rcases c_takeWord hN hT c0 wd_roof with ⟨q, G, a1, a2, -⟩ | ⟨q, a1⟩
  rotate_left
  · rw [a1, i_o2_some, if_pos rfl, ib1_ok (Or.inl rfl), if_neg q, if_neg (by omega), ic_ic, ic_at]
    exact ⟨s.1 44, s.1 45, _, by rw [e45], hT0, fun h => by omega, fun _ => by rw [zup_same]⟩
  rw [a1, i_o2_some, if_neg (by decide), if_pos q, ic_ic]
  have c1 : cAt F n 1 (ic s 1 G) := ⟨by rw [ic_ne (by decide)]; exact h2, by rw [ic_at]; exact a2⟩
  rcases c_takeNum (lo := 2) (hi := 8) hN hT c1 with ⟨q1, G1, b1, b2, b3, -⟩ | ⟨q1, b1⟩
  rotate_left
  · rw [b1, i_o2_some, if_pos rfl, ib1_ok (Or.inl rfl), if_neg q1, if_neg (nw _ r1.1), ic_ic, ic_at]
    exact ⟨s.1 44, s.1 45, _, by rw [e45], hT0, fun h => absurd h (nw _ r1.1), fun _ => by rw [zup_same]⟩
  rw [b1, i_o2_some, if_neg (by decide), if_pos q1, ic_ic]
  try dsimp only
  rw [ic_at, b3, iw_ic, ic_ne (by decide), ic_comm (a := 1) (b := 44) (by decide)]
  have c2 : cAt F n 2 (ic (ic s 44 (zup (s.1 44) 0 (tV F n (tP F n 1)))) 1 G1) := ⟨by rw [ic_ne (by decide), ic_ne (by decide)]; exact h2, by rw [ic_at]; exact b2⟩
  rcases c_takeNum (lo := 2) (hi := 8) hN hT c2 with ⟨q2, G2, d1, d2, d3, -⟩ | ⟨q2, d1⟩
  rotate_left
  · rw [d1, i_o2_some, if_pos rfl, ib1_ok (Or.inl rfl), if_neg q2, if_neg (nw _ r2.1), ic_ic, ic_at]
    refine ⟨zup (s.1 44) 0 (tV F n (tP F n 1)), s.1 45, zup G1 7 (nWhy F n (tP F n 2) + 16 * tP F n 2), ?_, hT0, fun h => absurd h (nw _ r2.1), fun _ => by rw [zup_same]⟩
    have : ic (ic s 44 (zup (s.1 44) 0 (tV F n (tP F n 1)))) 45 (s.1 45) = ic s 44 (zup (s.1 44) 0 (tV F n (tP F n 1))) := by
      rw [ic_comm (by decide), ic_self]
    rw [this]
  rw [d1, i_o2_some, if_neg (by decide), if_pos q2, ic_ic]
  try dsimp only
  rw [ic_at, d3, iw_ic, ic_ne (by decide), ic_at, ic_comm (a := 1) (b := 44) (by decide), ic_ic]
  generalize hH : zup (zup (s.1 44) 0 (tV F n (tP F n 1))) 1 (tV F n (tP F n 2)) = H
  have H0 : H 0 = tV F n (tP F n 1) := by rw [← hH, zup_ne (by decide), zup_same]
  have H1 : H 1 = tV F n (tP F n 2) := by rw [← hH, zup_same]
  have eH : ∀ G, ic (ic (ic s 44 H) 45 (s.1 45)) 1 G = ic (ic s 44 H) 1 G := fun G => by
    have : ic (ic s 44 H) 45 (s.1 45) = ic s 44 H := by rw [ic_comm (by decide), ic_self]
    rw [this]
  have c3 : cAt F n 3 (ic (ic s 44 H) 1 G2) := ⟨by rw [ic_ne (by decide), ic_ne (by decide)]; exact h2, by rw [ic_at]; exact d2⟩
  rcases c_takeSemi hN hT c3 with ⟨q3, G3, x1, x2, -⟩ | ⟨q3, x1⟩
  rotate_left
  · rw [x1, i_o2_some, if_pos rfl, ib1_ok (Or.inl rfl), if_neg q3, if_neg (by omega), ic_ic, ic_at]
    exact ⟨H, s.1 45, _, by rw [eH], hT0, fun h => by omega, fun _ => by rw [zup_same]⟩
  rw [x1, i_o2_some, if_neg (by decide), if_pos q3, ic_ic]
  have c4 : cAt F n (4 + 3 * 0) (ic (ic s 44 H) 1 G3) := ⟨by rw [ic_ne (by decide), ic_ne (by decide)]; exact h2, by rw [ic_at]; exact x2⟩
  have v2 := q2.2
  have v1 := q1.2
  obtain ⟨T, G4, y1, y2, -, y4, y5⟩ := c_rows (N := N) (DD := (tV F n (tP F n 2)).toNat) hN hT v1.1 v1.2 (by omega) (tV F n (tP F n 2)).toNat N 0 (ic (ic s 44 H) 1 G3) (by omega) (by omega) c4 (by rw [ic_ne (by decide), ic_at]; exact H0) (by rw [ic_ne (by decide), ic_at, H1]; omega) (by rw [ic_ne (by decide), ic_ne (by decide)]; exact hT0)
  have e3 : ic (ic (ic (ic s 44 H) 1 G3) 45 T) 1 G4 = ic (ic (ic s 44 H) 45 T) 1 G4 := by
    rw [ic_comm (a := 45) (b := 1) (by decide), ic_ic, ic_comm (a := 1) (b := 45) (by decide)]
  rw [e3] at y1
  exact ⟨H, T, G4, y1, y2, fun h => ⟨H0, H1, q1, q2, fun y2 x a b c => y4 h y2 x (by omega) (by omega) b c⟩, y5⟩
end ROOFP

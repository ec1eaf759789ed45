/-! Promise 29: otherwise answered alike; the reference. -/
section QOTHER
variable {N : Nat} {s v u : gI} {k x y a place : Int} {tl T F : Int → Int} {W D cell : Int}
theorem m_bare (hN : 5000 ≤ N) (hw : mOK v) (h0 : 0 ≤ cell) (h1 : cell < 64) : ∀ K : Int → gI → Option (Int × gI), i_o2 (f231 N (-1) (-1) 0 cell v) (fun i5 s4 => i_o2 (f237 N i5 s4) K) = K (bR (v.1 69 0) (v.1 69 1) (sh 2 (v.1 69)) cell) v := fun K => by
  have o1 : mO v (-1) (-1) = fun _ => -1 := funext fun c => by unfold mO; rw [if_pos (by decide)]
  rw [m_rolled hN hw (by decide) h0 h1, i_o2_some, o1, m_told, i_o2_some]
  rfl
def hM (W D : Int) (tl : Int → Int) (cell place c z : Int) : Bool := decide (z ≠ tl c) && hB W D tl cell place c z
theorem m_back {f : Int → Int → Int → Int → Int → Int → gI → Option (Int × gI)} {c old n fst : Int} (c0 : 0 ≤ c ∧ c < 64) (hF : ∀ w, zup F (2 + c) w = zup (v.1 69) (2 + c) w) (ho : old = v.1 69 (2 + c)) : f287_at274 N f place a cell n fst c old (ic v 69 F) = f place a cell n fst (c + 1) v := by
  unfold f287_at274
  rw [bmodF (z := 2 + c) (by omega) (by omega), ick_ok (by omega) (by omega)]
  dsimp only
  rw [iov_ok (by omega) (by omega), iw_ic, ic_at, ic_ic, hF, ho, zup_self, ic_self]
theorem m_owZ_lp {f : Int → Int → Int → Int → Int → Int → gI → Option (Int × gI)} {c : Int} (hN : 5000 ≤ N) (hw : mOK v) (h0 : 0 ≤ cell ∧ cell < 64) (c0 : 0 ≤ c ∧ c < 64) (cW : c % 8 < v.1 69 0) (c5 : v.1 69 (2 + c) ≤ 5) : ∀ (r fuel : Nat) (z n fst : Int) (F : Int → Int), 0 ≤ z → z + r = 6 → r < fuel → (∀ w, zup F (2 + c) w = zup (v.1 69) (2 + c) w) → F 0 = v.1 69 0 → owI (n, fst) → n + r ≤ 900 →
    f287_at163 N f fuel place a cell n fst c (v.1 69 (2 + c)) z (ic v 69 F) = f place a cell (owZ (hM (v.1 69 0) (v.1 69 1) (sh 2 (v.1 69)) cell place c) c r z (n, fst)).1 (owZ (hM (v.1 69 0) (v.1 69 1) (sh 2 (v.1 69)) cell place c) c r z (n, fst)).2 (c + 1) v := by
  intro r
  induction r with
  | zero =>
    intro fuel z n fst F z0 e hf hF hF0 hi hn
    obtain ⟨fuel, rfl⟩ : ∃ g, fuel = g + 1 := ⟨fuel - 1, by omega⟩
    unfold f287_at163
    rw [if_pos (by omega), m_back c0 hF rfl]
    rfl
  | succ r ih =>
    intro fuel z n fst F z0 e hf hF hF0 hi hn
    obtain ⟨fuel, rfl⟩ : ∃ g, fuel = g + 1 := ⟨fuel - 1, by omega⟩
    have n0 : 0 ≤ n := by
      rcases hi with ⟨i1, -⟩ | ⟨i1, -⟩
      · have i1 : n = 0 := i1
        omega
      · have i1 : 0 < n := i1
        omega
    have hw2 : mOK (ic v 69 (zup (v.1 69) (2 + c) z)) := by
      refine ⟨?_, ?_, ?_⟩
      · rw [ic_at, zup_ne (by omega)]; exact hw.1
      · rw [ic_at, zup_ne (by omega)]; exact hw.2.1
      · rw [ic_ne (by decide)]; exact hw.2.2
    have lb := m_bare (N := N) (v := ic v 69 (zup (v.1 69) (2 + c) z)) hN hw2 h0.1 h0.2
    rw [ic_at, zup_ne (show (0 : Int) ≠ 2 + c by omega), zup_ne (show (1 : Int) ≠ 2 + c by omega), sh_zup] at lb
    have hI1 := (ow1_I (h := hM (v.1 69 0) (v.1 69 1) (sh 2 (v.1 69)) cell place c z) (z := 8 * c + z) (by omega) hi).1
    have go := fun nf : Int × Int => fun hnf : nf = ow1 (hM (v.1 69 0) (v.1 69 1) (sh 2 (v.1 69)) cell place c z) (8 * c + z) (n, fst) => ih fuel (z + 1) nf.1 nf.2 (zup (v.1 69) (2 + c) z) (by omega) (by omega) (by omega) (fun w => by rw [zup_zup]) (by rw [zup_ne (by omega)]) (by rw [hnf]; exact hI1)
    have eo : owZ (hM (v.1 69 0) (v.1 69 1) (sh 2 (v.1 69)) cell place c) c (r + 1) z (n, fst) = owZ (hM (v.1 69 0) (v.1 69 1) (sh 2 (v.1 69)) cell place c) c r (z + 1) (ow1 (hM (v.1 69 0) (v.1 69 1) (sh 2 (v.1 69)) cell place c z) (8 * c + z) (n, fst)) := rfl
    rw [eo]
    have es : sh 2 (v.1 69) c = v.1 69 (2 + c) := rfl
    have miss : hM (v.1 69 0) (v.1 69 1) (sh 2 (v.1 69)) cell place c z = false → f287_at225 N (f287_at163 N f fuel) place a cell n fst c (v.1 69 (2 + c)) z (ic v 69 (zup (v.1 69) (2 + c) z)) = f place a cell (owZ (hM (v.1 69 0) (v.1 69 1) (sh 2 (v.1 69)) cell place c) c r (z + 1) (ow1 (hM (v.1 69 0) (v.1 69 1) (sh 2 (v.1 69)) cell place c z) (8 * c + z) (n, fst))).1 (owZ (hM (v.1 69 0) (v.1 69 1) (sh 2 (v.1 69)) cell place c) c r (z + 1) (ow1 (hM (v.1 69 0) (v.1 69 1) (sh 2 (v.1 69)) cell place c z) (8 * c + z) (n, fst))).2 (c + 1) v := fun hh => by
      have e2 : ow1 (hM (v.1 69 0) (v.1 69 1) (sh 2 (v.1 69)) cell place c z) (8 * c + z) (n, fst) = (n, fst) := by
        unfold ow1
        rw [hh, if_neg (by decide)]
      unfold f287_at225 f287_at226 f287_at249 f287_at251 f287_at265
      rw [if_pos rfl, if_pos rfl, Int.add_zero, bmodF n0 (by omega)]
      dsimp only
      rw [iov_ok (by omega) (by omega), e2]
      exact go _ e2.symm (by show n + r ≤ 900; omega)
    unfold f287_at163
    rw [if_neg (by omega), idv_ok c0.1 (by decide), m_wide, i_o2_some, ic_at, hF0, if_neg (by omega), if_neg (by omega), bmodF (z := 2 + c) (by omega) (by omega), ick_ok (by omega) (by omega)]
    dsimp only
    rw [iw_ic, ic_at, ic_ic, hF]
    by_cases g : z = v.1 69 (2 + c)
    · have hh : hM (v.1 69 0) (v.1 69 1) (sh 2 (v.1 69)) cell place c z = false := by
        unfold hM
        rw [es, decide_eq_false (fun q => q g), Bool.false_and]
      rw [if_pos g]
      exact miss hh
    rw [if_neg g, lb]
    by_cases g2 : bR (v.1 69 0) (v.1 69 1) (zup (sh 2 (v.1 69)) c z) cell = place
    · have hh : hM (v.1 69 0) (v.1 69 1) (sh 2 (v.1 69)) cell place c z = true := by
        unfold hM hB
        rw [es, decide_eq_true g, decide_eq_true g2]
        rfl
      rw [if_pos g2]
      unfold f287_at226 f287_at249 f287_at251 f287_at265
      rw [if_neg (show ¬ (1 : Int) = 0 by decide)]
      by_cases g3 : n = 0
      · have g4 : fst = -1 := by
          rcases hi with ⟨-, i2⟩ | ⟨i1, -⟩
          · exact i2
          · have i1 : 0 < n := i1
            omega
        have e2 : ow1 (hM (v.1 69 0) (v.1 69 1) (sh 2 (v.1 69)) cell place c z) (8 * c + z) (n, fst) = (n + 1, 8 * c + z) := by
          unfold ow1
          rw [if_pos hh]
          show (n + 1, if fst = -1 then 8 * c + z else fst) = _
          rw [if_pos g4]
        rw [if_pos g3, if_neg (show ¬ (1 : Int) = 0 by decide), bmodF (z := 8 * c) (by omega) (by omega), bmodF (z := 8 * c + z) (by omega) (by omega), bmodF (z := n + 1) (by omega) (by omega)]
        dsimp only
        rw [iov_ok (by omega) (by omega), e2]
        exact go _ e2.symm (by show n + 1 + r ≤ 900; omega)
      · have g4 : fst ≠ -1 := by
          rcases hi with ⟨i1, -⟩ | ⟨-, i2⟩
          · exact absurd i1 g3
          · have i2 : 0 ≤ fst := i2
            omega
        have e2 : ow1 (hM (v.1 69 0) (v.1 69 1) (sh 2 (v.1 69)) cell place c z) (8 * c + z) (n, fst) = (n + 1, fst) := by
          unfold ow1
          rw [if_pos hh]
          show (n + 1, if fst = -1 then 8 * c + z else fst) = _
          rw [if_neg g4]
        rw [if_neg g3, if_neg (show ¬ (1 : Int) = 0 by decide), bmodF (z := n + 1) (by omega) (by omega)]
        dsimp only
        rw [iov_ok (by omega) (by omega), e2]
        exact go _ e2.symm (by show n + 1 + r ≤ 900; omega)
    · have hh : hM (v.1 69 0) (v.1 69 1) (sh 2 (v.1 69)) cell place c z = false := by
        unfold hM hB
        rw [decide_eq_false g2, Bool.and_false]
      rw [if_neg g2]
      exact miss hh
theorem m_owC_lp (hN : 5000 ≤ N) (hw : mOK v) (h0 : 0 ≤ cell ∧ cell < 64) : ∀ (r fuel : Nat) (c n fst : Int), 0 ≤ c → c + r = 8 * v.1 69 1 → r < fuel → owI (n, fst) → n + 6 * r ≤ 800 →
    f287_at140 N fuel place a cell n fst c v = some (if (owC (v.1 69 0) (sh 2 (v.1 69)) (hM (v.1 69 0) (v.1 69 1) (sh 2 (v.1 69)) cell place) r c (n, fst)).1 = 0 then -1 else if a = 0 then (owC (v.1 69 0) (sh 2 (v.1 69)) (hM (v.1 69 0) (v.1 69 1) (sh 2 (v.1 69)) cell place) r c (n, fst)).1 else (owC (v.1 69 0) (sh 2 (v.1 69)) (hM (v.1 69 0) (v.1 69 1) (sh 2 (v.1 69)) cell place) r c (n, fst)).2, v) := by
  obtain ⟨⟨hW0, hW⟩, ⟨hD0, hD⟩, -⟩ := id hw
  intro r
  induction r with
  | zero =>
    intro fuel c n fst c0 e hf hi hn
    obtain ⟨fuel, rfl⟩ : ∃ g, fuel = g + 1 := ⟨fuel - 1, by omega⟩
    unfold f287_at140 owC
    rw [m_deep, i_o2_some, bmodF (z := 8 * v.1 69 1) (by omega) (by omega), if_pos (by omega)]
    dsimp only
    by_cases g : n = 0
    · rw [if_pos g, if_pos g]
    rw [if_neg g, if_neg g]
    by_cases g2 : a = 0
    · rw [if_pos g2, if_pos g2]
    · rw [if_neg g2, if_neg g2]
  | succ r ih =>
    intro fuel c n fst c0 e hf hi hn
    obtain ⟨fuel, rfl⟩ : ∃ g, fuel = g + 1 := ⟨fuel - 1, by omega⟩
    have es : sh 2 (v.1 69) c = v.1 69 (2 + c) := rfl
    have skip : ¬ (c % 8 < v.1 69 0 ∧ v.1 69 (2 + c) ≤ 5) → f287_at163 N (f287_at140 N fuel) N place a cell n fst c (v.1 69 (2 + c)) 0 v = f287_at140 N fuel place a cell n fst (c + 1) v := fun h => by
      have mb := m_back (N := N) (f := f287_at140 N fuel) (v := v) (F := v.1 69) (place := place) (a := a) (cell := cell) (n := n) (fst := fst) (old := v.1 69 (2 + c)) ⟨c0, by omega⟩ (fun w => rfl) rfl
      rw [ic_self] at mb
      obtain ⟨M, rfl⟩ : ∃ M, N = M + 1 := ⟨N - 1, by omega⟩
      unfold f287_at163
      rw [if_neg (by decide), idv_ok c0 (by decide), m_wide, i_o2_some]
      by_cases g : v.1 69 0 ≤ c % 8
      · rw [if_pos g]
        exact mb
      · rw [if_neg g, if_pos (by omega)]
        exact mb
    unfold f287_at140
    rw [m_deep, i_o2_some, bmodF (z := 8 * v.1 69 1) (by omega) (by omega), if_neg (by omega), m_tileAt c0 (by omega), i_o2_some]
    by_cases g : c % 8 < v.1 69 0 ∧ v.1 69 (2 + c) ≤ 5
    · have lz := m_owZ_lp (N := N) (v := v) (a := a) (place := place) (f := f287_at140 N fuel) hN hw h0 ⟨c0, by omega⟩ g.1 g.2 6 N 0 n fst (v.1 69) (by decide) (by decide) (by omega) (fun w => rfl) rfl hi (by omega)
      rw [ic_self] at lz
      obtain ⟨hz1, hz2, hz3⟩ := owZ_I (h := hM (v.1 69 0) (v.1 69 1) (sh 2 (v.1 69)) cell place c) c0 6 0 (n, fst) (by decide) hi
      have eC : owC (v.1 69 0) (sh 2 (v.1 69)) (hM (v.1 69 0) (v.1 69 1) (sh 2 (v.1 69)) cell place) (r + 1) c (n, fst) = owC (v.1 69 0) (sh 2 (v.1 69)) (hM (v.1 69 0) (v.1 69 1) (sh 2 (v.1 69)) cell place) r (c + 1) (owZ (hM (v.1 69 0) (v.1 69 1) (sh 2 (v.1 69)) cell place c) c 6 0 (n, fst)) := by
        conv => lhs; unfold owC
        rw [es, if_pos g]
      rw [lz, eC]
      generalize owZ (hM (v.1 69 0) (v.1 69 1) (sh 2 (v.1 69)) cell place c) c 6 0 (n, fst) = nf at hz1 hz2 hz3
      have hz2 : n ≤ nf.1 := hz2
      have hz3 : nf.1 ≤ n + 6 := hz3
      exact ih fuel (c + 1) nf.1 nf.2 (by omega) (by omega) (by omega) hz1 (by omega)
    · have eC : owC (v.1 69 0) (sh 2 (v.1 69)) (hM (v.1 69 0) (v.1 69 1) (sh 2 (v.1 69)) cell place) (r + 1) c (n, fst) = owC (v.1 69 0) (sh 2 (v.1 69)) (hM (v.1 69 0) (v.1 69 1) (sh 2 (v.1 69)) cell place) r (c + 1) (n, fst) := by
        conv => lhs; unfold owC
        rw [es, if_neg g]
      rw [skip g, eC]
      exact ih fuel (c + 1) n fst (by omega) (by omega) (by omega) hi (by omega)
/-- the same on roofs that tell the same tiles -/
theorem bR_eq {W D : Int} {tl t2 : Int → Int} (hW : W ≤ 8) (hD : D ≤ 8) (h : ∀ c, 0 ≤ c → c < 64 → c % 8 < W → c / 8 < D → tl c = t2 c) (on : 0 ≤ cell ∧ cell < 64 ∧ cell % 8 < W ∧ cell / 8 < D) : bR W D tl cell = bR W D t2 cell := by
  have := roll_eqQ (Q := (W, D, tl, 0, fun _ => 0)) (R := (W, D, t2, 0, fun _ => 0)) ⟨rfl, rfl, rfl, fun c hc => h c hc.1 hc.2.1 hc.2.2.1 hc.2.2.2, fun t ht => rfl⟩ hW hD (fun _ => -1) 64 (fun j => decide (j = cell)) cell on
  unfold bR
  have this : roll W D tl (fun _ => -1) 64 (fun j => decide (j = cell)) cell = roll W D t2 (fun _ => -1) 64 (fun j => decide (j = cell)) cell := this
  rw [this]
theorem c_canHold (hw : cOK s) : f79 N x y s = some (if 0 ≤ x ∧ x < s.1 12 0 ∧ 0 ≤ y ∧ y < s.1 12 1 ∧ s.1 13 (8 * y + x) < 7 then 1 else 0, s) := by
  obtain ⟨⟨hW0, hW⟩, ⟨hD0, hD⟩, -, -⟩ := id hw
  unfold f79
  rw [c_has, i_o2_some]
  by_cases h : 0 ≤ x ∧ x < s.1 12 0 ∧ 0 ≤ y ∧ y < s.1 12 1
  · rw [if_pos h, if_neg (by decide), iov_ok (by omega) (by omega), iov_ok (by omega) (by omega), ick_ok (by omega) (by omega), ib1_ok (Or.inl rfl), ib1_ok (Or.inr rfl), show y * 8 + x = 8 * y + x by omega]
    by_cases g : 7 ≤ s.1 13 (8 * y + x)
    · rw [if_pos g, if_neg (by omega)]
    · rw [if_neg g, if_pos (by omega)]
  · rw [if_neg h, if_pos rfl, ib1_ok (Or.inl rfl), if_neg (fun q => h ⟨q.1, q.2.1, q.2.2.1, q.2.2.2.1⟩)]
theorem q_otherwise (hN : 5000 ≤ N) (hI : INV k s) : OKc k s (f161 N x y place a) (f287 N x y place a) := by
  obtain ⟨e0, e1, e2, e3, e4⟩ := INV_eq hI
  have hw := hI.1.1.1
  have hE := hI.1.2.2.1
  have hb := hI.2.2.2.1
  obtain ⟨⟨hW0, hW⟩, ⟨hD0, hD⟩, -, htl⟩ := id hw
  have n63 : ∀ b : Nat, b ≠ 63 → (iw s 63 0 0).1 b = s.1 b := fun b h => iw_ne h
  have ch := c_canHold (N := N) (x := x) (y := y) hw
  have chN : ¬ (0 ≤ x ∧ x < s.1 12 0 ∧ 0 ≤ y ∧ y < s.1 12 1 ∧ s.1 13 (8 * y + x) < 7) → f79 N x y s = some (0, s) := fun q => by rw [ch, if_neg q]
  have chY : (0 ≤ x ∧ x < s.1 12 0 ∧ 0 ≤ y ∧ y < s.1 12 1 ∧ s.1 13 (8 * y + x) < 7) → f79 N x y s = some (1, s) := fun q => by rw [ch, if_pos q]
  have mno : ∀ i2 : Int, f287_at72 N place a i2 (iw s 63 0 0) = some (-1, iw s 63 0 0) := fun i2 => by
    unfold f287_at72 f287_at73
    rw [if_pos rfl]
  by_cases h : 0 ≤ x ∧ x < s.1 12 0 ∧ 0 ≤ y ∧ y < s.1 12 1
  rotate_left
  · refine OKc.q hI (x := -1) (s1 := s) (s2 := iw s 63 0 0) ?_ ?_ sameQ_thrown
    · unfold f161
      rw [chN (fun q => h ⟨q.1, q.2.1, q.2.2.1, q.2.2.2.1⟩), i_o2_some, if_pos rfl]
    · unfold f287
      dsimp only
      rw [m_isCell, i_o2_some, n63 69 (by decide), e0, e1, if_neg h, if_pos rfl]
      exact mno _
  have et : s.1 13 (8 * y + x) = s.1 69 (2 + (8 * y + x)) := hE.2.2.2.1 _ ⟨by omega, by omega, by show (8 * y + x) % 8 < s.1 12 0; omega, by show (8 * y + x) / 8 < s.1 12 1; omega⟩
  have on : onR (cQ s) (8 * y + x) := ⟨by omega, by omega, by show (8 * y + x) % 8 < s.1 12 0; omega, by show (8 * y + x) / 8 < s.1 12 1; omega⟩
  by_cases ha : 0 ≤ a ∧ a ≤ 1
  rotate_left
  · refine OKc.q hI (x := -1) (s1 := s) (s2 := iw s 63 0 0) ?_ ?_ sameQ_thrown
    · unfold f161
      by_cases g : 0 ≤ x ∧ x < s.1 12 0 ∧ 0 ≤ y ∧ y < s.1 12 1 ∧ s.1 13 (8 * y + x) < 7
      rotate_left
      · rw [chN g, i_o2_some, if_pos rfl]
      rw [chY g, i_o2_some, if_neg (by decide)]
      by_cases g1 : a < 0
      · rw [if_pos g1]
      · rw [if_neg g1, if_neg (by omega)]
    · unfold f287
      dsimp only
      rw [m_isCell, i_o2_some, n63 69 (by decide), e0, e1, if_pos h, if_neg (by decide), m_within, i_o2_some, if_neg ha, if_pos rfl]
      exact mno _
  -- the reference's guards on the place
  have bm : Int.bmod (Int.bmod (8 * y) 4294967296 + x) 4294967296 = 8 * y + x := by
    rw [bmodF (z := 8 * y) (by omega) (by omega), bmodF (z := 8 * y + x) (by omega) (by omega)]
  have mgo : f287 N x y place a s = if (64 ≤ place ∧ place ≤ 66) ∨ (0 ≤ place ∧ place < 64 ∧ place % 8 < s.1 12 0 ∧ place / 8 < s.1 12 1) then f287_at68 N place a (8 * y + x) (iw s 63 0 0) else some (-1, iw s 63 0 0) := by
    unfold f287
    dsimp only
    rw [bm, m_isCell, i_o2_some, n63 69 (by decide), e0, e1, if_pos h, if_neg (by decide), m_within, i_o2_some, if_pos ha, if_neg (by decide), m_within, i_o2_some]
    by_cases g : 64 ≤ place ∧ place ≤ 66
    · rw [if_pos g, if_neg (by decide), if_pos (Or.inl g)]
    rw [if_neg g, if_pos rfl, mno]
    by_cases g1 : place < 0
    · rw [if_pos g1, if_neg (by omega)]
    rw [if_neg g1]
    by_cases g2 : 64 ≤ place
    · rw [if_pos g2, if_neg (by omega)]
    rw [if_neg g2, idv_ok (by omega) (by decide), idv_ok (by omega) (by decide), m_isCell, i_o2_some, n63 69 (by decide), e0, e1]
    by_cases g3 : 0 ≤ place % 8 ∧ place % 8 < s.1 12 0 ∧ 0 ≤ place / 8 ∧ place / 8 < s.1 12 1
    · rw [if_pos g3, if_neg (by decide), if_pos (Or.inr ⟨by omega, by omega, g3.2.1, g3.2.2.2⟩)]
    · rw [if_neg g3, if_pos rfl, mno, if_neg (by omega)]
  have htc := htl (8 * y + x) on.1 on.2.1
  by_cases g7 : s.1 13 (8 * y + x) < 7
  rotate_left
  · refine OKc.q hI (x := -1) (s1 := s) (s2 := iw s 63 0 0) ?_ ?_ sameQ_thrown
    · unfold f161
      rw [chN (fun q => g7 q.2.2.2.2), i_o2_some, if_pos rfl]
    · rw [mgo]
      by_cases gp : (64 ≤ place ∧ place ≤ 66) ∨ (0 ≤ place ∧ place < 64 ∧ place % 8 < s.1 12 0 ∧ place / 8 < s.1 12 1)
      · rw [if_pos gp]
        unfold f287_at68 f287_at73
        rw [if_neg (by decide), m_tileAt on.1 on.2.1, i_o2_some, n63 69 (by decide), ← et]
        by_cases g8 : s.1 13 (8 * y + x) = 8
        · rw [if_pos g8]
        · rw [if_neg g8, m_tileAt on.1 on.2.1, i_o2_some, n63 69 (by decide), ← et, if_pos (by omega)]
      · rw [if_neg gp]
  have t7 : s.1 13 (8 * y + x) ≠ 7 := by omega
  have t8 : s.1 13 (8 * y + x) ≠ 8 := by omega
  have on' : 0 ≤ 8 * y + x ∧ 8 * y + x < 64 ∧ (8 * y + x) % 8 < s.1 12 0 ∧ (8 * y + x) / 8 < s.1 12 1 := on
  -- the class
  have lb := c_bare (N := N) (T := s.1 13) hN hw hb on (fun d d0 d1 => htl d d0 d1) t7 t8
  rw [ic_self] at lb
  have lb2 : ∀ K : Int → gI → Option (Int × gI), i_o2 (f84 N 14 (8 * y + x) 64 s) (fun i5 s4 => i_o2 (f171 N i5 s4) K) = K (bR (s.1 12 0) (s.1 12 1) (s.1 13) (8 * y + x)) s := fun K => by
    cases hq : f84 N 14 (8 * y + x) 64 s with
    | none => rw [hq] at lb; exact absurd lb (by intro q; cases q)
    | some b =>
      obtain ⟨b1, b2⟩ := b
      rw [hq, i_o2_some] at lb
      rw [i_o2_some, lb, i_o2_some]
  have lc := c_owC_lp (N := N) (a := a) (place := place) hN hw hb on t7 t8 64 N 0 0 (-1) (by decide) (by decide) (by omega) (Or.inl ⟨rfl, rfl⟩) (by decide)
  rw [Int.sub_zero] at lc
  have hC : f161 N x y place a s = some (if bR (s.1 12 0) (s.1 12 1) (s.1 13) (8 * y + x) = place then (if a = 0 then 0 else -1) else (if a = 0 then (if (owC (s.1 12 0) (s.1 13) (hB (s.1 12 0) (s.1 12 1) (s.1 13) (8 * y + x) place) (8 * s.1 12 1).toNat 0 (0, -1)).1 ≤ 0 then (owC (s.1 12 0) (s.1 13) (hB (s.1 12 0) (s.1 12 1) (s.1 13) (8 * y + x) place) (8 * s.1 12 1).toNat 0 (0, -1)).2 else (owC (s.1 12 0) (s.1 13) (hB (s.1 12 0) (s.1 12 1) (s.1 13) (8 * y + x) place) (8 * s.1 12 1).toNat 0 (0, -1)).1) else (owC (s.1 12 0) (s.1 13) (hB (s.1 12 0) (s.1 12 1) (s.1 13) (8 * y + x) place) (8 * s.1 12 1).toNat 0 (0, -1)).2), s) := by
    unfold f161 f85
    rw [chY ⟨h.1, h.2.1, h.2.2.1, h.2.2.2, g7⟩, i_o2_some, if_neg (by decide), if_neg (by omega), if_pos ha.2, iov_ok (by omega) (by omega), iov_ok (by omega) (by omega), show y * 8 + x = 8 * y + x by omega, lb2]
    by_cases g : bR (s.1 12 0) (s.1 12 1) (s.1 13) (8 * y + x) = place
    · rw [if_pos g, if_pos g]
      by_cases g0 : a = 0
      · rw [if_pos g0, if_pos g0, i_o2_some]
      · rw [if_neg g0, if_neg g0, i_o2_some]
    · rw [if_neg g, if_neg g, lc, i_o2_some]
  have hz : ∀ c z : Int, 0 ≤ c → c < 64 → 0 ≤ z → z ≤ 5 → zup (s.1 13) c z (8 * y + x) ≠ 7 ∧ zup (s.1 13) c z (8 * y + x) ≠ 8 := fun c z _ _ z0 z1 => by
    by_cases q : 8 * y + x = c
    · rw [q, zup_same]; omega
    · rw [zup_ne q]; exact ⟨t7, t8⟩
  by_cases gp : (64 ≤ place ∧ place ≤ 66) ∨ (0 ≤ place ∧ place < 64 ∧ place % 8 < s.1 12 0 ∧ place / 8 < s.1 12 1)
  rotate_left
  · -- nothing ever comes to such a place
    have r1 := bR_rg (cell := 8 * y + x) hW hD on' t7 t8
    have no1 : bR (s.1 12 0) (s.1 12 1) (s.1 13) (8 * y + x) ≠ place := fun q => by rw [q] at r1; exact gp r1
    have no2 := owC_none (W := s.1 12 0) (tl := s.1 13) (H := hB (s.1 12 0) (s.1 12 1) (s.1 13) (8 * y + x) place) (fun c z c0 c1 z0 z1 => decide_eq_false fun q => by
      obtain ⟨a1, a2⟩ := hz c z c0 c1 z0 z1
      have r2 := bR_rg (cell := 8 * y + x) (tl := zup (s.1 13) c z) hW hD on' a1 a2
      rw [q] at r2
      exact gp r2) (8 * s.1 12 1).toNat 0 (0, -1) (by decide) (by omega)
    rw [if_neg no1, no2] at hC
    refine OKc.q hI (x := -1) (s1 := s) (s2 := iw s 63 0 0) ?_ ?_ sameQ_thrown
    · rw [hC]
      by_cases g0 : a = 0
      · rw [if_pos g0]; rfl
      · rw [if_neg g0]
    · rw [mgo, if_neg gp]
  -- the reference
  have hI1 := INV_thrown (x := 0) hI
  have hmo := hI1.1.2.1
  have m69 := n63 69 (by decide)
  have etl : ∀ c, 0 ≤ c → c < 64 → c % 8 < s.1 12 0 → c / 8 < s.1 12 1 → s.1 13 c = sh 2 (s.1 69) c := fun c c0 c1 c2 c3 => hE.2.2.2.1 c ⟨c0, c1, c2, c3⟩
  have eb0 : bR (s.1 12 0) (s.1 12 1) (s.1 13) (8 * y + x) = bR (s.1 12 0) (s.1 12 1) (sh 2 (s.1 69)) (8 * y + x) := bR_eq hW hD etl on'
  have lm := m_owC_lp (N := N) (v := iw s 63 0 0) (a := a) (place := place) (cell := 8 * y + x) hN hmo ⟨on.1, on.2.1⟩ (8 * s.1 12 1).toNat N 0 0 (-1) (by decide) (by rw [m69, e1]; omega) (by omega) (Or.inl ⟨rfl, rfl⟩) (by omega)
  rw [m69, e0, e1] at lm
  have mb := m_bare (N := N) (v := iw s 63 0 0) (cell := 8 * y + x) hN hmo on.1 on.2.1
  rw [m69, e0, e1] at mb
  refine OKc.q hI (s1 := s) (s2 := iw s 63 0 0) hC ?_ sameQ_thrown
  rw [mgo, if_pos gp]
  unfold f287_at68 f287_at73
  rw [if_neg (by decide), m_tileAt on.1 on.2.1, i_o2_some, m69, ← et, if_neg t8, m_tileAt on.1 on.2.1, i_o2_some, m69, ← et, if_neg t7, mb, ← eb0]
  by_cases g : bR (s.1 12 0) (s.1 12 1) (s.1 13) (8 * y + x) = place
  · rw [if_pos g, if_pos g]
    by_cases g0 : a = 0
    · rw [if_pos g0, if_pos g0]
    · rw [if_neg g0, if_neg g0]
  rw [if_neg g, if_neg g, lm]
  have eC : owC (s.1 12 0) (s.1 13) (hB (s.1 12 0) (s.1 12 1) (s.1 13) (8 * y + x) place) (8 * s.1 12 1).toNat 0 (0, -1) = owC (s.1 12 0) (sh 2 (s.1 69)) (hM (s.1 12 0) (s.1 12 1) (sh 2 (s.1 69)) (8 * y + x) place) (8 * s.1 12 1).toNat 0 (0, -1) := by
    refine owC_congr (D := s.1 12 1) hD _ 0 _ (by decide) (by omega) fun d d0 d1 d2 => ⟨etl d d0 (by omega) d2 (by omega), fun d5 w w0 w1 => ?_⟩
    have e5 := etl d d0 (by omega) d2 (by omega)
    have eb : bR (s.1 12 0) (s.1 12 1) (zup (s.1 13) d w) (8 * y + x) = bR (s.1 12 0) (s.1 12 1) (zup (sh 2 (s.1 69)) d w) (8 * y + x) := bR_eq hW hD (fun c c0 c1 c2 c3 => by
      by_cases q : c = d
      · rw [q, zup_same, zup_same]
      · rw [zup_ne q, zup_ne q]; exact etl c c0 c1 c2 c3) on'
    unfold hM hB
    rw [← e5, ← eb]
    by_cases q : w = s.1 13 d
    · rw [decide_eq_false (show ¬ (w ≠ s.1 13 d) from fun h => h q), Bool.false_and, q, zup_self]
      exact decide_eq_false g
    · rw [decide_eq_true (show w ≠ s.1 13 d from q), Bool.true_and]
  rw [← eC]
  have hIw : owI (owC (s.1 12 0) (s.1 13) (hB (s.1 12 0) (s.1 12 1) (s.1 13) (8 * y + x) place) (8 * s.1 12 1).toNat 0 (0, -1)) := by
    have : ∀ (r : Nat) (c : Int) (nf : Int × Int), 0 ≤ c → owI nf → owI (owC (s.1 12 0) (s.1 13) (hB (s.1 12 0) (s.1 12 1) (s.1 13) (8 * y + x) place) r c nf) := by
      intro r
      induction r with
      | zero => intro c nf _ h; exact h
      | succ r ih =>
        intro c nf c0 h
        unfold owC
        refine ih (c + 1) _ (by omega) ?_
        split
        · exact (owZ_I c0 6 0 nf (by decide) h).1
        · exact h
    exact this _ 0 (0, -1) (by decide) (Or.inl ⟨rfl, rfl⟩)
  generalize owC (s.1 12 0) (s.1 13) (hB (s.1 12 0) (s.1 12 1) (s.1 13) (8 * y + x) place) (8 * s.1 12 1).toNat 0 (0, -1) = nf at hIw
  rcases hIw with ⟨i1, i2⟩ | ⟨i1, i2⟩
  · rw [if_pos i1, i2]
    by_cases g0 : a = 0
    · rw [if_pos g0, if_pos (by omega)]
    · rw [if_neg g0]
  · rw [if_neg (by omega)]
    by_cases g0 : a = 0
    · rw [if_pos g0, if_pos g0, if_neg (by omega)]
    · rw [if_neg g0, if_neg g0]
end QOTHER

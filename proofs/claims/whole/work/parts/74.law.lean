/-! Laws of father's temper and of what a blocked pipe costs, worked out. -/
section LAWV
variable {N : Nat} {s u v : gI} {f : Int → Int} {l w d b : Int}
def cjn (c x y : Int) : Int := if c = 10004 then (if x = 0 then 0 else if y = 0 then 0 else 1) else if c = 10005 then (if x = 0 then (if y = 0 then 0 else 1) else 1) else if c = 10006 then (if y ≤ x then 0 else 1) else if c = 10007 then (if x = y then 1 else 0) else if c = 10008 then Int.bmod (x + y) 4294967296 else if c = 10009 then Int.bmod (x - y) 4294967296 else Int.bmod (x * y) 4294967296
def cva (l w d c : Int) : Int := if c = 10000 then l else if c = 10001 then w else if c = 10002 then d else c
/-- what waits behind so many codes -/
def stk (f : Int → Int) (l w d : Int) : Nat → Int → Int
  | 0 => fun _ => 0
  | i + 1 => if f i < 10003 then zup (stk f l w d i) (depC f i) (cva l w d (f i)) else if f i = 10003 then zup (stk f l w d i) (depC f i - 1) (if stk f l w d i (depC f i - 1) = 0 then 1 else 0) else zup (stk f l w d i) (depC f i - 2) (cjn (f i) (stk f l w d i (depC f i - 2)) (stk f l w d i (depC f i - 1)))
theorem depC_rg {n : Nat} (h : wfC f n) : ∀ i : Nat, i ≤ n → 0 ≤ depC f i ∧ depC f i ≤ 64
  | 0, _ => by unfold depC; decide
  | i + 1, hi => by
    have ih := depC_rg h i (by omega)
    obtain ⟨h1, h2, h3⟩ := h.1 i (by omega)
    unfold depC
    by_cases g : f i < 10003
    · rw [if_pos g]
      have := h1 g
      omega
    · rw [if_neg g]
      by_cases g2 : f i = 10003
      · rw [if_pos g2]; exact ih
      · rw [if_neg g2]
        have := h3 (by omega)
        omega
theorem c_fact {z : Int} : f27 N z s = some (if z = 0 then 0 else 1, s) := by
  unfold f27
  split <;> rfl
theorem c_join {c x y : Int} : f26 N c x y s = some (cjn c x y, s) := by
  unfold f26 f26_at65 cjn
  simp only [c_fact, i_o2_some, if_pos, show ¬ (1 : Int) = 0 from by decide, if_false]
  by_cases h4 : c = 10004
  · rw [if_pos h4, if_pos h4]
    by_cases g : x = 0
    · rw [if_pos g, if_pos g]
    · rw [if_neg g, if_neg g]
      by_cases g2 : y = 0
      · rw [if_pos g2, if_pos g2]
      · rw [if_neg g2, if_neg g2]
  rw [if_neg h4, if_neg h4]
  by_cases h5 : c = 10005
  · rw [if_pos h5, if_pos h5]
    by_cases g : x = 0
    · rw [if_pos g, if_pos g]
      by_cases g2 : y = 0
      · rw [if_pos g2, if_pos g2]
      · rw [if_neg g2, if_neg g2]
    · rw [if_neg g, if_neg g]
  rw [if_neg h5, if_neg h5]
  by_cases h6 : c = 10006
  · rw [if_pos h6, if_pos h6]
    split <;> rfl
  rw [if_neg h6, if_neg h6]
  by_cases h7 : c = 10007
  · rw [if_pos h7, if_pos h7]
    split <;> rfl
  rw [if_neg h7, if_neg h7]
  by_cases h8 : c = 10008
  · rw [if_pos h8, if_pos h8]
  rw [if_neg h8, if_neg h8]
  by_cases h9 : c = 10009
  · rw [if_pos h9, if_pos h9]
  rw [if_neg h9, if_neg h9]
theorem c_value {c x y z : Int} : f25 N c x y z s = some (cva x y z c, s) := by
  unfold f25 cva
  by_cases h4 : c = 10000
  · rw [if_pos h4, if_pos h4]
  rw [if_neg h4, if_neg h4]
  by_cases h5 : c = 10001
  · rw [if_pos h5, if_pos h5]
  rw [if_neg h5, if_neg h5]
  by_cases h6 : c = 10002
  · rw [if_pos h6, if_pos h6]
  · rw [if_neg h6, if_neg h6]
theorem c_law_lp {r0 : Nat} {n : Nat} (hf : s.1 (r0 + 1) = f) (hn : s.1 r0 2 = n) (n1 : n ≤ 1000) (wf : wfC f n) : ∀ (r fuel i : Nat) (C : Int → Int), r < fuel → i + r = n → (∀ j, 0 ≤ j → j < depC f i → C j = stk f l w d i j) →
    ∃ C2, f24_at6 N r0 fuel l w d (depC f i) i (ic s (r0 + 2) C) = some (stk f l w d n 0, ic s (r0 + 2) C2) := by
  intro r
  induction r with
  | zero =>
    intro fuel i C hf0 e hC
    obtain ⟨fuel, rfl⟩ : ∃ g, fuel = g + 1 := ⟨fuel - 1, by omega⟩
    have ei : i = n := by omega
    subst ei
    have d1 := wf.2
    refine ⟨C, ?_⟩
    unfold f24_at6
    rw [ic_ne (by omega), hn, if_pos (Int.le_refl _), ick_ok (by omega) (by omega), ic_at, hC 0 (by decide) (by omega)]
  | succ r ih =>
    intro fuel i C hf0 e hC
    obtain ⟨fuel, rfl⟩ : ∃ g, fuel = g + 1 := ⟨fuel - 1, by omega⟩
    have d0 := depC_rg wf i (by omega)
    obtain ⟨w1, w2, w3⟩ := wf.1 i (by omega)
    have c1 : ((i + 1 : Nat) : Int) = (i : Int) + 1 := by omega
    unfold f24_at6
    rw [ic_ne (by omega), hn, if_neg (by omega), ick_ok (by omega) (by omega), ic_ne (by omega), hf]
    dsimp only
    by_cases g : f i < 10003
    · have w1 := w1 g
      have ed : depC f (i + 1) = depC f i + 1 := by
        show (if f i < 10003 then depC f i + 1 else if f i = 10003 then depC f i else depC f i - 1) = _
        rw [if_pos g]
      have es : stk f l w d (i + 1) = zup (stk f l w d i) (depC f i) (cva l w d (f i)) := if_pos g
      rw [if_neg (by omega), if_neg (by omega), c_value, i_o2_some, ick_ok (by omega) (by omega)]
      rw [iov_ok (by omega) (by omega), iov_ok (by omega) (by omega), iw_ic, ic_at, ic_ic]
      have := ih fuel (i + 1) (zup C (depC f i) (cva l w d (f i))) (by omega) (by omega) (fun j j0 j1 => by
        rw [es]
        by_cases q : j = depC f i
        · rw [q, zup_same, zup_same]
        · rw [zup_ne q, zup_ne q]; exact hC j j0 (by omega))
      rw [ed, c1] at this
      exact this
    rw [if_pos (by omega)]
    by_cases g2 : f i = 10003
    · have w2 := w2 g2
      have ed : depC f (i + 1) = depC f i := by
        show (if f i < 10003 then depC f i + 1 else if f i = 10003 then depC f i else depC f i - 1) = _
        rw [if_neg g, if_pos g2]
      have es : stk f l w d (i + 1) = zup (stk f l w d i) (depC f i - 1) (if stk f l w d i (depC f i - 1) = 0 then 1 else 0) := (if_neg g).trans (if_pos g2)
      have eC := hC (depC f i - 1) (by omega) (by omega)
      have fin : ∀ z : Int, z = (if C (depC f i - 1) = 0 then 1 else 0) → f24_at99 N r0 (f24_at6 N r0 fuel) l w d (depC f i) i z (depC f i - 1) (ic s (r0 + 2) C) = f24_at6 N r0 fuel l w d (depC f i) ((i : Int) + 1) (ic s (r0 + 2) (zup C (depC f i - 1) (if C (depC f i - 1) = 0 then 1 else 0))) := by
        intro z hz
        unfold f24_at99
        rw [c_fact, i_o2_some, ick_ok (by omega) (by omega)]
        dsimp only
        rw [iov_ok (by omega) (by omega), iw_ic, ic_at, ic_ic, hz]
        by_cases q : C (depC f i - 1) = 0
        · rw [if_pos q, if_neg (show ¬ (1 : Int) = 0 by decide)]
        · rw [if_neg q, if_pos (show (0 : Int) = 0 from rfl)]
      have := ih fuel (i + 1) (zup C (depC f i - 1) (if C (depC f i - 1) = 0 then 1 else 0)) (by omega) (by omega) (fun j j0 j1 => by
        rw [es, ← eC]
        by_cases q : j = depC f i - 1
        · rw [q, zup_same, zup_same]
        · rw [zup_ne q, zup_ne q]; exact hC j j0 (by omega))
      rw [ed, c1] at this
      rw [if_pos g2, if_neg (by omega), iov_ok (by omega) (by omega), iov_ok (by omega) (by omega), ick_ok (by omega) (by omega), ic_at]
      by_cases q : C (depC f i - 1) = 0
      · rw [if_pos q, fin 1 (if_pos q).symm]
        exact this
      · rw [if_neg q, fin 0 (if_neg q).symm]
        exact this
    · have w3 := w3 (by omega)
      have ed : depC f (i + 1) = depC f i - 1 := by
        show (if f i < 10003 then depC f i + 1 else if f i = 10003 then depC f i else depC f i - 1) = _
        rw [if_neg g, if_neg g2]
      have es : stk f l w d (i + 1) = zup (stk f l w d i) (depC f i - 2) (cjn (f i) (stk f l w d i (depC f i - 2)) (stk f l w d i (depC f i - 1))) := (if_neg g).trans (if_neg g2)
      have eC := hC (depC f i - 1) (by omega) (by omega)
      have eC2 := hC (depC f i - 2) (by omega) (by omega)
      have := ih fuel (i + 1) (zup C (depC f i - 2) (cjn (f i) (C (depC f i - 2)) (C (depC f i - 1)))) (by omega) (by omega) (fun j j0 j1 => by
        rw [es, ← eC, ← eC2]
        by_cases q : j = depC f i - 2
        · rw [q, zup_same, zup_same]
        · rw [zup_ne q, zup_ne q]; exact hC j j0 (by omega))
      rw [ed, c1] at this
      rw [if_neg g2, if_neg (by omega), show depC f i + -1 = depC f i - 1 by omega, iov_ok (by omega) (by omega)]
      rw [show depC f i - 1 - 1 = depC f i - 2 by omega, iov_ok (by omega) (by omega), iov_ok (by omega) (by omega), ick_ok (by omega) (by omega), ick_ok (by omega) (by omega), ic_at, c_join, i_o2_some, ick_ok (by omega) (by omega)]
      rw [iov_ok (by omega) (by omega), iw_ic, ic_at, ic_ic]
      exact this
theorem c_law {r0 n : Nat} (hN : 5000 ≤ N) (hn : s.1 r0 2 = n) (n1 : n ≤ 1000) (wf : wfC (s.1 (r0 + 1)) n) :
    ∃ C2, f24 N r0 l w d s = some (stk (s.1 (r0 + 1)) l w d n 0, ic s (r0 + 2) C2) := by
  obtain ⟨C2, h⟩ := c_law_lp (N := N) (s := s) (f := s.1 (r0 + 1)) (l := l) (w := w) (d := d) rfl hn n1 wf n N 0 (s.1 (r0 + 2)) (by omega) (by omega) (fun j j0 j1 => by unfold depC at j1; omega)
  refine ⟨C2, ?_⟩
  rw [ic_self] at h
  exact h
/-- what a law gives at the end: from 0 to 99 -/
def clp (z : Int) : Int := if 0 ≤ z then (if z ≤ 99 then z else 99) else 0
theorem clp_rg {z : Int} : 0 ≤ clp z ∧ clp z ≤ 99 := by
  unfold clp
  split
  · split <;> omega
  · omega
theorem clp_min {z : Int} : (if (0 : Int) < (if z < (99 : Int) then z else (99 : Int)) then (if z < (99 : Int) then z else (99 : Int)) else (0 : Int)) = clp z := by
  unfold clp
  by_cases h : z < 99
  · simp only [if_pos h]
    by_cases h2 : 0 < z
    · rw [if_pos h2, if_pos (by omega), if_pos (by omega)]
    · rw [if_neg h2]
      by_cases h3 : 0 ≤ z
      · rw [if_pos h3, if_pos (by omega)]; omega
      · rw [if_neg h3]
  · simp only [if_neg h]
    rw [if_pos (by decide), if_pos (by omega)]
    by_cases h3 : z ≤ 99
    · rw [if_pos h3]; omega
    · rw [if_neg h3]
def lawV (s : gI) (lc : Nat) (l wo d : Int) : Int := clp (stk (s.1 (lc + 1)) l wo d (s.1 lc 2).toNat 0)
theorem lawR_wf {lc : Nat} (h : lawR s w lc) : (0 ≤ s.1 lc 2 ∧ s.1 lc 2 ≤ 1000) ∧ wfC (s.1 (lc + 1)) (s.1 lc 2).toNat := by
  rcases h with ⟨-, h2, h3⟩ | ⟨-, h1, h2, -, -, -, h3⟩
  · rw [h2]
    refine ⟨by decide, ?_⟩
    have e0 : s.1 (lc + 1) ((0 : Nat) : Int) < 10003 := by
      have : s.1 (lc + 1) ((0 : Nat) : Int) = s.1 (lc + 1) 0 := rfl
      rw [this, h3]
      split <;> decide
    have d1 : depC (s.1 (lc + 1)) 1 = 1 := by
      show (if s.1 (lc + 1) ((0 : Nat) : Int) < 10003 then (0 : Int) + 1 else _) = 1
      rw [if_pos e0]
      rfl
    refine ⟨fun i hi => ?_, ?_⟩
    · have : i = 0 := by
        have : ((1 : Int)).toNat = 1 := rfl
        omega
      subst this
      have : depC (s.1 (lc + 1)) 0 = 0 := rfl
      exact ⟨fun _ => by omega, fun _ => by omega, fun _ => by omega⟩
    · show 1 ≤ depC (s.1 (lc + 1)) 1
      omega
  · exact ⟨⟨h1, h2⟩, h3⟩
-- the reference
theorem m_join {op c x y : Int} (h : (c = 10004 ∧ op = 9) ∨ (c = 10005 ∧ op = 10) ∨ (c = 10006 ∧ op = 7) ∨ (c = 10007 ∧ op = 8) ∨ (c = 10008 ∧ op = 4) ∨ (c = 10009 ∧ op = 5) ∨ (c = 10010 ∧ op = 6)) : f214 N op x y s = some (cjn c x y, s) := by
  unfold f214 cjn
  rcases h with ⟨h1, h2⟩ | ⟨h1, h2⟩ | ⟨h1, h2⟩ | ⟨h1, h2⟩ | ⟨h1, h2⟩ | ⟨h1, h2⟩ | ⟨h1, h2⟩ <;> subst h1 <;> subst h2 <;> simp only [Int.reduceEq, if_true, if_false]
  · by_cases g : x = 0
    · rw [if_pos g, if_pos g]
    · rw [if_neg g, if_neg g]
      split <;> rfl
  · by_cases g : x = 0
    · rw [if_pos g, if_pos g]
      split <;> rfl
    · rw [if_neg g, if_neg g]
  · split <;> rfl
  · split <;> rfl
theorem m_law_lp {n : Nat} {A : Int} (A0 : 0 ≤ A) (A1 : A + n < 1100) (hend : s.1 72 (A + n) = 0) (hc : ∀ i, 0 ≤ i → i < n → codeR (f i) (s.1 72 (A + i)) (s.1 73 (A + i))) (h0 : s.1 76 0 = l) (h1 : s.1 76 1 = w) (h2 : s.1 76 2 = d) (wf : wfC f n) : ∀ (r fuel i : Nat) (C : Int → Int), r < fuel → i + r = n → (∀ j, 0 ≤ j → j < depC f i → C j = stk f l w d i j) →
    ∃ C2, f213_at4 N fuel (depC f i) (A + i) (ic s 77 C) = some (stk f l w d n 0, ic s 77 C2) := by
  intro r
  induction r with
  | zero =>
    intro fuel i C hf0 e hC
    obtain ⟨fuel, rfl⟩ : ∃ g, fuel = g + 1 := ⟨fuel - 1, by omega⟩
    have ei : i = n := by omega
    subst ei
    have d1 := wf.2
    refine ⟨C, ?_⟩
    unfold f213_at4
    rw [ick_ok (by omega) (by omega), ic_ne (by decide), hend, if_pos rfl, ick_ok (by omega) (by omega), ic_at, hC 0 (by decide) (by omega)]
  | succ r ih =>
    intro fuel i C hf0 e hC
    obtain ⟨fuel, rfl⟩ : ∃ g, fuel = g + 1 := ⟨fuel - 1, by omega⟩
    have d0 := depC_rg wf i (by omega)
    obtain ⟨w1, w2, w3⟩ := wf.1 i (by omega)
    have c1 : A + ((i + 1 : Nat) : Int) = A + (i : Int) + 1 := by omega
    have hc := hc i (by omega) (by omega)
    unfold f213_at4
    rw [ick_ok (by omega) (by omega), ic_ne (by decide)]
    dsimp only
    have num : ∀ z : Int, f i < 10003 → z = cva l w d (f i) → f213_at64 N (f213_at4 N fuel) (depC f i) (A + i) z (depC f i) (ic s 77 C) = f213_at4 N fuel (depC f (i + 1)) (A + ((i + 1 : Nat) : Int)) (ic s 77 (zup C (depC f i) (cva l w d (f i)))) ∧ (∀ j, 0 ≤ j → j < depC f (i + 1) → zup C (depC f i) (cva l w d (f i)) j = stk f l w d (i + 1) j) := by
      intro z g hz
      have w1 := w1 g
      have ed : depC f (i + 1) = depC f i + 1 := by
        show (if f i < 10003 then depC f i + 1 else if f i = 10003 then depC f i else depC f i - 1) = _
        rw [if_pos g]
      have es : stk f l w d (i + 1) = zup (stk f l w d i) (depC f i) (cva l w d (f i)) := if_pos g
      rw [ed, c1, es]
      refine ⟨?_, fun j j0 j1 => ?_⟩
      · unfold f213_at64
        rw [ick_ok (by omega) (by omega)]
        dsimp only
        rw [iov_ok (by omega) (by omega), iov_ok (by omega) (by omega), iw_ic, ic_at, ic_ic, hz]
      · by_cases q : j = depC f i
        · rw [q, zup_same, zup_same]
        · rw [zup_ne q, zup_ne q]; exact hC j j0 (by omega)
    rcases hc with ⟨g1, g2, g3, g4⟩ | ⟨g1, g2, g3, g4⟩ | hc
    · obtain ⟨t1, t2⟩ := num (f i) (by omega) (by unfold cva; rw [if_neg (by omega), if_neg (by omega), if_neg (by omega)])
      rw [g3, if_neg (by decide), ick_ok (by omega) (by omega), if_pos rfl]
      unfold f213_at33
      rw [if_pos rfl, ick_ok (by omega) (by omega), ic_ne (by decide), g4, t1]
      exact ih fuel (i + 1) _ (by omega) (by omega) t2
    · have ez : s.1 76 (f i - 10000) = cva l w d (f i) := by
        unfold cva
        rcases (by omega : f i = 10000 ∨ f i = 10001 ∨ f i = 10002) with q | q | q <;> rw [q]
        · exact h0
        · exact h1
        · exact h2
      obtain ⟨t1, t2⟩ := num (s.1 76 (f i - 10000)) (by omega) ez
      rw [g3, if_neg (by decide), ick_ok (by omega) (by omega), if_neg (by decide), if_pos rfl]
      unfold f213_at33
      rw [if_neg (by decide), ick_ok (by omega) (by omega), ic_ne (by decide), g4, ick_ok (by omega) (by omega), ic_ne (by decide), t1]
      exact ih fuel (i + 1) _ (by omega) (by omega) t2
    rcases hc with ⟨g2, g3⟩ | hc
    · have w2 := w2 g2
      have g : ¬ f i < 10003 := by omega
      have ed : depC f (i + 1) = depC f i := by
        show (if f i < 10003 then depC f i + 1 else if f i = 10003 then depC f i else depC f i - 1) = _
        rw [if_neg g, if_pos g2]
      have es : stk f l w d (i + 1) = zup (stk f l w d i) (depC f i - 1) (if stk f l w d i (depC f i - 1) = 0 then 1 else 0) := (if_neg g).trans (if_pos g2)
      have eC := hC (depC f i - 1) (by omega) (by omega)
      have := ih fuel (i + 1) (zup C (depC f i - 1) (if C (depC f i - 1) = 0 then 1 else 0)) (by omega) (by omega) (fun j j0 j1 => by
        rw [es, ← eC]
        by_cases q : j = depC f i - 1
        · rw [q, zup_same, zup_same]
        · rw [zup_ne q, zup_ne q]; exact hC j j0 (by omega))
      rw [ed, c1] at this
      rw [g3, if_neg (by decide), ick_ok (by omega) (by omega), if_neg (by decide), if_neg (by decide), if_pos rfl, iov_ok (by omega) (by omega), iov_ok (by omega) (by omega), ick_ok (by omega) (by omega), ic_at]
      unfold f213_at100
      rw [ick_ok (by omega) (by omega)]
      dsimp only
      rw [iov_ok (by omega) (by omega), iw_ic, ic_at, ic_ic, iw_ic, ic_at, ic_ic]
      by_cases q : C (depC f i - 1) = 0
      · rw [if_pos q]
        rw [if_pos q] at this
        exact this
      · rw [if_neg q, ick_ok (by omega) (by omega), iov_ok (by omega) (by omega)]
        rw [if_neg q] at this
        exact this
    · have gc : 10003 < f i := by omega
      have w3 := w3 gc
      have ed : depC f (i + 1) = depC f i - 1 := by
        show (if f i < 10003 then depC f i + 1 else if f i = 10003 then depC f i else depC f i - 1) = _
        rw [if_neg (by omega), if_neg (by omega)]
      have es : stk f l w d (i + 1) = zup (stk f l w d i) (depC f i - 2) (cjn (f i) (stk f l w d i (depC f i - 2)) (stk f l w d i (depC f i - 1))) := (if_neg (by omega)).trans (if_neg (by omega))
      have eC := hC (depC f i - 1) (by omega) (by omega)
      have eC2 := hC (depC f i - 2) (by omega) (by omega)
      have := ih fuel (i + 1) (zup C (depC f i - 2) (cjn (f i) (C (depC f i - 2)) (C (depC f i - 1)))) (by omega) (by omega) (fun j j0 j1 => by
        rw [es, ← eC, ← eC2]
        by_cases q : j = depC f i - 2
        · rw [q, zup_same, zup_same]
        · rw [zup_ne q, zup_ne q]; exact hC j j0 (by omega))
      rw [ed, c1] at this
      rw [if_neg (by omega), ick_ok (by omega) (by omega), if_neg (by omega), if_neg (by omega), if_neg (by omega), show depC f i + -1 = depC f i - 1 by omega, iov_ok (by omega) (by omega)]
      rw [show depC f i - 1 - 1 = depC f i - 2 by omega, iov_ok (by omega) (by omega), iov_ok (by omega) (by omega), ick_ok (by omega) (by omega), ick_ok (by omega) (by omega), ic_at, m_join hc, i_o2_some, ick_ok (by omega) (by omega)]
      rw [iov_ok (by omega) (by omega), iw_ic, ic_at, ic_ic]
      exact this
end LAWV

/-! ODDS and GAIN: the reference, held against the class' throws. -/
/-- class and reference tell one roof, one yard, one scene -/
def RS (s : gI) : Prop := CS s ∧ mOK s ∧ eqQ (cQ s) (mQ s) ∧ eq8 (sh 0 (s.1 78)) (s.1 7) ∧ s.1 71 0 = s.1 15 0 ∧ (0 ≤ s.1 15 0 ∧ s.1 15 0 ≤ 4) ∧ s.1 71 1 = s.1 15 3 ∧
  (∀ i, 0 ≤ i → i < s.1 15 0 → s.1 71 (10 + i) = s.1 16 i) ∧ (∀ t, 0 ≤ t → t < s.1 15 3 → s.1 71 (14 + 3 * t + 2) = s.1 20 t) ∧ mWo s
/-- whether another thing than t is in hand in T that was not in p -/
def oth (T p : Int → Int) (t : Int) : Nat → Int
  | 0 => 0
  | k + 1 => if oth T p t k = 0 then (if (k : Int) = t then 0 else if T k = 64 then (if p k = 64 then 0 else 1) else 0) else 1
def oddV (T p : Int → Int) (t what : Int) (n : Nat) : Int :=
  if what = 0 then oth T p t n else if what = 1 then (if T t = 64 then 1 else 0) else if what = 2 then (if 64 ≤ T t then 0 else 1) else if what = 3 then (if T t = 65 then 1 else 0) else (if T t < 128 then 0 else 1)
section MODDS
variable {N : Nat} {s u : gI} {p T : Int → Int}
theorem oth_01 (t : Int) : ∀ k : Nat, oth T p t k = 0 ∨ oth T p t k = 1
  | 0 => Or.inl rfl
  | k + 1 => by
    unfold oth
    split
    · split
      · exact Or.inl rfl
      · split
        · split
          · exact Or.inl rfl
          · exact Or.inr rfl
        · exact Or.inl rfl
    · exact Or.inr rfl
theorem oth_iff (t : Int) : ∀ n : Nat, oth T p t n = 1 ↔ ∃ k : Nat, k < n ∧ (k : Int) ≠ t ∧ T k = 64 ∧ p k ≠ 64
  | 0 => ⟨fun h => by simp [oth] at h, fun ⟨k, hk, _⟩ => by omega⟩
  | n + 1 => by
    have ih := oth_iff t n
    unfold oth
    by_cases h0 : oth T p t n = 0
    · rw [if_pos h0]
      have hno : ¬ ∃ k : Nat, k < n ∧ (k : Int) ≠ t ∧ T k = 64 ∧ p k ≠ 64 := fun q => by have := ih.mpr q; omega
      constructor
      · intro h
        by_cases h1 : (n : Int) = t
        · rw [if_pos h1] at h; omega
        rw [if_neg h1] at h
        by_cases h2 : T n = 64
        rotate_left
        · rw [if_neg h2] at h; omega
        rw [if_pos h2] at h
        by_cases h3 : p n = 64
        · rw [if_pos h3] at h; omega
        · exact ⟨n, by omega, h1, h2, h3⟩
      · rintro ⟨k, hk, h1, h2, h3⟩
        by_cases hkn : k = n
        · subst hkn
          rw [if_neg h1, if_pos h2, if_neg h3]
        · exact absurd ⟨k, by omega, h1, h2, h3⟩ hno
    · have h1 : oth T p t n = 1 := (oth_01 t n).resolve_left h0
      rw [if_neg h0]
      obtain ⟨k, hk, h⟩ := ih.mp h1
      exact ⟨fun _ => ⟨k, by omega, h⟩, fun _ => rfl⟩
theorem oth_congr {T2 p2 : Int → Int} {t : Int} : ∀ n : Nat, n ≤ 8 → eq8 T T2 → eq8 p p2 → oth T p t n = oth T2 p2 t n
  | 0, _, _, _ => rfl
  | n + 1, hn, h1, h2 => by
    unfold oth
    rw [oth_congr n (by omega) h1 h2, h1 n (by omega) (by omega), h2 n (by omega) (by omega)]
theorem m_isOdd_lp (hn : s.1 71 1 ≤ 8) {t w x : Int} (ht0 : 0 ≤ t) (ht : t < 8) : ∀ (m k fuel : Nat), (k : Int) + m = s.1 71 1 → m < fuel →
    f263_at17 N fuel t w x (oth (sh 588 (s.1 78)) (sh 0 (s.1 78)) t k) k s = some (if w = 0 then oth (sh 588 (s.1 78)) (sh 0 (s.1 78)) t (k + m) else if w = 1 then (if x = 64 then 1 else 0) else if w = 2 then (if 64 ≤ x then 0 else 1) else if w = 3 then (if x = 65 then 1 else 0) else (if x < 128 then 0 else 1), s) := by
  have e01 : ∀ (c : Prop) [Decidable c] (u : gI), (if c then ib1 (1 : Int) (some ((1 : Int), u)) else ib1 (0 : Int) (some ((0 : Int), u))) = some (if c then 1 else 0, u) := by
    intro c _ u
    split
    · exact ib1_ok (Or.inr rfl)
    · exact ib1_ok (Or.inl rfl)
  have e10 : ∀ (c : Prop) [Decidable c] (u : gI), (if c then ib1 (0 : Int) (some ((0 : Int), u)) else ib1 (1 : Int) (some ((1 : Int), u))) = some (if c then 0 else 1, u) := by
    intro c _ u
    split
    · exact ib1_ok (Or.inl rfl)
    · exact ib1_ok (Or.inr rfl)
  intro m
  induction m with
  | zero =>
    intro k fuel h hf
    obtain ⟨fuel, rfl⟩ : ∃ g, fuel = g + 1 := ⟨fuel - 1, by omega⟩
    unfold f263_at17
    rw [m_things, i_o2_some, if_pos (by omega)]
    simp only [e01, e10, ib1_ok (oth_01 t k), Nat.add_zero]
    split
    · rfl
    · split
      · rfl
      · split
        · rfl
        · split <;> rfl
  | succ m ih =>
    intro k fuel h hf
    obtain ⟨fuel, rfl⟩ : ∃ g, fuel = g + 1 := ⟨fuel - 1, by omega⟩
    have ih := ih (k + 1) fuel (by omega) (by omega)
    have e1 : ((k : Int) + 1) = ((k + 1 : Nat) : Int) := by omega
    rw [show k + (m + 1) = k + 1 + m by omega]
    have e2 : oth (sh 588 (s.1 78)) (sh 0 (s.1 78)) t (k + 1) = if oth (sh 588 (s.1 78)) (sh 0 (s.1 78)) t k = 0 then (if (k : Int) = t then 0 else if s.1 78 (588 + k) = 64 then (if s.1 78 k = 64 then 0 else 1) else 0) else 1 := by
      have : sh 0 (s.1 78) k = s.1 78 k := by rw [sh_at, Int.zero_add]
      rw [← this]
      rfl
    rw [e2] at ih
    unfold f263_at17 f263_at65 f263_at69
    rw [m_things, i_o2_some, if_neg (by omega)]
    simp (disch := omega) only [ick_ok, iov_ok, iol_ok, idv_ok, ich_ok, icp_ok, i_o2_some, i_o1_some]
    rw [e1]
    by_cases h0 : oth (sh 588 (s.1 78)) (sh 0 (s.1 78)) t k = 0
    rotate_left
    · rw [if_neg h0] at ih ⊢
      exact ih
    rw [if_pos h0] at ih ⊢
    by_cases h1 : (k : Int) = t
    · rw [if_pos h1] at ih ⊢
      exact ih
    rw [if_neg h1] at ih ⊢
    by_cases h2 : s.1 78 (588 + k) = 64
    rotate_left
    · rw [if_neg h2] at ih ⊢
      exact ih
    rw [if_pos h2] at ih ⊢
    by_cases h3 : s.1 78 k = 64
    · rw [if_pos h3] at ih ⊢
      exact ih
    · rw [if_neg h3] at ih ⊢
      exact ih
theorem m_isOdd (hN : 5000 ≤ N) (hw : mOK s) {t w : Int} (ht0 : 0 ≤ t) (ht : t < 8) : f263 N t w s = some (oddV (sh 588 (s.1 78)) (sh 0 (s.1 78)) t w (s.1 71 1).toNat, s) := by
  have hn := hw.2.2
  unfold f263
  rw [iov_ok (by omega) (by omega), ick_ok (by omega) (by omega)]
  have := m_isOdd_lp (N := N) (s := s) hn.2 (t := t) (w := w) (x := s.1 78 (588 + t)) ht0 ht (s.1 71 1).toNat 0 N (by omega) (by omega)
  rw [Nat.zero_add] at this
  exact this
theorem m_weightOf {i z : Int} (h0 : 0 ≤ i) (h1 : i < 4) (ha : 0 ≤ s.1 71 (10 + i) ∧ s.1 71 (10 + i) ≤ 10) : f260 N i z s = some (wgt (s.1 71 (10 + i)) z, s) := by
  unfold f260 wgt
  simp (disch := omega) only [ick_ok, iov_ok, iol_ok, idv_ok, ich_ok, icp_ok, i_o2_some, i_o1_some]
  split <;> rfl
/-- what the class asks of a throw is what the reference asks of it -/
theorem so_odd (hs : CS s) {m : Nat} {x y w : Int} (hm : m < (cQ s).2.2.2.1) (hp : s.1 7 m = 64) (hw5 : 0 ≤ w ∧ w ≤ 4) :
    soV (thrown (cQ s) (s.1 7) m x y) (hitOf (cQ s) (s.1 7) m x y) m w = oddV (thrown (cQ s) (s.1 7) m x y) (s.1 7) m w (cQ s).2.2.2.1 := by
  obtain ⟨hw, hsc, hV, -, -⟩ := id hs
  have hn := cW_n hw
  have tV := VV_thrown hw.1.2 hw.2.1.2 hm hV x y
  have hz64 : zup (s.1 7) m 64 = s.1 7 := zup_eq hp
  have tne : ∀ k : Int, k ≠ m → (0 ≤ hitOf (cQ s) (s.1 7) m x y → k ≠ hitOf (cQ s) (s.1 7) m x y) → thrown (cQ s) (s.1 7) m x y k = s.1 7 k := fun k h1 h2 => thrown_ne h1 (by rw [hz64]; exact h2)
  have ha : 0 ≤ hitOf (cQ s) (s.1 7) m x y → _ := hit_at
  have hr := hit_rg (Q := cQ s) (p := s.1 7) (t := m) (x := x) (y := y) hn
  have rT := okq_rg (tV m hm)
  generalize hitOf (cQ s) (s.1 7) m x y = h at ha hr tne
  generalize thrown (cQ s) (s.1 7) m x y = T at tV tne rT
  unfold soV oddV
  by_cases w0 : w = 0
  · rw [if_pos w0, if_pos w0]
    have key : oth T (s.1 7) m (cQ s).2.2.2.1 = 1 ↔ (h ≠ -1 ∧ T h = 64) := by
      rw [oth_iff]
      constructor
      · rintro ⟨k, hk, h1, h2, h3⟩
        by_cases hkh : 0 ≤ h ∧ (k : Int) = h
        · exact ⟨by omega, by rw [← hkh.2]; exact h2⟩
        · have := tne k h1 (fun h0 hh => hkh ⟨h0, hh⟩)
          rw [this] at h2
          exact absurd h2 h3
      · rintro ⟨h1, h2⟩
        obtain ⟨a1, a2, a3, a4, a5, a6, a7⟩ := ha (by omega)
        have hp8 : (cQ s).1 ≤ 8 := hw.1.2
        have hd8 : (cQ s).2.1 ≤ 8 := hw.2.1.2
        refine ⟨h.toNat, a3, by omega, ?_, ?_⟩
        · rw [Int.toNat_of_nonneg (by omega)]; exact h2
        · rw [Int.toNat_of_nonneg (by omega), a1]; omega
    by_cases g : h = -1
    · rw [if_pos g]
      rcases oth_01 (T := T) (p := s.1 7) (m : Int) (cQ s).2.2.2.1 with e | e
      · exact e.symm
      · exact absurd g (key.mp e).1
    · rw [if_neg g]
      by_cases g2 : T h = 64
      · rw [if_pos g2]; exact (key.mpr ⟨g, g2⟩).symm
      · rw [if_neg g2]
        rcases oth_01 (T := T) (p := s.1 7) (m : Int) (cQ s).2.2.2.1 with e | e
        · exact e.symm
        · exact absurd (key.mp e).2 g2
  rw [if_neg w0, if_neg w0]
  unfold tol
  by_cases g : T m < 128
  · rw [if_pos g]
    split
    · rfl
    · split
      · rfl
      · split
        · rfl
        · rw [if_neg (by omega)]
  · rw [if_neg g]
    split
    · rw [if_neg (by decide), if_neg (by omega)]
    · split
      · rw [if_pos (by decide), if_pos (by omega)]
      · split
        · rw [if_neg (by decide), if_neg (by omega)]
        · rw [if_pos rfl]
theorem RS_n (h : RS s) : (mQ s).2.2.2.1 = (cQ s).2.2.2.1 := h.2.2.1.2.2.1.symm
/-- behind a trial the reference's places are those of the specified throw -/
theorem m_tryR (hN : 5000 ≤ N) (hs : RS s) {per x y z : Int} {m : Nat} (hm : m < (cQ s).2.2.2.1) (hx : 0 ≤ x ∧ x < 8) (hy : 0 ≤ y ∧ y < 8) (hz0 : 0 ≤ z) (hz : z ≤ 8) (hu : trl 588 s u) :
    ∃ v, f262 N 0 588 per m x y z u = some v ∧ trl 588 s v ∧ eq8 (sh 588 (v.1 78)) (thrown (cQ s) (s.1 7) m (x + sX z) (y + sY z)) := by
  obtain ⟨hc, hmo, hq, h8, -⟩ := id hs
  have hn := cW_n hc.1
  obtain ⟨v, e1, e2, e3⟩ := m_try (N := N) (s := s) (u := u) (b := 588) hN hmo (a := 0) (per := per) (m := m) (x := x) (y := y) (z := z) (by decide) (by decide) (by decide) (by decide) (by decide) (by omega) hx hy hz0 hz hu
  refine ⟨v, e1, e2, e3.tr ?_⟩
  rw [thrown_eqQ hq hc.1.1.2 hc.1.2.1.2 hm hc.2.2.1]
  exact thrown_congr (by rw [RS_n hs]; exact hn) h8 (by omega) (by omega) _ _
theorem RS.P4 (h : RS s) : s.1 15 0 ≤ 4 := h.2.2.2.2.2.1.2
theorem m_odds_lp (hN : 5000 ≤ N) (hs : RS s) {per m : Nat} {x y w : Int} (hper : (per : Int) < s.1 15 0) (hm : m < (cQ s).2.2.2.1) (hp : s.1 7 m = 64) (hx : 0 ≤ x ∧ x < 8) (hy : 0 ≤ y ∧ y < 8) (hw5 : 0 ≤ w ∧ w ≤ 4) : ∀ (k z fuel : Nat) (u : gI), z + k = 9 → k < fuel → trl 588 s u →
    ∃ v, f264_at35 N fuel per m x y w (sumN (fun z => if soV (TZ (cQ s) (s.1 7) m (8 * y + x) z) (HZ (cQ s) (s.1 7) m (8 * y + x) z) m w = 0 then 0 else wgt (s.1 16 per) z) z) z u =
      some (sumN (fun z => if soV (TZ (cQ s) (s.1 7) m (8 * y + x) z) (HZ (cQ s) (s.1 7) m (8 * y + x) z) m w = 0 then 0 else wgt (s.1 16 per) z) 9, v) ∧ trl 588 s v := by
  obtain ⟨hc, hmo, hq, h8, -, -, hth, harm, -, -⟩ := id hs
  have hn := cW_n hc.1
  have hP4 := hs.P4
  obtain ⟨a0, a1⟩ := hc.2.2.2.1 per (by omega) (by omega)
  have har := harm per (by omega) (by omega)
  intro k
  induction k with
  | zero =>
    intro z fuel u h hf hu
    obtain ⟨fuel, rfl⟩ : ∃ g, fuel = g + 1 := ⟨fuel - 1, by omega⟩
    refine ⟨u, ?_, hu⟩
    unfold f264_at35
    rw [if_pos (by omega), show z = 9 by omega]
  | succ k ih =>
    intro z fuel u h hf hu
    obtain ⟨fuel, rfl⟩ : ∃ g, fuel = g + 1 := ⟨fuel - 1, by omega⟩
    obtain ⟨v1, e1, e2, e3⟩ := m_tryR (N := N) (per := per) (x := x) (y := y) (z := z) hN hs hm hx hy (by omega) (by omega) hu
    have ec : ((z : Int) + 1) = ((z + 1 : Nat) : Int) := by omega
    have ih := ih (z + 1) fuel v1 (by omega) (by omega) e2
    have es : sumN (fun z => if soV (TZ (cQ s) (s.1 7) m (8 * y + x) z) (HZ (cQ s) (s.1 7) m (8 * y + x) z) m w = 0 then 0 else wgt (s.1 16 per) z) (z + 1) = sumN (fun z => if soV (TZ (cQ s) (s.1 7) m (8 * y + x) z) (HZ (cQ s) (s.1 7) m (8 * y + x) z) m w = 0 then 0 else wgt (s.1 16 per) z) z + (if soV (TZ (cQ s) (s.1 7) m (8 * y + x) z) (HZ (cQ s) (s.1 7) m (8 * y + x) z) m w = 0 then 0 else wgt (s.1 16 per) z) := rfl
    rw [es] at ih
    have r := sumN_rg (f := fun z => if soV (TZ (cQ s) (s.1 7) m (8 * y + x) z) (HZ (cQ s) (s.1 7) m (8 * y + x) z) m w = 0 then 0 else wgt (s.1 16 per) z) (n := 9) (fun j _ => by
      have := wgt_rg (z := j) a0 a1
      split <;> omega) z (by omega)
    have rw1 := wgt_rg (z := z) a0 a1
    have eT : TZ (cQ s) (s.1 7) m (8 * y + x) z = thrown (cQ s) (s.1 7) m (x + sX z) (y + sY z) := by
      unfold TZ
      rw [show (8 * y + x) % 8 = x by omega, show (8 * y + x) / 8 = y by omega]
    have eH : HZ (cQ s) (s.1 7) m (8 * y + x) z = hitOf (cQ s) (s.1 7) m (x + sX z) (y + sY z) := by
      unfold HZ
      rw [show (8 * y + x) % 8 = x by omega, show (8 * y + x) / 8 = y by omega]
    have eO : oddV (sh 588 (v1.1 78)) (sh 0 (v1.1 78)) m w (v1.1 71 1).toNat = soV (TZ (cQ s) (s.1 7) m (8 * y + x) z) (HZ (cQ s) (s.1 7) m (8 * y + x) z) m w := by
      rw [eT, eH, so_odd hc hm hp hw5, e2.ne (a := 71) (by decide), hth]
      have hp0 : eq8 (sh 0 (v1.1 78)) (s.1 7) := fun j h0 h1 => by
        rw [sh_at, e2.at (by omega)]
        exact h8 j h0 h1
      have eN : (s.1 15 3).toNat = (cQ s).2.2.2.1 := rfl
      unfold oddV
      rw [eN, e3 m (by omega) (by omega), oth_congr _ hn e3 hp0]
    unfold f264_at35 f264_at80
    rw [if_neg (by omega), e1, i_o1_some, m_isOdd hN (e2.OK hmo) (by omega) (by omega), i_o2_some, eO]
    by_cases h2 : soV (TZ (cQ s) (s.1 7) m (8 * y + x) z) (HZ (cQ s) (s.1 7) m (8 * y + x) z) m w = 0
    · rw [if_pos h2, iov_ok (by omega) (by omega), iov_ok (by omega) (by omega), ec]
      rw [if_pos h2] at ih
      exact ih
    · rw [if_neg h2, m_weightOf (by omega) (by omega) (by rw [e2.ne (a := 71) (by decide), har]; exact ⟨a0, a1⟩), i_o2_some, e2.ne (a := 71) (by decide), har, iov_ok (by omega) (by omega), iov_ok (by omega) (by omega), ec]
      rw [if_neg h2] at ih
      exact ih
theorem m_odds_go (hN : 5000 ≤ N) (hs : RS s) {per m : Nat} {x y w : Int} (hper : (per : Int) < s.1 15 0) (hm : m < (cQ s).2.2.2.1) (hp : s.1 7 m = 64) (hx : 0 ≤ x ∧ x < 8) (hy : 0 ≤ y ∧ y < 8) (hw5 : 0 ≤ w ∧ w ≤ 4) :
    ∃ v, f264_at35 N N per m x y w 0 0 s = some (sumN (fun z => if soV (TZ (cQ s) (s.1 7) m (8 * y + x) z) (HZ (cQ s) (s.1 7) m (8 * y + x) z) m w = 0 then 0 else wgt (s.1 16 per) z) 9, v) ∧ trl 588 s v :=
  m_odds_lp hN hs hper hm hp hx hy hw5 9 0 N s (by omega) (by omega) trl.rf
/-- what things in hand are worth behind a change at one of them -/
theorem sumN_one {f g : Nat → Int} {m : Nat} : ∀ n : Nat, m < n → (∀ k, k < n → k ≠ m → f k = g k) → sumN f n = sumN g n + (f m - g m)
  | 0, h, _ => by omega
  | n + 1, h, hk => by
    unfold sumN
    by_cases hmn : m = n
    · subst hmn
      rw [sumN_congr m (fun k hk2 => hk k (by omega) (by omega))]
      omega
    · rw [sumN_one n (by omega) (fun k hk2 hkm => hk k (by omega) hkm), hk n (by omega) (by omega)]
      omega
theorem wIn_gain (hs : CS s) {m : Nat} {x y : Int} (hm : m < (cQ s).2.2.2.1) (hp : s.1 7 m = 64) :
    wIn (thrown (cQ s) (s.1 7) m x y) (s.1 20) (cQ s).2.2.2.1 = wIn (s.1 7) (s.1 20) (cQ s).2.2.2.1 + gnV (s.1 20) (thrown (cQ s) (s.1 7) m x y) (hitOf (cQ s) (s.1 7) m x y) m := by
  obtain ⟨hw, hsc, hV, -, -⟩ := id hs
  have hz64 : zup (s.1 7) m 64 = s.1 7 := zup_eq hp
  have tne : ∀ k : Int, k ≠ m → (0 ≤ hitOf (cQ s) (s.1 7) m x y → k ≠ hitOf (cQ s) (s.1 7) m x y) → thrown (cQ s) (s.1 7) m x y k = s.1 7 k := fun k h1 h2 => thrown_ne h1 (by rw [hz64]; exact h2)
  have ha : 0 ≤ hitOf (cQ s) (s.1 7) m x y → _ := hit_at
  have hr : -1 ≤ hitOf (cQ s) (s.1 7) m x y := (hit_rg (cW_n hw)).1
  generalize hitOf (cQ s) (s.1 7) m x y = h at ha hr tne
  generalize thrown (cQ s) (s.1 7) m x y = T at tne
  unfold wIn gnV
  by_cases g : h = -1
  · have e1 := sumN_one (f := fun k => if T k = 64 then s.1 20 k else 0) (g := fun k => if s.1 7 k = 64 then s.1 20 k else 0) (m := m) _ hm (fun k hk hkm => by
      rw [tne k (by omega) (fun h0 => by omega)])
    rw [hp, if_pos rfl] at e1
    rw [e1, if_pos g]
    split <;> omega
  · obtain ⟨a1, a2, a3, a4, a5, a6, a7⟩ := ha (by omega)
    obtain ⟨j, rfl⟩ := Int.eq_ofNat_of_zero_le (show 0 ≤ h by omega)
    have hj : j < (cQ s).2.2.2.1 := by omega
    have hp8 : (cQ s).1 ≤ 8 := hw.1.2
    have hd8 : (cQ s).2.1 ≤ 8 := hw.2.1.2
    have hpj : s.1 7 j ≠ 64 := by rw [a1]; omega
    have e1 := sumN_one (f := fun k => if T k = 64 then s.1 20 k else 0) (g := fun k => if zup (s.1 7) m (T m) k = 64 then s.1 20 k else 0) (m := j) _ hj (fun k hk hkj => by
      by_cases hkm : k = m
      · subst hkm; rw [zup_same]
      · rw [zup_ne (by omega), tne k (by omega) (fun _ => by omega)])
    have e2 := sumN_one (f := fun k => if zup (s.1 7) m (T m) k = 64 then s.1 20 k else 0) (g := fun k => if s.1 7 k = 64 then s.1 20 k else 0) (m := m) _ hm (fun k hk hkm => by
      rw [zup_ne (by omega)])
    rw [zup_ne (show (j : Int) ≠ m by omega), if_neg hpj] at e1
    rw [zup_same, hp, if_pos rfl] at e2
    rw [e1, e2, if_neg g]
    split <;> split <;> omega
end MODDS

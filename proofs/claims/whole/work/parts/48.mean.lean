/-! Means of what is in hand: the reference; GAIN on both sides. -/
/-- class and reference tell one roof and one yard -/
def RY (s : gI) : Prop := cOK s ∧ mOK s ∧ eqQ (cQ s) (mQ s) ∧ (∀ i, 0 ≤ i → i < 4 → 0 ≤ s.1 16 i ∧ s.1 16 i ≤ 10) ∧ cWo s ∧ s.1 71 0 = s.1 15 0 ∧ (0 ≤ s.1 15 0 ∧ s.1 15 0 ≤ 4) ∧ s.1 71 1 = s.1 15 3 ∧
  (∀ i, 0 ≤ i → i < s.1 15 0 → s.1 71 (10 + i) = s.1 16 i) ∧ (∀ t, 0 ≤ t → t < s.1 15 3 → s.1 71 (14 + 3 * t + 2) = s.1 20 t) ∧ mWo s
def meanV (Q : Cf) (p : Int → Int) (t cell arm : Int) (wo : Int → Int) : Int := sumN (fun z => wgt arm z * wIn (TZ Q p t cell z) wo Q.2.2.2.1) 9
section MEAN
variable {N : Nat} {s u : gI} {p : Int → Int}
theorem RY.P4 (h : RY s) : s.1 15 0 ≤ 4 := h.2.2.2.2.2.2.1.2
theorem RS.ry (h : RS s) : RY s := ⟨h.1.1, h.2.1, h.2.2.1, h.1.2.2.2.1, h.1.2.2.2.2, h.2.2.2.2.1, h.2.2.2.2.2.1, h.2.2.2.2.2.2.1, h.2.2.2.2.2.2.2.1, h.2.2.2.2.2.2.2.2.1, h.2.2.2.2.2.2.2.2.2⟩
theorem m_tryG (hN : 5000 ≤ N) (hs : RY s) (hV : VV (cQ s) p) {a b per x y z : Int} {m : Nat} (h8 : eq8 (sh a (s.1 78)) p) (ha : 0 ≤ a) (hb0 : 0 ≤ b) (hb : b ≤ 680) (ha2 : a ≤ 680) (hd : a + 18 ≤ b ∨ b + 18 ≤ a)
    (hm : m < (cQ s).2.2.2.1) (hx : 0 ≤ x ∧ x < 8) (hy : 0 ≤ y ∧ y < 8) (hz0 : 0 ≤ z) (hz : z ≤ 8) (hu : trl b s u) :
    ∃ v, f262 N a b per m x y z u = some v ∧ trl b s v ∧ eq8 (sh b (v.1 78)) (thrown (cQ s) p m (x + sX z) (y + sY z)) := by
  obtain ⟨hc, hmo, hq, -⟩ := id hs
  have hn := cW_n hc
  obtain ⟨v, e1, e2, e3⟩ := m_try (N := N) (s := s) (u := u) (b := b) hN hmo (a := a) (per := per) (m := m) (x := x) (y := y) (z := z) ha hb0 hb ha2 hd (by omega) hx hy hz0 hz hu
  refine ⟨v, e1, e2, e3.tr ?_⟩
  rw [thrown_eqQ hq hc.1.2 hc.2.1.2 hm hV]
  exact thrown_congr (by rw [← hq.2.2.1]; exact hn) h8 (by omega) (by omega) _ _
theorem wIn_rg {wo : Int → Int} {n : Nat} (hn : n ≤ 8) (hwo : ∀ t, 0 ≤ t → t < 8 → 0 ≤ wo t ∧ wo t ≤ 99) : 0 ≤ wIn p wo n ∧ wIn p wo n ≤ 792 := by
  have := sumN_rg (f := fun k => if p k = 64 then wo k else 0) (n := n) (fun k hk => by
    have := hwo k (by omega) (by omega)
    split <;> omega) n (Nat.le_refl _)
  unfold wIn
  omega
theorem m_worthR (hN : 5000 ≤ N) (hs : RY s) {T : Int → Int} {b : Int} (hb0 : 0 ≤ b) (hb : b ≤ 680) (hu : ∀ a : Nat, a ≠ 78 → u.1 a = s.1 a) (h8 : eq8 (sh b (u.1 78)) T) : f261 N b u = some (wIn T (s.1 20) (cQ s).2.2.2.1, u) := by
  obtain ⟨hc, hmo, hq, -, hwo, -, -, hth, -, hwe, hmw⟩ := id hs
  have hn := cW_n hc
  have e69 := hu 69 (by decide)
  have e71 := hu 71 (by decide)
  rw [m_worth hN (by unfold mOK; rw [e69, e71]; exact hmo) (by unfold mWo; rw [e71]; exact hmw) hb0 (by omega), e71, hth]
  have eN : (s.1 15 3).toNat = (cQ s).2.2.2.1 := rfl
  rw [eN]
  rw [wIn_congr (q := T) (wo2 := s.1 20) (fun k hk => h8 k (by omega) (by omega)) (fun k hk => by
    unfold mwo
    rw [e71]
    have : (cQ s).2.2.2.1 = (s.1 15 3).toNat := rfl
    exact hwe k (by omega) (by omega))]
theorem m_meanOf_lp (hN : 5000 ≤ N) (hs : RY s) (hV : VV (cQ s) p) {a b : Int} {per m : Nat} {cell : Int} (h8 : eq8 (sh a (s.1 78)) p) (ha : 0 ≤ a) (hb0 : 0 ≤ b) (hb : b ≤ 680) (ha2 : a ≤ 680) (hd : a + 18 ≤ b ∨ b + 18 ≤ a)
    (hper : (per : Int) < s.1 15 0) (hm : m < (cQ s).2.2.2.1) (hc0 : 0 ≤ cell) (hc1 : cell < 64) : ∀ (k z fuel : Nat) (u : gI), z + k = 9 → k < fuel → trl b s u →
    ∃ v, f265_at6 N fuel a b per m cell (sumN (fun z => wgt (s.1 16 per) z * wIn (TZ (cQ s) p m cell z) (s.1 20) (cQ s).2.2.2.1) z) z u = some (meanV (cQ s) p m cell (s.1 16 per) (s.1 20), v) ∧ trl b s v := by
  obtain ⟨hc, hmo, hq, har0, hwo, -, -, hth, harm, -, -⟩ := id hs
  have hn := cW_n hc
  have hP4 := hs.P4
  obtain ⟨a0, a1⟩ := har0 per (by omega) (by omega)
  have har := harm per (by omega) (by omega)
  intro k
  induction k with
  | zero =>
    intro z fuel u h hf hu
    obtain ⟨fuel, rfl⟩ : ∃ g, fuel = g + 1 := ⟨fuel - 1, by omega⟩
    refine ⟨u, ?_, hu⟩
    unfold f265_at6
    rw [if_pos (by omega), show z = 9 by omega]
    rfl
  | succ k ih =>
    intro z fuel u h hf hu
    obtain ⟨fuel, rfl⟩ : ∃ g, fuel = g + 1 := ⟨fuel - 1, by omega⟩
    have ec : ((z : Int) + 1) = ((z + 1 : Nat) : Int) := by omega
    have rw1 := wgt_rg (z := z) a0 a1
    have rin : ∀ j : Nat, _ := fun j => wIn_rg (p := TZ (cQ s) p m cell j) (wo := s.1 20) hn hwo
    have rmul : ∀ j : Nat, _ := fun j => mul_rg (wgt_rg (z := j) a0 a1).1 (wgt_rg (z := j) a0 a1).2 (b := wIn (TZ (cQ s) p m cell j) (s.1 20) (cQ s).2.2.2.1) (by have := rin j; omega) (by have := rin j; omega)
    have r := sumN_rgB (f := fun z => wgt (s.1 16 per) z * wIn (TZ (cQ s) p m cell z) (s.1 20) (cQ s).2.2.2.1) (n := 9) (B := 80000) (fun j _ => rmul j) z (by omega)
    have rz := rmul z
    have es : sumN (fun z => wgt (s.1 16 per) z * wIn (TZ (cQ s) p m cell z) (s.1 20) (cQ s).2.2.2.1) (z + 1) = sumN (fun z => wgt (s.1 16 per) z * wIn (TZ (cQ s) p m cell z) (s.1 20) (cQ s).2.2.2.1) z + wgt (s.1 16 per) z * wIn (TZ (cQ s) p m cell z) (s.1 20) (cQ s).2.2.2.1 := rfl
    have ew : ∀ v, trl b s v → f260 N per z v = some (wgt (s.1 16 per) z, v) := fun v hv => by
      rw [m_weightOf (by omega) (by omega) (by rw [hv.ne (a := 71) (by decide), har]; exact ⟨a0, a1⟩), hv.ne (a := 71) (by decide), har]
    unfold f265_at6
    rw [if_neg (by omega), ew u hu, i_o2_some]
    by_cases h2 : wgt (s.1 16 per) z ≤ 0
    · have ih := ih (z + 1) fuel u (by omega) (by omega) hu
      rw [es, show wgt (s.1 16 per) z = 0 by omega, Int.zero_mul, Int.add_zero] at ih
      rw [if_pos h2, iov_ok (by omega) (by omega), ec]
      exact ih
    · obtain ⟨v1, e1, e2, e3⟩ := m_tryG (N := N) (a := a) (b := b) (per := per) (x := cell % 8) (y := cell / 8) (z := z) hN hs hV h8 ha hb0 hb ha2 hd hm (by omega) (by omega) (by omega) (by omega) hu
      have ih := ih (z + 1) fuel v1 (by omega) (by omega) e2
      rw [es] at ih
      rw [if_neg h2, idv_ok hc0 (by decide), idv_ok hc0 (by decide), e1, i_o1_some, ew v1 e2, i_o2_some, m_worthR hN hs hb0 hb (fun a ha => e2.ne ha) e3, i_o2_some]
      have et : wIn (thrown (cQ s) p m (cell % 8 + sX z) (cell / 8 + sY z)) (s.1 20) (cQ s).2.2.2.1 = wIn (TZ (cQ s) p m cell z) (s.1 20) (cQ s).2.2.2.1 := rfl
      rw [et, iov_ok (by omega) (by omega), iov_ok (by omega) (by omega), iov_ok (by omega) (by omega), ec]
      exact ih
theorem m_meanOf (hN : 5000 ≤ N) (hs : RY s) (hV : VV (cQ s) p) {a b : Int} {per m : Nat} {cell : Int} (h8 : eq8 (sh a (s.1 78)) p) (ha : 0 ≤ a) (hb0 : 0 ≤ b) (hb : b ≤ 680) (ha2 : a ≤ 680) (hd : a + 18 ≤ b ∨ b + 18 ≤ a)
    (hper : (per : Int) < s.1 15 0) (hm : m < (cQ s).2.2.2.1) (hc0 : 0 ≤ cell) (hc1 : cell < 64) (hu : trl b s u) :
    ∃ v, f265 N a b per m cell u = some (meanV (cQ s) p m cell (s.1 16 per) (s.1 20), v) ∧ trl b s v :=
  m_meanOf_lp hN hs hV h8 ha hb0 hb ha2 hd hper hm hc0 hc1 9 0 N u (by omega) (by omega) hu
theorem sumN_mul (a g : Nat → Int) (c : Int) : ∀ n, sumN (fun z => a z * (c + g z)) n = c * sumN a n + sumN (fun z => a z * g z) n
  | 0 => by simp [sumN]
  | n + 1 => by
    have ih := sumN_mul a g c n
    unfold sumN
    rw [ih, Int.mul_add, Int.mul_add, Int.mul_comm (a n) c]
    omega
theorem wgt_80 (a : Int) : sumN (fun z : Nat => wgt a z) 9 = 80 := by
  simp only [sumN, wgt]
  simp
  omega
theorem meanV_rg (hs : RY s) {m : Nat} {cell arm : Int} (a0 : 0 ≤ arm) (a1 : arm ≤ 10) : -720000 ≤ meanV (cQ s) p m cell arm (s.1 20) ∧ meanV (cQ s) p m cell arm (s.1 20) ≤ 720000 := by
  have hn := cW_n hs.1
  have rin : ∀ j : Nat, _ := fun j => wIn_rg (p := TZ (cQ s) p m cell j) (wo := s.1 20) hn hs.2.2.2.2.1
  have rmul : ∀ j : Nat, _ := fun j => mul_rg (wgt_rg (z := j) a0 a1).1 (wgt_rg (z := j) a0 a1).2 (b := wIn (TZ (cQ s) p m cell j) (s.1 20) (cQ s).2.2.2.1) (by have := rin j; omega) (by have := rin j; omega)
  have r := sumN_rgB (f := fun z => wgt arm z * wIn (TZ (cQ s) p m cell z) (s.1 20) (cQ s).2.2.2.1) (n := 9) (B := 80000) (fun j _ => rmul j) 9 (by omega)
  unfold meanV
  omega
/-- the mean of what is in hand is what is in hand now and the GAIN -/
theorem mean_gain (hs : CS s) {m : Nat} {cell arm : Int} (hm : m < (cQ s).2.2.2.1) (hp : s.1 7 m = 64) :
    meanV (cQ s) (s.1 7) m cell arm (s.1 20) - 80 * wIn (s.1 7) (s.1 20) (cQ s).2.2.2.1 = sumN (fun z => wgt arm z * gnV (s.1 20) (TZ (cQ s) (s.1 7) m cell z) (HZ (cQ s) (s.1 7) m cell z) m) 9 := by
  have e : meanV (cQ s) (s.1 7) m cell arm (s.1 20) = sumN (fun z => wgt arm z * (wIn (s.1 7) (s.1 20) (cQ s).2.2.2.1 + gnV (s.1 20) (TZ (cQ s) (s.1 7) m cell z) (HZ (cQ s) (s.1 7) m cell z) m)) 9 := by
    unfold meanV
    refine sumN_congr 9 fun z _ => ?_
    have := wIn_gain hs (m := m) (x := cell % 8 + sX z) (y := cell / 8 + sY z) hm hp
    unfold TZ HZ
    rw [this]
  rw [e, sumN_mul, wgt_80]
  omega
end MEAN

/-! Promise 20: alone answered alike. -/
section ALONE
variable {N : Nat} {s v u : gI} {k x a : Int} {A : Option (Int × (Int × Int))}
/-- of how many throws one thing comes to hand -/
def aN (s : gI) (t q T : Int) (n : Nat) : Int := sumN (fun z => if TZ (cQ s) (s.1 7) T (s.1 7 t) z t = 64 then wgt (s.1 16 q) z else 0) n
theorem aN_rg (hs : CS s) {t q T : Int} (q0 : 0 ≤ q ∧ q < 4) {n : Nat} (hn : n ≤ 9) : 0 ≤ aN s t q T n ∧ aN s t q T n ≤ 99 * n := by
  have ar := hs.2.2.2.1 q q0.1 q0.2
  exact sumN_rg (n := 9) (fun z _ => by
    have := wgt_rg (z := z) ar.1 ar.2
    split <;> omega) n hn
theorem c_alone1_lp (hN : 5000 ≤ N) (hs : CS s) {q t T : Nat} (hq : q < 4) (ht : t < 8) (hT : T < (cQ s).2.2.2.1) (hp : s.1 7 T = 64) (c0 : 0 ≤ s.1 7 t) (c1 : s.1 7 t < 64) : ∀ (r z fuel : Nat), z + r = 9 → r < fuel →
    f15_at6 N fuel t q T (s.1 7 t) (aN s t q T z) z s = some (aN s t q T 9, s) := by
  obtain ⟨hw, hsc, hV, ha, hwo⟩ := id hs
  have hn := cW_n hw
  obtain ⟨a0, a1⟩ := ha q (by omega) (by omega)
  intro r
  induction r with
  | zero =>
    intro z fuel h hf
    obtain ⟨fuel, rfl⟩ : ∃ g, fuel = g + 1 := ⟨fuel - 1, by omega⟩
    unfold f15_at6
    rw [if_pos (by omega), show z = 9 by omega]
  | succ r ih =>
    intro z fuel h hf
    obtain ⟨fuel, rfl⟩ : ∃ g, fuel = g + 1 := ⟨fuel - 1, by omega⟩
    have ih := ih (z + 1) fuel (by omega) (by omega)
    have e1 : ((z : Int) + 1) = ((z + 1 : Nat) : Int) := by omega
    have e2 : aN s t q T (z + 1) = aN s t q T z + (if TZ (cQ s) (s.1 7) T (s.1 7 t) z t = 64 then wgt (s.1 16 q) z else 0) := rfl
    have rg := aN_rg (t := t) (q := q) (T := T) hs ⟨by omega, by omega⟩ (show z ≤ 9 by omega)
    have rx := sX_rg (z := z) (by omega) (by omega)
    have ry := sY_rg (z := z) (by omega) (by omega)
    have l1 := c_land (N := N) (s := s) (p := s.1 7) (m := T) (x := s.1 7 t % 8 + sX z) (y := s.1 7 t / 8 + sY z) hN hw hV hT hp (by omega) (by omega)
    rw [CS_self hs] at l1
    have l2 := c_takeBack (N := N) (s := s) (p := s.1 7) (m := T) (x := s.1 7 t % 8 + sX z) (y := s.1 7 t / 8 + sY z) hw hV hT hp (by omega) (by omega)
    rw [CS_self hs] at l2
    have eT : TZ (cQ s) (s.1 7) T (s.1 7 t) z = thrown (cQ s) (s.1 7) T (s.1 7 t % 8 + sX z) (s.1 7 t / 8 + sY z) := rfl
    unfold f15_at6
    rw [if_neg (by omega), idv_ok (by omega) (by decide), ick_ok (by omega) (by omega), i_slipX (by omega) (by omega), iov_ok (by omega) (by omega)]
    dsimp only
    rw [idv_ok (by omega) (by decide), ick_ok (by omega) (by omega), i_slipY (by omega) (by omega), iov_ok (by omega) (by omega), l1, i_o2_some, ick_ok (by omega) (by omega), cst_7, ← eT]
    unfold f15_at91
    by_cases h2 : TZ (cQ s) (s.1 7) T (s.1 7 t) z t = 64
    · have rw1 := wgt_rg (z := z) a0 a1
      rw [if_pos h2, ick_ok (by omega) (by omega), cst_ne (by decide) (by decide), c_weight a0 a1, i_o2_some, iov_ok (by omega) (by omega), eT, l2, i_o1_some, iov_ok (by omega) (by omega), e1]
      rw [e2, if_pos h2] at ih
      exact ih
    · rw [if_neg h2, eT, l2, i_o1_some, iov_ok (by omega) (by omega), e1]
      rw [e2, if_neg h2, Int.add_zero] at ih
      exact ih
theorem c_alone1 (hN : 5000 ≤ N) (hs : CS s) (h : nx s v) {q t T : Nat} (hq : q < 4) (ht : t < 8) (hT : T < (cQ s).2.2.2.1) (hp : s.1 7 T = 64) (c0 : 0 ≤ s.1 7 t) (c1 : s.1 7 t < 64) : f15 N t q T (s.1 7 t) v = some (aN s t q T 9, v) := by
  have e7 := h.1 7 (by omega)
  have e16 := h.1 16 (by omega)
  have eQ := nx_Q h
  have := c_alone1_lp (N := N) (s := v) (q := q) (t := t) (T := T) hN (nx_CS h hs) hq ht (by rw [eQ]; exact hT) (by rw [e7]; exact hp) (by rw [e7]; exact c0) (by rw [e7]; exact c1) 9 0 N (by decide) (by omega)
  have en : ∀ n, aN v t q T n = aN s t q T n := fun n => by unfold aN; rw [eQ, e7, e16]
  rw [en, en, e7] at this
  exact this
def alT (s : gI) (t q : Int) : Nat → Int → Option (Int × (Int × Int)) → Option (Int × (Int × Int))
  | 0, _, a => a
  | r + 1, T, a => alT s t q r (T + 1) (if s.1 7 T = 64 then up1 a (aN s t q T 9) (q, T) else a)
def alP (s : gI) (t : Int) : Nat → Int → Option (Int × (Int × Int)) → Option (Int × (Int × Int))
  | 0, _, a => a
  | r + 1, q, a => alP s t r (q + 1) (alT s t q (s.1 15 3).toNat 0 a)
def relB (A : Option (Int × (Int × Int))) (v : gI) : Prop := match A with
  | none => v.1 32 7 = -1
  | some b => v.1 32 7 = b.1 ∧ v.1 32 8 = b.2.1 ∧ v.1 32 9 = b.2.2 ∧ 0 ≤ b.1
theorem c_alT_lp {f : Int → Int → Int → gI → Option gI} (hN : 5000 ≤ N) (hs : CS s) {q t : Nat} (hq : q < 4) (ht : t < 8) (c0 : 0 ≤ s.1 7 t) (c1 : s.1 7 t < 64) : ∀ (r fuel T : Nat) (A : Option (Int × (Int × Int))) (v : gI), r < fuel → T + r = (cQ s).2.2.2.1 → nx s v → relB A v →
    ∃ v2, f14_at34 N f fuel t (s.1 7 t) q T v = f t (s.1 7 t) (q + 1) v2 ∧ nx s v2 ∧ relB (alT s t q r T A) v2 := by
  have hn := cW_n hs.1
  have hn0 := hs.1.2.2.1
  have en : (cQ s).2.2.2.1 = (s.1 15 3).toNat := rfl
  intro r
  induction r with
  | zero =>
    intro fuel T A v hf e h hr
    obtain ⟨fuel, rfl⟩ : ∃ g, fuel = g + 1 := ⟨fuel - 1, by omega⟩
    refine ⟨v, ?_, h, hr⟩
    unfold f14_at34
    rw [h.1 15 (by omega), if_pos (by omega), iov_ok (by omega) (by omega)]
  | succ r ih =>
    intro fuel T A v hf e h hr
    obtain ⟨fuel, rfl⟩ : ∃ g, fuel = g + 1 := ⟨fuel - 1, by omega⟩
    have c : ((T + 1 : Nat) : Int) = (T : Int) + 1 := by omega
    unfold f14_at34 alT
    rw [h.1 15 (by omega), if_neg (by omega), ick_ok (by omega) (by omega), h.1 7 (by omega)]
    by_cases g : s.1 7 T = 64
    rotate_left
    · rw [if_neg g, iov_ok (by omega) (by omega), if_neg g, ← c]
      exact ih fuel (T + 1) A v (by omega) (by omega) h hr
    have rg := aN_rg (t := t) (q := q) (T := T) hs ⟨by omega, by omega⟩ (Nat.le_refl 9)
    rw [if_pos g, if_pos g, c_alone1 hN hs h hq ht (by omega) g c0 c1, i_o2_some]
    have new : ∃ v2, (iov ((T : Int) + 1) <| f14_at34 N f fuel t (s.1 7 t) q ((T : Int) + 1) (iw (iw (iw v 32 7 (aN s t q T 9)) 32 8 q) 32 9 T)) = f t (s.1 7 t) (q + 1) v2 ∧ nx s v2 ∧ relB (alT s t q r (T + 1) (some (aN s t q T 9, ((q : Int), (T : Int))))) v2 := by
      rw [iov_ok (by omega) (by omega), ← c]
      refine ih fuel (T + 1) _ _ (by omega) (by omega) (nx_w (by omega) (nx_w (by omega) (nx_w (by omega) h))) ?_
      refine ⟨?_, ?_, ?_, rg.1⟩
      · rw [iw_at, zup_ne (by decide), iw_at, zup_ne (by decide), iw_at, zup_same]
      · rw [iw_at, zup_ne (by decide), iw_at, zup_same]
      · rw [iw_at, zup_same]
    cases hA : A with
    | none =>
      rw [hA] at hr
      have hr : v.1 32 7 = -1 := hr
      rw [hr, if_neg (by omega)]
      exact new
    | some b =>
      rw [hA] at hr
      obtain ⟨r1, r2, r3, r4⟩ := hr
      by_cases g2 : aN s t q T 9 ≤ b.1
      · have eu : up1 (some b) (aN s t q T 9) ((q : Int), (T : Int)) = some b := if_pos g2
        rw [r1, if_pos g2, iov_ok (by omega) (by omega), eu, ← c]
        exact ih fuel (T + 1) (some b) v (by omega) (by omega) h ⟨r1, r2, r3, r4⟩
      · have eu : up1 (some b) (aN s t q T 9) ((q : Int), (T : Int)) = some (aN s t q T 9, ((q : Int), (T : Int))) := if_neg g2
        rw [r1, if_neg g2, eu]
        exact new
theorem c_alP_lp (hN : 5000 ≤ N) (hs : CS s) (hP : s.1 15 0 ≤ 4) {t : Nat} (ht : t < 8) (c0 : 0 ≤ s.1 7 t) (c1 : s.1 7 t < 64) : ∀ (r fuel q : Nat) (A : Option (Int × (Int × Int))) (v : gI), r < fuel → (q : Int) + r = s.1 15 0 → nx s v → relB A v →
    ∃ v2, f14_at17 N fuel t (s.1 7 t) q v = some v2 ∧ nx s v2 ∧ relB (alP s t r q A) v2 := by
  have hn := cW_n hs.1
  intro r
  induction r with
  | zero =>
    intro fuel q A v hf e h hr
    obtain ⟨fuel, rfl⟩ : ∃ g, fuel = g + 1 := ⟨fuel - 1, by omega⟩
    refine ⟨v, ?_, h, hr⟩
    unfold f14_at17
    rw [h.1 15 (by omega), if_pos (by omega)]
  | succ r ih =>
    intro fuel q A v hf e h hr
    obtain ⟨fuel, rfl⟩ : ∃ g, fuel = g + 1 := ⟨fuel - 1, by omega⟩
    have c : ((q + 1 : Nat) : Int) = (q : Int) + 1 := by omega
    obtain ⟨v1, k1, k2, k3⟩ := c_alT_lp (N := N) (f := f14_at17 N fuel) hN hs (by omega : q < 4) ht c0 c1 (cQ s).2.2.2.1 N 0 A v (by omega) (by omega) h hr
    obtain ⟨v2, l1, l2, l3⟩ := ih fuel (q + 1) _ v1 (by omega) (by omega) k2 k3
    refine ⟨v2, ?_, l2, ?_⟩
    · unfold f14_at17
      have k1' : f14_at34 N (f14_at17 N fuel) N t (s.1 7 t) q 0 v = _ := k1
      rw [h.1 15 (by omega), if_neg (by omega), k1', ← c]
      exact l1
    · unfold alP
      rw [← c]
      exact l3
theorem alT_some {t q : Int} : ∀ (r : Nat) (T : Int) (b : Int × (Int × Int)), ∃ b', alT s t q r T (some b) = some b'
  | 0, _, b => ⟨b, rfl⟩
  | r + 1, T, b => by
    unfold alT
    split
    · obtain ⟨b2, h⟩ := up1_some (a := some b) (g := aN s t q T 9) (x := (q, T))
      rw [h]
      exact alT_some r _ b2
    · exact alT_some r _ b
theorem alT_any {t q : Int} : ∀ (r : Nat) (T : Int) (A : Option (Int × (Int × Int))), (∃ j : Nat, j < r ∧ s.1 7 (T + j) = 64) → ∃ b', alT s t q r T A = some b'
  | 0, _, _, ⟨j, hj, _⟩ => by omega
  | r + 1, T, A, ⟨j, hj, hp⟩ => by
    unfold alT
    by_cases g : s.1 7 T = 64
    · obtain ⟨b2, h⟩ := up1_some (a := A) (g := aN s t q T 9) (x := (q, T))
      rw [if_pos g, h]
      exact alT_some r _ b2
    · rw [if_neg g]
      have : j ≠ 0 := fun e => by
        subst e
        have e0 : T + ((0 : Nat) : Int) = T := Int.add_zero T
        rw [e0] at hp
        exact g hp
      exact alT_any r (T + 1) A ⟨j - 1, by omega, by rw [show T + 1 + ((j - 1 : Nat) : Int) = T + j by omega]; exact hp⟩
theorem alP_some {t : Int} : ∀ (r : Nat) (q : Int) (b : Int × (Int × Int)), ∃ b', alP s t r q (some b) = some b'
  | 0, _, b => ⟨b, rfl⟩
  | r + 1, q, b => by
    unfold alP
    obtain ⟨b2, h⟩ := alT_some (s := s) (t := t) (q := q) (s.1 15 3).toNat 0 b
    rw [h]
    exact alP_some r _ b2
theorem alP_any {t : Int} (hm : mayN s) : ∃ b, alP s t (s.1 15 0).toNat 0 none = some b := by
  obtain ⟨r, hr⟩ : ∃ r, (s.1 15 0).toNat = r + 1 := ⟨(s.1 15 0).toNat - 1, by have := hm.1; omega⟩
  rw [hr]
  unfold alP
  obtain ⟨j, h1, h2⟩ := inH_any _ hm.2
  obtain ⟨b, hb⟩ := alT_any (s := s) (t := t) (q := 0) (s.1 15 3).toNat 0 none ⟨j, h1, by rw [Int.zero_add]; exact h2⟩
  rw [hb]
  exact alP_some _ _ _
-- the reference
def mB1 (A : Option (Int × (Int × Int))) : Int := match A with
  | none => -1
  | some b => b.1
def mB2 (A : Option (Int × (Int × Int))) : Int := match A with
  | none => 0
  | some b => b.2.1
def mB3 (A : Option (Int × (Int × Int))) : Int := match A with
  | none => 0
  | some b => b.2.2
theorem mB_up {g q T : Int} (h : -1 ≤ mB1 A) (g0 : 0 ≤ g) : up1 A g (q, T) = if g ≤ mB1 A then A else some (g, (q, T)) := by
  cases A with
  | none => exact (if_neg (by show ¬ g ≤ -1; omega)).symm
  | some b => rfl
theorem m_aN_lp {f : Int → Int → Int → Int → Int → Int → Int → gI → Option (Int × gI)} (hN : 5000 ≤ N) (hs : RS s) {q t T : Nat} (hq : (q : Int) < s.1 15 0) (ht : t < 8) (hT : T < (cQ s).2.2.2.1) (c0 : 0 ≤ s.1 7 t) (c1 : s.1 7 t < 64) (b1 b2 b3 : Int) : ∀ (r z fuel : Nat) (v : gI), z + r = 9 → r < fuel → trl 588 s v →
    ∃ v2, f272_at104 N f fuel t a b1 b2 b3 q T (aN s t q T z) z v = f272_at186 N f t a b1 b2 b3 q T (aN s t q T 9) v2 ∧ trl 588 s v2 := by
  obtain ⟨hw, -, hV, har, -⟩ := id hs.1
  have hn := cW_n hw
  have e8 := hs.2.2.2.1
  have hP4 := hs.P4
  obtain ⟨a0, a1⟩ := har q (by omega) (by omega)
  have harm := hs.2.2.2.2.2.2.2.1 q (by omega) (by omega)
  intro r
  induction r with
  | zero =>
    intro z fuel v h hf hv
    obtain ⟨fuel, rfl⟩ : ∃ g, fuel = g + 1 := ⟨fuel - 1, by omega⟩
    refine ⟨v, ?_, hv⟩
    unfold f272_at104
    rw [if_pos (by omega), show z = 9 by omega]
  | succ r ih =>
    intro z fuel v h hf hv
    obtain ⟨fuel, rfl⟩ : ∃ g, fuel = g + 1 := ⟨fuel - 1, by omega⟩
    have e1 : ((z : Int) + 1) = ((z + 1 : Nat) : Int) := by omega
    have e2 : aN s t q T (z + 1) = aN s t q T z + (if TZ (cQ s) (s.1 7) T (s.1 7 t) z t = 64 then wgt (s.1 16 q) z else 0) := rfl
    have rg := aN_rg (t := t) (q := q) (T := T) hs.1 ⟨by omega, by omega⟩ (show z ≤ 9 by omega)
    have h78 : v.1 78 t = s.1 7 t := by
      rw [hv.at (by omega)]
      have := e8 t (by omega) (by omega)
      rw [sh_at, Int.zero_add] at this
      exact this
    obtain ⟨v1, m1, m2, m3⟩ := m_tryG (N := N) (s := s) (u := v) (p := s.1 7) (a := 0) (b := 588) (per := q) (x := s.1 7 t % 8) (y := s.1 7 t / 8) (z := z) (m := T) hN hs.ry hV e8 (by decide) (by decide) (by decide) (by decide) (Or.inl (by decide)) hT (by omega) (by omega) (by omega) (by omega) hv
    obtain ⟨v2, l1, l2⟩ := ih (z + 1) fuel v1 (by omega) (by omega) m2
    have ev : v1.1 78 (588 + t) = TZ (cQ s) (s.1 7) T (s.1 7 t) z t := by
      have := m3 t (by omega) (by omega)
      rw [sh_at] at this
      exact this
    have e71 : v1.1 71 = s.1 71 := m2.ne (by decide)
    refine ⟨v2, ?_, l2⟩
    unfold f272_at104
    rw [if_neg (by omega), if_neg (by omega), ick_ok (by omega) (by omega), h78, idv_ok (by omega) (by decide), ick_ok (by omega) (by omega), idv_ok (by omega) (by decide), m1, i_o1_some, iov_ok (by omega) (by omega), ick_ok (by omega) (by omega), ev]
    unfold f272_at177
    by_cases g : TZ (cQ s) (s.1 7) T (s.1 7 t) z t = 64
    · have rw1 := wgt_rg (z := z) a0 a1
      rw [e2, if_pos g] at l1
      rw [if_pos g, m_weightOf (by omega) (by omega) (by rw [e71, harm]; exact ⟨a0, a1⟩), i_o2_some, e71, harm, iov_ok (by omega) (by omega), iov_ok (by omega) (by omega), e1]
      exact l1
    · rw [e2, if_neg g, Int.add_zero] at l1
      rw [if_neg g, Int.add_zero, iov_ok (by omega) (by omega), iov_ok (by omega) (by omega), e1]
      exact l1
theorem m_alT_lp {f : Int → Int → Int → Int → Int → Int → gI → Option (Int × gI)} (hN : 5000 ≤ N) (hs : RS s) {q t : Nat} (hq : (q : Int) < s.1 15 0) (ht : t < 8) (c0 : 0 ≤ s.1 7 t) (c1 : s.1 7 t < 64) : ∀ (r fuel T : Nat) (A : Option (Int × (Int × Int))) (v : gI), r < fuel → T + r = (cQ s).2.2.2.1 → trl 588 s v → -1 ≤ mB1 A →
    ∃ v2, f272_at73 N f fuel t a (mB1 A) (mB2 A) (mB3 A) q T v = f t a (mB1 (alT s t q r T A)) (mB2 (alT s t q r T A)) (mB3 (alT s t q r T A)) (q + 1) v2 ∧ trl 588 s v2 ∧ -1 ≤ mB1 (alT s t q r T A) := by
  have hP4 := hs.P4
  have hn := cW_n hs.1.1
  have hn0 := hs.1.1.2.2.1
  have en : (cQ s).2.2.2.1 = (s.1 15 3).toNat := rfl
  have e3 : s.1 71 1 = s.1 15 3 := hs.2.2.2.2.2.2.1
  have e8 := hs.2.2.2.1
  intro r
  induction r with
  | zero =>
    intro fuel T A v hf e hv hA
    obtain ⟨fuel, rfl⟩ : ∃ g, fuel = g + 1 := ⟨fuel - 1, by omega⟩
    refine ⟨v, ?_, hv, hA⟩
    unfold f272_at73
    rw [m_things, i_o2_some, hv.ne (by decide), e3, if_pos (by omega), iov_ok (by omega) (by omega)]
    rfl
  | succ r ih =>
    intro fuel T A v hf e hv hA
    obtain ⟨fuel, rfl⟩ : ∃ g, fuel = g + 1 := ⟨fuel - 1, by omega⟩
    have c : ((T + 1 : Nat) : Int) = (T : Int) + 1 := by omega
    have h78 : v.1 78 T = s.1 7 T := by
      rw [hv.at (by omega)]
      have := e8 T (by omega) (by omega)
      rw [sh_at, Int.zero_add] at this
      exact this
    unfold f272_at73 alT
    rw [m_things, i_o2_some, hv.ne (by decide), e3, if_neg (by omega), ick_ok (by omega) (by omega), h78]
    by_cases g : s.1 7 T = 64
    rotate_left
    · obtain ⟨F, rfl⟩ : ∃ F, N = F + 1 := ⟨N - 1, by omega⟩
      rw [if_neg g, if_neg g]
      have e104 : f272_at104 (F + 1) (f272_at73 (F + 1) f fuel) (F + 1) t a (mB1 A) (mB2 A) (mB3 A) q T (-1) 0 v = f272_at73 (F + 1) f fuel t a (mB1 A) (mB2 A) (mB3 A) q (T + 1) v := by
        unfold f272_at104 f272_at186
        rw [if_neg (by decide), if_pos (by decide), if_pos hA, iov_ok (by omega) (by omega)]
      rw [e104, ← c]
      exact ih fuel (T + 1) A v (by omega) (by omega) hv hA
    have rg := aN_rg (t := t) (q := q) (T := T) hs.1 ⟨by omega, by omega⟩ (Nat.le_refl 9)
    obtain ⟨v1, k1, k2⟩ := m_aN_lp (N := N) (a := a) (f := f272_at73 N f fuel) hN hs hq ht (by omega : T < (cQ s).2.2.2.1) c0 c1 (mB1 A) (mB2 A) (mB3 A) 9 0 N v (by decide) (by omega) hv
    have k1' : f272_at104 N (f272_at73 N f fuel) N t a (mB1 A) (mB2 A) (mB3 A) q T 0 0 v = f272_at186 N (f272_at73 N f fuel) t a (mB1 A) (mB2 A) (mB3 A) q T (aN s t q T 9) v1 := k1
    rw [if_pos g, if_pos g, k1', mB_up hA rg.1]
    unfold f272_at186
    by_cases g2 : aN s t q T 9 ≤ mB1 A
    · rw [if_pos g2, if_pos g2, iov_ok (by omega) (by omega), ← c]
      exact ih fuel (T + 1) A v1 (by omega) (by omega) k2 hA
    · rw [if_neg g2, if_neg g2, iov_ok (by omega) (by omega), ← c]
      exact ih fuel (T + 1) (some (aN s t q T 9, ((q : Int), (T : Int)))) v1 (by omega) (by omega) k2 (by show -1 ≤ aN s t q T 9; omega)
theorem m_alP_lp (hN : 5000 ≤ N) (hs : RS s) {t : Nat} (ht : t < 8) (c0 : 0 ≤ s.1 7 t) (c1 : s.1 7 t < 64) : ∀ (r fuel q : Nat) (A : Option (Int × (Int × Int))) (v : gI), r < fuel → (q : Int) + r = s.1 15 0 → trl 588 s v → -1 ≤ mB1 A →
    ∃ v2, f272_at61 N fuel t a (mB1 A) (mB2 A) (mB3 A) q v = some (if a = 0 then mB1 (alP s t r q A) else if a = 1 then mB2 (alP s t r q A) else mB3 (alP s t r q A), v2) ∧ trl 588 s v2 := by
  have hP := hs.2.2.2.2.2.1
  have e2 : s.1 71 0 = s.1 15 0 := hs.2.2.2.2.1
  have hn := cW_n hs.1.1
  intro r
  induction r with
  | zero =>
    intro fuel q A v hf e hv hA
    obtain ⟨fuel, rfl⟩ : ∃ g, fuel = g + 1 := ⟨fuel - 1, by omega⟩
    refine ⟨v, ?_, hv⟩
    unfold f272_at61 alP
    rw [m_people, i_o2_some, hv.ne (by decide), e2, if_pos (by omega)]
    by_cases g0 : a = 0
    · rw [if_pos g0, if_pos g0]
    rw [if_neg g0, if_neg g0]
    by_cases g1 : a = 1
    · rw [if_pos g1, if_pos g1]
    · rw [if_neg g1, if_neg g1]
  | succ r ih =>
    intro fuel q A v hf e hv hA
    obtain ⟨fuel, rfl⟩ : ∃ g, fuel = g + 1 := ⟨fuel - 1, by omega⟩
    have c : ((q + 1 : Nat) : Int) = (q : Int) + 1 := by omega
    obtain ⟨v1, k1, k2, k3⟩ := m_alT_lp (N := N) (a := a) (f := f272_at61 N fuel) hN hs (by omega : (q : Int) < s.1 15 0) ht c0 c1 (cQ s).2.2.2.1 N 0 A v (by omega) (by omega) hv hA
    obtain ⟨v2, l1, l2⟩ := ih fuel (q + 1) _ v1 (by omega) (by omega) k2 k3
    refine ⟨v2, ?_, l2⟩
    unfold f272_at61 alP
    have k1' : f272_at73 N (f272_at61 N fuel) N t a (mB1 A) (mB2 A) (mB3 A) q 0 v = _ := k1
    rw [m_people, i_o2_some, hv.ne (by decide), e2, if_neg (by omega), k1', ← c]
    exact l1
theorem q_alone (hN : 5000 ≤ N) (hI : INV k s) {t : Int} : OKc k s (f152 N t a) (f272 N t a) := by
  obtain ⟨e0, e1, e2, e3, e4⟩ := INV_eq hI
  have hs := hI.1
  have hw := hI.1.1.1
  have hP4 := hI.1.2.2.2.2.2.1
  have hn0 := hw.2.2.1
  have hn := cW_n hw
  have en : (cQ s).2.2.2.1 = (s.1 15 3).toNat := rfl
  by_cases h1 : 0 ≤ t ∧ t < s.1 15 3
  rotate_left
  · refine OKc.q hI (x := -1) (s1 := s) (s2 := iw s 63 0 0) ?_ ?_ sameQ_thrown
    · unfold f152
      rw [c_isThing, i_o2_some, if_neg h1, if_pos rfl]
    · unfold f272
      dsimp only
      rw [m_isThing, i_o2_some, iw63 (by decide), e3, if_neg h1, if_pos rfl]
  have m78 : (iw s 63 0 0).1 78 t = s.1 7 t := by rw [iw63 (by decide)]; exact e4 t h1.1 (by omega)
  by_cases h2 : 64 ≤ s.1 7 t
  · refine OKc.q hI (x := -1) (s1 := s) (s2 := iw s 63 0 0) ?_ ?_ sameQ_thrown
    · unfold f152
      rw [c_isThing, i_o2_some, if_pos h1, if_neg (by decide), ick_ok (by omega) (by omega), if_pos h2]
    · unfold f272
      dsimp only
      rw [m_isThing, i_o2_some, iw63 (by decide), e3, if_pos h1, if_neg (by decide), ick_ok (by omega) (by omega), m78, if_pos h2]
  have pre : ∀ v : gI, v.1 71 = s.1 71 → v.1 78 t = s.1 7 t → f272 N t a v = i_o2 (f189 N a 0 2 (iw v 63 0 0)) fun i5 s4 => if i5 = 0 then some (-1, s4) else i_o2 (f220 N s4) fun i7 s6 => if i7 = 0 then some (-1, s6) else i_o2 (f267 N 0 s6) fun i9 s8 => if i9 = 0 then some (-1, s8) else f272_at61 N N t a (-1) 0 0 0 s8 := fun v v71 v78 => by
    unfold f272
    dsimp only
    rw [m_isThing, i_o2_some, iw63 (by decide), v71, e3, if_pos h1, if_neg (by decide), ick_ok (by omega) (by omega), iw63 (by decide), v78, if_neg h2]
  have c7 : 0 ≤ s.1 7 t := by
    have := okq_rg (hs.1.2.2.1 t.toNat (by omega))
    rw [show ((t.toNat : Nat) : Int) = t by omega] at this
    omega
  -- how many are in hand, as the reference counts
  have mh : ∀ v : gI, sameQ s v → f267 N 0 v = some (inH (s.1 7) (s.1 15 3).toNat, v) := fun v hv => by
    have := m_inHand (N := N) (s := v) hN (sameQ_inv hv hI).1.2.1 (b := 0) (by decide) (by decide)
    rw [this, hv.1 71 (by omega), e3]
    congr 2
    refine inH_congr fun j hj => ?_
    rw [sh_at, Int.zero_add, hv.2.2.2.2.1 _ (by omega)]
    exact e4 j (by omega) (by omega)
  have rH := inH_rg (p := s.1 7) (s.1 15 3).toNat
  by_cases h3 : mayN s
  rotate_left
  · refine OKc.q hI (x := -1) (s1 := s) (s2 := iw s 63 0 0) ?_ ?_ sameQ_thrown
    · unfold f152
      rw [c_isThing, i_o2_some, if_pos h1, if_neg (by decide), ick_ok (by omega) (by omega), if_neg h2, (c_mayN hN hw).2 h3, i_o2_some, if_pos rfl]
    · rw [pre s rfl (e4 t h1.1 (by omega)), m_within, i_o2_some]
      by_cases ha : 0 ≤ a ∧ a ≤ 2
      rotate_left
      · rw [if_neg ha, if_pos rfl]
      rw [if_pos ha, if_neg (by decide), m_people, i_o2_some, iw63 (by decide), e2]
      by_cases hp : s.1 15 0 = 0
      · rw [if_pos hp]
      rw [if_neg hp, mh _ sameQ_thrown, i_o2_some, if_pos (by
        by_cases q : inH (s.1 7) (s.1 15 3).toNat = 0
        · exact q
        · exact absurd ⟨by omega, by omega⟩ h3)]
  obtain ⟨T, rfl⟩ := Int.eq_ofNat_of_zero_le h1.1
  -- the class chooses
  obtain ⟨vc, k1, k2, k3⟩ := c_alP_lp (N := N) (t := T) hN hs.1 hP4.2 (by omega) c7 (by omega) (s.1 15 0).toNat N 0 none (iw s 32 7 (-1)) (by omega) (by omega) (nx_w (by omega) nx.rf) (by show (iw s 32 7 (-1)).1 32 7 = -1; rw [iw_at, zup_same])
  obtain ⟨b, hb⟩ := alP_any (t := T) h3
  have hb' : alP s T (s.1 15 0).toNat ((0 : Nat) : Int) none = some b := hb
  rw [hb'] at k3
  obtain ⟨r1, r2, r3, -⟩ := k3
  have c14 : f14 N T s = some vc := by
    unfold f14
    dsimp only
    rw [ick_ok (by omega) (by omega), iw_ne (by decide)]
    exact k1
  have cfin : f152 N T a s = some (if a = 0 then b.1 else if a = 1 then b.2.1 else if a = 2 then b.2.2 else -1, vc) := by
    unfold f152
    rw [c_isThing, i_o2_some, if_pos h1, if_neg (by decide), ick_ok (by omega) (by omega), if_neg h2, (c_mayN hN hw).1 h3, i_o2_some, if_neg (by decide), c14, i_o1_some, r1, r2, r3]
    by_cases g0 : a = 0
    · rw [if_pos g0, if_pos g0]
    rw [if_neg g0, if_neg g0]
    by_cases g1 : a = 1
    · rw [if_pos g1, if_pos g1]
    rw [if_neg g1, if_neg g1]
    by_cases g2 : a = 2
    · rw [if_pos g2, if_pos g2]
    · rw [if_neg g2, if_neg g2]
  have qc : sameQ s vc := ⟨fun a ha => k2.1 a (by omega), by rw [k2.1 1 (by omega)], by rw [k2.1 63 (by omega)], by rw [k2.1 63 (by omega)], fun j _ => by rw [k2.1 78 (by omega)], by rw [k2.2]⟩
  have q1 : sameQ s (iw vc 63 0 0) := qc.tr sameQ_thrown
  have pre2 := pre vc (k2.1 71 (by omega)) (by rw [k2.1 78 (by omega)]; exact e4 T h1.1 (by omega))
  by_cases ha : 0 ≤ a ∧ a ≤ 2
  rotate_left
  · refine OKc.q hI cfin (s2 := iw vc 63 0 0) ?_ q1
    rw [pre2, m_within, i_o2_some, if_neg ha, if_pos rfl, if_neg (by omega), if_neg (by omega), if_neg (by omega)]
  have hs1 := (sameQ_inv q1 hI).1
  have e7 : (iw vc 63 0 0).1 7 = s.1 7 := q1.1 7 (by omega)
  have e15 : (iw vc 63 0 0).1 15 = s.1 15 := q1.1 15 (by omega)
  have e16 : (iw vc 63 0 0).1 16 = s.1 16 := q1.1 16 (by omega)
  have eQ := sameQ_cQ q1
  have eaN : ∀ t q T n, aN (iw vc 63 0 0) t q T n = aN s t q T n := fun t q T n => by unfold aN; rw [eQ, e7, e16]
  have eT : ∀ (t q : Int) (r : Nat) (T : Int) (A : Option (Int × (Int × Int))), alT (iw vc 63 0 0) t q r T A = alT s t q r T A := by
    intro t q r
    induction r with
    | zero => intro T A; rfl
    | succ r ih =>
      intro T A
      unfold alT
      rw [e7, eaN, ih]
  have eP : ∀ (t : Int) (r : Nat) (q : Int) (A : Option (Int × (Int × Int))), alP (iw vc 63 0 0) t r q A = alP s t r q A := by
    intro t r
    induction r with
    | zero => intro q A; rfl
    | succ r ih =>
      intro q A
      unfold alP
      rw [e15, eT, ih]
  obtain ⟨v2, m1, m2⟩ := m_alP_lp (N := N) (s := iw vc 63 0 0) (a := a) (t := T) hN hs1 (by omega) (by rw [e7]; exact c7) (by rw [e7]; omega) (s.1 15 0).toNat N 0 none (iw vc 63 0 0) (by omega) (by rw [e15]; omega) trl.rf (by show (-1 : Int) ≤ -1; decide)
  rw [eP, hb'] at m1
  have m1' : f272_at61 N N T a (-1) 0 0 0 (iw vc 63 0 0) = some (if a = 0 then b.1 else if a = 1 then b.2.1 else b.2.2, v2) := m1
  refine OKc.q hI cfin (s2 := v2) ?_ (q1.tr (sameQ_trl (by decide) m2))
  rw [pre2, m_within, i_o2_some, if_pos ha, if_neg (by decide), m_people, i_o2_some, iw63 (by decide), k2.1 71 (by omega), e2, if_neg (by have := h3.1; omega), mh _ q1, i_o2_some, if_neg (by have := h3.2; omega), m1']
  by_cases g0 : a = 0
  · rw [if_pos g0, if_pos g0]
  rw [if_neg g0, if_neg g0]
  by_cases g1 : a = 1
  · rw [if_pos g1, if_pos g1]
  · rw [if_neg g1, if_neg g1, if_pos (by omega)]
end ALONE

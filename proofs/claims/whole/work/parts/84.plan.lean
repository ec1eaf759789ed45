/-! Promise 19: plan answered alike. -/
section PLAN
variable {N : Nat} {s v u : gI} {k x a : Int} {P : Int → Int}
def m2g (s : gI) : Int → Int → Int → Int := fun q t c => sumN (fun z => wgt (s.1 16 q) z * m1 s (TZ (cQ s) (s.1 7) t c z)) 9
def m2 (s : gI) : Int := mxQ (m2g s) (s.1 7) (s.1 15 3).toNat (s.1 15 0).toNat 0 (80 * m1 s (s.1 7))
theorem meanV_rg' {p : Int → Int} (hs : CS s) {m c arm : Int} (a0 : 0 ≤ arm) (a1 : arm ≤ 10) : -720000 ≤ meanV (cQ s) p m c arm (s.1 20) ∧ meanV (cQ s) p m c arm (s.1 20) ≤ 720000 := by
  have hn := cW_n hs.1
  have rin : ∀ j : Nat, _ := fun j => wIn_rg (p := TZ (cQ s) p m c j) (wo := s.1 20) hn hs.2.2.2.2
  have rmul : ∀ j : Nat, _ := fun j => mul_rg (wgt_rg (z := j) a0 a1).1 (wgt_rg (z := j) a0 a1).2 (b := wIn (TZ (cQ s) p m c j) (s.1 20) (cQ s).2.2.2.1) (by have := rin j; omega) (by have := rin j; omega)
  have r := sumN_rgB (f := fun z => wgt arm z * wIn (TZ (cQ s) p m c z) (s.1 20) (cQ s).2.2.2.1) (n := 9) (B := 80000) (fun j _ => rmul j) 9 (by omega)
  unfold meanV
  omega
theorem m1_rg (hs : CS s) (hP : s.1 15 0 ≤ 4) {p : Int → Int} : 0 ≤ m1 s p ∧ m1 s p ≤ 720000 := by
  have hn := cW_n hs.1
  have en : (cQ s).2.2.2.1 = (s.1 15 3).toNat := rfl
  have rwH := wIn_rg (p := p) (wo := s.1 20) (n := (cQ s).2.2.2.1) hn hs.2.2.2.2
  rw [en] at rwH
  obtain ⟨h1, -, h3⟩ := mxQ_is (P := p) (g := fun q t c => meanV (cQ s) p t c (s.1 16 q) (s.1 20)) (n := (s.1 15 3).toNat) (np := (s.1 15 0).toNat) (b := 80 * wIn p (s.1 20) (s.1 15 3).toNat)
  have em : m1 s p = mxQ (fun q t c => meanV (cQ s) p t c (s.1 16 q) (s.1 20)) p (s.1 15 3).toNat (s.1 15 0).toNat 0 (80 * wIn p (s.1 20) (s.1 15 3).toNat) := rfl
  rw [← em] at h1 h3
  rcases h3 with e | ⟨q, t, o, q1, -, -, -, -, e⟩
  · omega
  · have ar := hs.2.2.2.1 q (by omega) (by omega)
    have := meanV_rg' (p := p) (m := t) (c := p o) hs ar.1 ar.2
    have e : m1 s p = meanV (cQ s) p t (p o) (s.1 16 q) (s.1 20) := e
    omega
theorem m1_cst {p T : Int → Int} : m1 (cst s T) p = m1 s p := by
  unfold m1
  rw [cst_Q, cst_ne (by decide) (by decide), cst_ne (by decide) (by decide), cst_ne (by decide) (by decide)]
theorem CS_cst (hs : CS s) (hV : VV (cQ s) P) : CS (cst s P) := by
  obtain ⟨h1, h2, h3, h4, h5⟩ := hs
  refine ⟨cst_OK h1, cst_sc, by rw [cst_Q, cst_7]; exact hV, by rw [cst_ne (by decide) (by decide)]; exact h4, ?_⟩
  unfold cWo
  rw [cst_ne (by decide) (by decide)]
  exact h5
/-- what lies beyond the things isn't moved by a throw -/
theorem thr_n {Q : Cf} {p : Int → Int} {t : Nat} {x y j : Int} (ht : t < Q.2.2.2.1) (hj : (Q.2.2.2.1 : Int) ≤ j) : thrown Q p t x y j = p j := by
  refine thrown_ne (by omega) fun h => ?_
  have := hit_at h
  omega
theorem c_planP (hN : 5000 ≤ N) (hs : CS s) (hP : s.1 15 0 ≤ 4) (hP1 : 0 < s.1 15 3 → 1 ≤ s.1 15 0) (hV : VV (cQ s) P) (hE : ∀ j, s.1 15 3 ≤ j → j < 8 → P j = 64) : f11 N (cst s P) = some (m1 s P, cst s P) := by
  have := c_plan1 (N := N) (s := cst s P) hN (CS_cst hs hV) (by rw [cst_ne (by decide) (by decide)]; exact hP) (by rw [cst_ne (by decide) (by decide)]; exact hP1) (by rw [cst_ne (by decide) (by decide), cst_7]; exact hE)
  rw [m1_cst, cst_7] at this
  exact this
/-- what all slips but none leave to be had, together -/
def rng2 (s : gI) (t c : Int) (n : Nat) : Int := sumN (fun z => if z = 0 then 0 else m1 s (TZ (cQ s) (s.1 7) t c z)) n
theorem m2g_split {q t c : Int} : m2g s q t c = wgt (s.1 16 q) 0 * m1 s (TZ (cQ s) (s.1 7) t c 0) + wgt (s.1 16 q) 1 * rng2 s t c 9 := by
  unfold m2g rng2
  exact sum_split (arm := s.1 16 q) (g := fun z : Nat => m1 s (TZ (cQ s) (s.1 7) t c z)) 8
theorem rng2_rg (hs : CS s) (hP : s.1 15 0 ≤ 4) {t c : Int} : ∀ n : Nat, n ≤ 9 → n = 0 ∨ (0 ≤ rng2 s t c n ∧ rng2 s t c n ≤ 720000 * (n - 1)) := by
  intro n
  induction n with
  | zero => intro _; exact Or.inl rfl
  | succ n ih =>
    intro h
    right
    have e : rng2 s t c (n + 1) = rng2 s t c n + (if n = 0 then 0 else m1 s (TZ (cQ s) (s.1 7) t c n)) := rfl
    have := m1_rg (p := TZ (cQ s) (s.1 7) t c n) hs hP
    by_cases g : n = 0
    · subst g
      rw [e, if_pos rfl]
      have e0 : rng2 s t c 0 = 0 := rfl
      omega
    · rw [e, if_neg g]
      rcases ih (by omega) with h | h
      · exact absurd h g
      · omega
theorem c_ring2_lp {f : Int → Int → gI → Option (Int × gI)} {T : Nat} {M i c : Int} (hN : 5000 ≤ N) (hs : CS s) (hP : s.1 15 0 ≤ 4) (hP1 : 0 < s.1 15 3 → 1 ≤ s.1 15 0) (hE : ∀ j, s.1 15 3 ≤ j → j < 8 → s.1 7 j = 64) (hT : T < (cQ s).2.2.2.1) (hp : s.1 7 T = 64) (c0 : 0 ≤ c ∧ c < 64) : ∀ (r fuel z : Nat), z + r = 9 → r < fuel →
    f12_at62 N f fuel M i T c (if z = 0 then 0 else m1 s (TZ (cQ s) (s.1 7) T c 0)) (rng2 s T c z) z s = i_o2 (f10 N (m1 s (TZ (cQ s) (s.1 7) T c 0)) (rng2 s T c 9) s) fun i2 s1 => iov (i + 1) <| f (if M < i2 then i2 else M) (i + 1) s1 := by
  have hn := cW_n hs.1
  have en : (cQ s).2.2.2.1 = (s.1 15 3).toNat := rfl
  have hn0 := hs.1.2.2.1
  intro r
  induction r with
  | zero =>
    intro fuel z e hf
    obtain ⟨fuel, rfl⟩ : ∃ g, fuel = g + 1 := ⟨fuel - 1, by omega⟩
    have ez : z = 9 := by omega
    subst ez
    unfold f12_at62
    rw [if_pos (by decide), if_neg (by decide)]
  | succ r ih =>
    intro fuel z e hf
    obtain ⟨fuel, rfl⟩ : ∃ g, fuel = g + 1 := ⟨fuel - 1, by omega⟩
    have ih := ih fuel (z + 1) (by omega) (by omega)
    have e1 : ((z + 1 : Nat) : Int) = (z : Int) + 1 := by omega
    have rx := sX_rg (z := z) (by omega) (by omega)
    have ry := sY_rg (z := z) (by omega) (by omega)
    have eS : rng2 s T c (z + 1) = rng2 s T c z + (if z = 0 then 0 else m1 s (TZ (cQ s) (s.1 7) T c z)) := rfl
    have rr := rng2_rg (t := T) (c := c) hs hP z (by omega)
    have rm := m1_rg (p := TZ (cQ s) (s.1 7) T c z) hs hP
    have rm0 := m1_rg (p := TZ (cQ s) (s.1 7) T c 0) hs hP
    have l1 := c_land (N := N) (s := s) (p := s.1 7) (m := T) (x := c % 8 + sX z) (y := c / 8 + sY z) hN hs.1 hs.2.2.1 hT hp (by omega) (by omega)
    rw [CS_self hs] at l1
    have l2 := c_takeBack (N := N) (s := s) (p := s.1 7) (m := T) (x := c % 8 + sX z) (y := c / 8 + sY z) hs.1 hs.2.2.1 hT hp (by omega) (by omega)
    rw [CS_self hs] at l2
    have eT : thrown (cQ s) (s.1 7) T (c % 8 + sX z) (c / 8 + sY z) = TZ (cQ s) (s.1 7) T c z := rfl
    rw [eT] at l1 l2
    have l3 := c_planP (N := N) (P := TZ (cQ s) (s.1 7) T c z) hN hs hP hP1 (by rw [← eT]; exact VV_thrown hs.1.1.2 hs.1.2.1.2 hT hs.2.2.1 _ _) (fun j j0 j1 => by rw [← eT, thr_n hT (by omega)]; exact hE j j0 j1)
    unfold f12_at62
    rw [if_neg (by omega), idv_ok (by omega) (by decide), ick_ok (by omega) (by omega), i_slipX (by omega) (by omega), iov_ok (by omega) (by omega)]
    dsimp only
    rw [idv_ok (by omega) (by decide), ick_ok (by omega) (by omega), i_slipY (by omega) (by omega), iov_ok (by omega) (by omega), l1, i_o2_some, l3, i_o2_some, l2, i_o1_some]
    unfold f12_at144 f12_at160
    by_cases g : z = 0
    · subst g
      have ez : ((0 : Nat) : Int) = 0 := rfl
      have er : rng2 s T c 0 = 0 := rfl
      have er1 : rng2 s T c (0 + 1) = 0 := by rw [eS, er, if_pos rfl]; rfl
      rw [er1, if_neg (by decide)] at ih
      rw [ez, if_pos rfl, if_pos rfl, er, Int.zero_add, iov_ok (by omega) (by omega), if_pos rfl, Int.zero_add, iov_ok (by decide) (by decide), iov_ok (by decide) (by decide)]
      exact ih
    · rw [eS, if_neg g, if_neg (by omega)] at ih
      rw [if_neg (show ¬ (z : Int) = 0 by omega), if_neg g, Int.add_zero, iov_ok (by omega) (by omega), if_neg (show ¬ (z : Int) = 0 by omega)]
      have er : rng2 s T c z + m1 s (TZ (cQ s) (s.1 7) T c z) ≤ 7000000 := by
        rcases rr with h | h
        · exact absurd h g
        · omega
      have er0 : 0 ≤ rng2 s T c z := by
        rcases rr with h | h
        · exact absurd h g
        · omega
      rw [iov_ok (by omega) (by omega), iov_ok (by omega) (by omega), ← e1]
      exact ih
theorem c_plan2 (hN : 5000 ≤ N) (hs : CS s) (hP : s.1 15 0 ≤ 4) (hP1 : 0 < s.1 15 3 → 1 ≤ s.1 15 0) (hE : ∀ j, s.1 15 3 ≤ j → j < 8 → s.1 7 j = 64) : f12 N s = some (m2 s, s) := by
  have hn := cW_n hs.1
  have hn0 := hs.1.2.2.1
  have en : (cQ s).2.2.2.1 = (s.1 15 3).toNat := rfl
  have rm1 := m1_rg (p := s.1 7) hs hP
  generalize hg : m2g s = g
  generalize hb : 80 * m1 s (s.1 7) = b
  have lp : ∀ (r fuel i : Nat) (M : Int), r < fuel → i + r = 64 → b ≤ M → (∀ q t o : Nat, q < (s.1 15 0).toNat → t < (s.1 15 3).toNat → o < (s.1 15 3).toNat → s.1 7 t = 64 → s.1 7 o < 64 → 8 * t + o < i → g q t (s.1 7 o) ≤ M) → (M = b ∨ ∃ q t o : Nat, q < (s.1 15 0).toNat ∧ t < (s.1 15 3).toNat ∧ o < (s.1 15 3).toNat ∧ s.1 7 t = 64 ∧ s.1 7 o < 64 ∧ M = g q t (s.1 7 o)) →
      ∃ M2, f12_at10 N fuel M i s = some (M2, s) ∧ isMx g (s.1 7) (s.1 15 3).toNat (s.1 15 0).toNat b M2 := by
    intro r
    induction r with
    | zero =>
      intro fuel i M hf e h1 h2 h3
      obtain ⟨fuel, rfl⟩ : ∃ g, fuel = g + 1 := ⟨fuel - 1, by omega⟩
      refine ⟨M, ?_, h1, fun q t o q1 t1 o1 ht ho => h2 q t o q1 t1 o1 ht ho (by omega), h3⟩
      unfold f12_at10
      rw [if_pos (by omega)]
    | succ r ih =>
      intro fuel i M hf e h1 h2 h3
      obtain ⟨fuel, rfl⟩ : ∃ g, fuel = g + 1 := ⟨fuel - 1, by omega⟩
      have c1 : ((i + 1 : Nat) : Int) = (i : Int) + 1 := by omega
      have eT : (i : Int) / 8 = ((i / 8 : Nat) : Int) := by omega
      have eO : (i : Int) % 8 = ((i % 8 : Nat) : Int) := by omega
      have skip : ¬ ((i / 8 < (s.1 15 3).toNat ∧ s.1 7 (i / 8 : Nat) = 64) ∧ s.1 7 (i % 8 : Nat) < 64) → ∃ M2, f12_at10 N fuel M ((i : Int) + 1) s = some (M2, s) ∧ isMx g (s.1 7) (s.1 15 3).toNat (s.1 15 0).toNat b M2 := by
        intro hno
        rw [← c1]
        refine ih fuel (i + 1) M (by omega) (by omega) h1 (fun q t o q1 t1 o1 ht ho hi => ?_) h3
        by_cases q3 : 8 * t + o < i
        · exact h2 q t o q1 t1 o1 ht ho q3
        · have et : t = i / 8 := by omega
          have eo : o = i % 8 := by omega
          exact absurd ⟨⟨by omega, by rw [← et]; exact ht⟩, by rw [← eo]; exact ho⟩ hno
      unfold f12_at10
      rw [if_neg (by omega), idv_ok (by omega) (by decide)]
      dsimp only
      rw [idv_ok (by omega) (by decide), ick_ok (by omega) (by omega), eT, eO, c_isIn hn0.2 (by omega), i_o2_some]
      by_cases g1 : ((i / 8 : Nat) : Int) < s.1 15 3 ∧ s.1 7 ((i / 8 : Nat) : Int) = 64
      rotate_left
      · rw [if_neg g1, if_pos rfl, iov_ok (by omega) (by omega)]
        exact skip (fun hh => g1 ⟨by clear h3; omega, hh.1.2⟩)
      rw [if_pos g1, if_neg (by decide)]
      by_cases g2 : s.1 7 ((i % 8 : Nat) : Int) < 64
      rotate_left
      · rw [if_neg g2, iov_ok (by omega) (by omega)]
        exact skip (fun hh => g2 hh.2)
      have o1 : ((i % 8 : Nat) : Int) < s.1 15 3 := by
        by_cases q : ((i % 8 : Nat) : Int) < s.1 15 3
        · exact q
        · have := hE ((i % 8 : Nat) : Int) (by omega) (by omega)
          omega
      have oO := okq_rg (hs.2.2.1 (i % 8) (by clear h3; omega))
      generalize hc : s.1 7 ((i % 8 : Nat) : Int) = c at g2 oO
      have rr := rng2_rg (t := ((i / 8 : Nat) : Int)) (c := c) hs hP 9 (by decide)
      have rm0 := m1_rg (p := TZ (cQ s) (s.1 7) ((i / 8 : Nat) : Int) c 0) hs hP
      obtain ⟨m, q1, q2, j, q3, q4⟩ := c_best (N := N) (a := m1 s (TZ (cQ s) (s.1 7) ((i / 8 : Nat) : Int) c 0)) (b := rng2 s ((i / 8 : Nat) : Int) c 9) hN hs ⟨hP1 (by omega), hP⟩ (by omega) (by omega)
      have mg : ∀ q : Int, g q ((i / 8 : Nat) : Int) c = wgt (s.1 16 q) 0 * m1 s (TZ (cQ s) (s.1 7) ((i / 8 : Nat) : Int) c 0) + wgt (s.1 16 q) 1 * rng2 s ((i / 8 : Nat) : Int) c 9 := fun q => by
        rw [← hg, m2g_split]
      have l84 := c_ring2_lp (N := N) (f := f12_at10 N fuel) (M := M) (i := i) (c := c) hN hs hP hP1 hE (show i / 8 < (cQ s).2.2.2.1 by clear h3; omega) g1.2 ⟨by omega, g2⟩ 9 N 0 (by decide) (by omega)
      rw [if_pos rfl] at l84
      have l84' : f12_at62 N (f12_at10 N fuel) N M i ((i / 8 : Nat) : Int) c 0 0 0 s = _ := l84
      rw [if_pos g2, l84', q1, i_o2_some, iov_ok (by omega) (by omega), ← c1]
      have gq := mg j
      rw [← q4] at gq
      have h2' : ∀ M', M ≤ M' → m ≤ M' → ∀ q t o : Nat, q < (s.1 15 0).toNat → t < (s.1 15 3).toNat → o < (s.1 15 3).toNat → s.1 7 t = 64 → s.1 7 o < 64 → 8 * t + o < i + 1 → g q t (s.1 7 o) ≤ M' := by
        intro M' hM hM2 q t o q1 t1 o1 ht ho hi
        by_cases q5 : 8 * t + o < i
        · have := h2 q t o q1 t1 o1 ht ho q5
          omega
        · have et : t = i / 8 := by omega
          have eo : o = i % 8 := by omega
          rw [et, eo, hc, mg]
          have := q2 q q1
          omega
      by_cases g3 : M < m
      · rw [if_pos g3]
        exact ih fuel (i + 1) m (by omega) (by omega) (by omega) (h2' _ (by omega) (by omega)) (Or.inr ⟨j, i / 8, i % 8, q3, by clear h3; omega, by clear h3; omega, g1.2, by rw [hc]; exact g2, by rw [hc]; clear h3; omega⟩)
      · rw [if_neg g3]
        exact ih fuel (i + 1) M (by omega) (by omega) h1 (h2' _ (by omega) (by omega)) h3
  obtain ⟨M2, l1, l2⟩ := lp 64 N 0 b (by omega) (by decide) (Int.le_refl _) (fun q t o _ _ _ _ _ h => by omega) (Or.inl rfl)
  have em : m2 s = M2 := by
    unfold m2
    rw [hg, hb]
    exact isMx_eq mxQ_is l2
  unfold f12
  rw [c_plan1 hN hs hP hP1 hE, i_o2_some, iov_ok (by omega) (by omega), em, hb]
  exact l1
-- the reference
theorem RY_78 {F : Int → Int} (h : RY s) : RY (ic s 78 F) := by
  obtain ⟨h1, h2, h3, h4, h5, h6, h7, h8, h9, h10, h11⟩ := h
  have n : ∀ {a : Nat}, a ≠ 78 → (ic s 78 F).1 a = s.1 a := fun ha => ic_ne ha
  refine ⟨?_, mOK_ic h2, ?_, ?_, ?_, ?_, ?_, ?_, ?_, ?_, ?_⟩
  · unfold cOK; rw [n (by decide), n (by decide), n (by decide)]; exact h1
  · rw [mQ_ic]; unfold cQ; rw [n (by decide), n (by decide), n (by decide), n (by decide)]; exact h3
  · rw [n (by decide)]; exact h4
  · unfold cWo; rw [n (by decide)]; exact h5
  · rw [n (by decide), n (by decide)]; exact h6
  · rw [n (by decide)]; exact h7
  · rw [n (by decide), n (by decide)]; exact h8
  · rw [n (by decide), n (by decide)]; exact h9
  · rw [n (by decide), n (by decide), n (by decide)]; exact h10
  · unfold mWo; rw [n (by decide)]; exact h11
theorem trl.RY {b : Int} (h : trl b s u) (hs : RY s) : RY u := by
  obtain ⟨F, h1, -⟩ := h
  rw [h1]
  exact RY_78 hs
theorem RY_n (hs : RY s) : s.1 71 1 = s.1 15 3 := hs.2.2.2.2.2.2.2.1
theorem RY_P (hs : RY s) : s.1 71 0 = s.1 15 0 := hs.2.2.2.2.2.1
theorem m_plan1 (hN : 5000 ≤ N) (hs : RY s) {p : Int → Int} {a b : Int} (hV : VV (cQ s) p) (h8 : eq8 (sh a (s.1 78)) p) (ha : 0 ≤ a) (hb0 : 0 ≤ b) (hb : b ≤ 680) (ha2 : a ≤ 680) (hd : a + 18 ≤ b ∨ b + 18 ≤ a) :
    ∃ v, f269 N a b s = some (m1 s p, v) ∧ trl b s v := by
  have hw := hs.1
  have hn := cW_n hw
  have hn0 := hw.2.2.1
  have en : (cQ s).2.2.2.1 = (s.1 15 3).toNat := rfl
  have e3 := RY_n hs
  have eP := RY_P hs
  have hP := hs.2.2.2.2.2.2.1
  have at78 : ∀ {u : gI} (j : Nat), j < 8 → trl b s u → u.1 78 (a + j) = p j := fun j hj hu => by
    rw [hu.at (by omega)]
    have := h8 j (by omega) (by omega)
    rw [sh_at] at this
    exact this
  generalize hg : (fun q t c : Int => meanV (cQ s) p t c (s.1 16 q) (s.1 20)) = g
  have lpO : ∀ {f : Int → Int → Int → Int → Int → gI → Option (Int × gI)} {q t : Nat}, (q : Int) < s.1 15 0 → t < (cQ s).2.2.2.1 → p t = 64 → ∀ (r fuel o : Nat) (M : Int) (u : gI), r < fuel → o + r = (s.1 15 3).toNat → trl b s u →
      ∃ v, f269_at36 N f fuel a b M q t o u = f a b (mxO (g q t) p r o M) q (t + 1) v ∧ trl b s v := by
    intro f q t hq ht hp r
    induction r with
    | zero =>
      intro fuel o M u hf e hu
      obtain ⟨fuel, rfl⟩ : ∃ g, fuel = g + 1 := ⟨fuel - 1, by omega⟩
      refine ⟨u, ?_, hu⟩
      unfold f269_at36
      rw [m_things, i_o2_some, hu.ne (by decide), e3, if_pos (by omega), iov_ok (by omega) (by omega)]
      rfl
    | succ r ih =>
      intro fuel o M u hf e hu
      obtain ⟨fuel, rfl⟩ : ∃ g, fuel = g + 1 := ⟨fuel - 1, by omega⟩
      have c1 : ((o + 1 : Nat) : Int) = (o : Int) + 1 := by omega
      have oO := okq_rg (hV o (by omega))
      unfold f269_at36 mxO
      rw [m_things, i_o2_some, hu.ne (by decide), e3, if_neg (by omega), iov_ok (by omega) (by omega), ick_ok (by omega) (by omega), at78 t (by omega) hu, if_pos hp, iov_ok (by omega) (by omega), ick_ok (by omega) (by omega), at78 o (by omega) hu]
      by_cases g1 : 64 ≤ p o
      · rw [if_pos g1, if_pos g1, iov_ok (by omega) (by omega), ← c1]
        exact ih fuel (o + 1) M u (by omega) (by omega) hu
      rw [if_neg g1, if_neg g1]
      obtain ⟨v1, m1, m2⟩ := m_meanOf (N := N) (s := s) (u := u) (p := p) (a := a) (b := b) (per := q) (m := t) (cell := p o) hN hs hV h8 ha hb0 hb ha2 hd hq ht (by omega) (by omega) hu
      have eg : meanV (cQ s) p t (p o) (s.1 16 q) (s.1 20) = g q t (p o) := by rw [← hg]
      rw [eg] at m1
      rw [iov_ok (by omega) (by omega), ick_ok (by omega) (by omega), m1, i_o2_some]
      by_cases g2 : g q t (p o) ≤ M
      · rw [if_pos g2, if_pos g2, iov_ok (by omega) (by omega), ← c1]
        exact ih fuel (o + 1) M v1 (by omega) (by omega) m2
      · rw [if_neg g2, if_neg g2, iov_ok (by omega) (by omega), ← c1]
        exact ih fuel (o + 1) _ v1 (by omega) (by omega) m2
  have lpT : ∀ {f : Int → Int → Int → Int → gI → Option (Int × gI)} {q : Nat}, (q : Int) < s.1 15 0 → ∀ (r fuel t : Nat) (M : Int) (u : gI), r < fuel → t + r = (s.1 15 3).toNat → trl b s u →
      ∃ v, f269_at24 N f fuel a b M q t u = f a b (mxT (g q) p (s.1 15 3).toNat r t M) (q + 1) v ∧ trl b s v := by
    intro f q hq r
    induction r with
    | zero =>
      intro fuel t M u hf e hu
      obtain ⟨fuel, rfl⟩ : ∃ g, fuel = g + 1 := ⟨fuel - 1, by omega⟩
      refine ⟨u, ?_, hu⟩
      unfold f269_at24
      rw [m_things, i_o2_some, hu.ne (by decide), e3, if_pos (by omega), iov_ok (by omega) (by omega)]
      rfl
    | succ r ih =>
      intro fuel t M u hf e hu
      obtain ⟨fuel, rfl⟩ : ∃ g, fuel = g + 1 := ⟨fuel - 1, by omega⟩
      have c1 : ((t + 1 : Nat) : Int) = (t : Int) + 1 := by omega
      unfold f269_at24 mxT
      rw [m_things, i_o2_some, hu.ne (by decide), e3, if_neg (by omega)]
      by_cases g1 : p t = 64
      · obtain ⟨v1, k1, k2⟩ := lpO (f := f269_at24 N f fuel) hq (by omega : t < (cQ s).2.2.2.1) g1 (s.1 15 3).toNat N 0 M u (by omega) (by omega) hu
        have k1' : f269_at36 N (f269_at24 N f fuel) N a b M q t 0 u = f269_at24 N f fuel a b (mxO (g q t) p (s.1 15 3).toNat 0 M) q (t + 1) v1 := k1
        rw [k1', if_pos g1, ← c1]
        exact ih fuel (t + 1) _ v1 (by omega) (by omega) k2
      · obtain ⟨F, rfl⟩ : ∃ F, N = F + 1 := ⟨N - 1, by omega⟩
        have e36 : f269_at36 (F + 1) (f269_at24 (F + 1) f fuel) (F + 1) a b M q t 0 u = f269_at24 (F + 1) f fuel a b M q (t + 1) u := by
          unfold f269_at36
          rw [m_things, i_o2_some, hu.ne (by decide), e3, if_neg (by omega), iov_ok (by omega) (by omega), ick_ok (by omega) (by omega), at78 t (by omega) hu, if_neg g1, iov_ok (by omega) (by omega)]
        rw [e36, if_neg g1, ← c1]
        exact ih fuel (t + 1) M u (by omega) (by omega) hu
  have lpQ : ∀ (r fuel q : Nat) (M : Int) (u : gI), r < fuel → (q : Int) + r = s.1 15 0 → trl b s u →
      ∃ v, f269_at12 N fuel a b M q u = some (mxQ g p (s.1 15 3).toNat r q M, v) ∧ trl b s v := by
    intro r
    induction r with
    | zero =>
      intro fuel q M u hf e hu
      obtain ⟨fuel, rfl⟩ : ∃ g, fuel = g + 1 := ⟨fuel - 1, by omega⟩
      refine ⟨u, ?_, hu⟩
      unfold f269_at12
      rw [m_people, i_o2_some, hu.ne (by decide), eP, if_pos (by omega)]
      rfl
    | succ r ih =>
      intro fuel q M u hf e hu
      obtain ⟨fuel, rfl⟩ : ∃ g, fuel = g + 1 := ⟨fuel - 1, by omega⟩
      have c1 : ((q + 1 : Nat) : Int) = (q : Int) + 1 := by omega
      obtain ⟨v1, k1, k2⟩ := lpT (f := f269_at12 N fuel) (by omega : (q : Int) < s.1 15 0) (s.1 15 3).toNat N 0 M u (by omega) (by omega) hu
      have k1' : f269_at24 N (f269_at12 N fuel) N a b M q 0 u = f269_at12 N fuel a b (mxT (g q) p (s.1 15 3).toNat (s.1 15 3).toNat 0 M) (q + 1) v1 := k1
      unfold f269_at12 mxQ
      rw [m_people, i_o2_some, hu.ne (by decide), eP, if_neg (by omega), k1', ← c1]
      exact ih fuel (q + 1) _ v1 (by omega) (by omega) k2
  have rwH := wIn_rg (p := p) (wo := s.1 20) (n := (cQ s).2.2.2.1) hn hs.2.2.2.2.1
  rw [en] at rwH
  have mw := m_worthR (N := N) (s := s) (u := s) (T := p) (b := a) hN hs ha ha2 (fun _ _ => rfl) h8
  rw [en] at mw
  obtain ⟨v, l1, l2⟩ := lpQ (s.1 15 0).toNat N 0 (80 * wIn p (s.1 20) (s.1 15 3).toNat) s (by omega) (by omega) trl.rf
  refine ⟨v, ?_, l2⟩
  unfold f269 m1
  rw [mw, i_o2_some, iov_ok (by omega) (by omega), hg]
  exact l1
end PLAN

/-! Promise 12: fetch. -/
section FETCH
variable {N : Nat} {s u c m : gI} {k : Int} {p q : Int → Int} {w : Int} {Q : Cf}
def fet1 (p : Int → Int) (t : Int) : Int → Int := if p t = 65 then zup p t 64 else p
def fet : Nat → Int → (Int → Int) → Int → Int
  | 0, _, p => p
  | r + 1, t, p => fet r (t + 1) (fet1 p t)
def fetN : Nat → Int → (Int → Int) → Int
  | 0, _, _ => 0
  | r + 1, t, p => (if p t = 65 then 1 else 0) + fetN r (t + 1) (fet1 p t)
theorem fet1_ne {t j : Int} (h : j ≠ t) : fet1 p t j = p j := by
  unfold fet1
  split
  · exact zup_ne h
  · rfl
theorem fet_ne {j : Int} : ∀ (r : Nat) (t : Int) (p : Int → Int), (j < t ∨ t + r ≤ j) → fet r t p j = p j
  | 0, _, _, _ => rfl
  | r + 1, t, p, h => by
    unfold fet
    rw [fet_ne r (t + 1) _ (by omega), fet1_ne (by omega)]
theorem VV_fet1 {t : Nat} (hV : VV Q p) : VV Q (fet1 p t) := by
  unfold fet1
  split
  · exact VV_zup hV okq_64
  · exact hV
theorem VV_fet : ∀ (r t : Nat) (p : Int → Int), VV Q p → VV Q (fet r t p)
  | 0, _, _, h => h
  | r + 1, t, p, h => by
    unfold fet
    exact VV_fet r (t + 1) _ (VV_fet1 h)
theorem fet1_eq {t : Int} (he : eq8 p q) (t0 : 0 ≤ t) (t1 : t < 8) : eq8 (fet1 p t) (fet1 q t) := by
  unfold fet1
  rw [he t t0 t1]
  split
  · intro j j0 j1
    by_cases hj : j = t
    · subst hj; rw [zup_same, zup_same]
    · rw [zup_ne hj, zup_ne hj]; exact he j j0 j1
  · exact he
theorem fet_eq : ∀ (r : Nat) (t : Int) (p q : Int → Int), 0 ≤ t → t + r ≤ 8 → eq8 p q → eq8 (fet r t p) (fet r t q) ∧ fetN r t p = fetN r t q
  | 0, _, _, _, _, _, he => ⟨he, rfl⟩
  | r + 1, t, p, q, t0, t1, he => by
    have ih := fet_eq r (t + 1) _ _ (by omega) (by omega) (fet1_eq he t0 (by omega))
    unfold fet fetN
    rw [he t t0 (by omega)]
    exact ⟨ih.1, by rw [ih.2]⟩
theorem c_fet_lp (hw : cOK s) : ∀ (r fuel t : Nat) (a : Int) (p : Int → Int), r < fuel → t + r = (cQ s).2.2.2.1 → VV (cQ s) p → 0 ≤ a → a + r ≤ 8 →
    f66_at4 N fuel a t (cst s p) = some (a + fetN r t p, cst s (fet r t p)) := by
  intro r
  have hn := hw.2.2.1
  have en : (cQ s).2.2.2.1 = (s.1 15 3).toNat := rfl
  induction r with
  | zero =>
    intro fuel t a p hf e hV a0 a1
    obtain ⟨fuel, rfl⟩ : ∃ g, fuel = g + 1 := ⟨fuel - 1, by omega⟩
    unfold f66_at4
    rw [cst_ne (by decide) (by decide), if_pos (by omega)]
    show some (a, cst s p) = some (a + 0, cst s p)
    rw [Int.add_zero]
  | succ r ih =>
    intro fuel t a p hf e hV a0 a1
    obtain ⟨fuel, rfl⟩ : ∃ g, fuel = g + 1 := ⟨fuel - 1, by omega⟩
    have hm : t < (cQ s).2.2.2.1 := by omega
    have c : ((t + 1 : Nat) : Int) = (t : Int) + 1 := by omega
    unfold f66_at4 fetN fet fet1
    rw [cst_ne (by decide) (by decide), if_neg (by omega), ick_ok (by omega) (by omega), cst_7]
    by_cases g : p t = 65
    · rw [if_pos g, if_pos g, if_pos g, c_put hV (by omega) hm okq_64, i_o1_some, iov_ok (by omega) (by omega), iov_ok (by omega) (by omega)]
      have := ih fuel (t + 1) (a + 1) (zup p t 64) (by omega) (by omega) (VV_zup hV okq_64) (by omega) (by omega)
      rw [c] at this
      rw [← Int.add_assoc]
      exact this
    · rw [if_neg g, if_neg g, if_neg g, iov_ok (by omega) (by omega), Int.zero_add]
      have := ih fuel (t + 1) a p (by omega) (by omega) hV (by omega) (by omega)
      rw [c] at this
      exact this
theorem pst0_at {t : Int} : (pst u 0 p).1 78 t = p t := by
  rw [pst_78]
  unfold unsh
  rw [Int.sub_zero]
theorem pst0_w {t x : Int} : iw (pst u 0 p) 78 t x = pst u 0 (zup p t x) := by
  have := pst_w (s := u) (b := 0) (t := t) (x := x) (p := p)
  rwa [Int.zero_add] at this
theorem m_fet_lp (hw : mOK u) : ∀ (r fuel t : Nat) (a : Int) (p : Int → Int), r < fuel → t + r = (mQ u).2.2.2.1 → 0 ≤ a → a + r ≤ 8 →
    f257_at23 N fuel a t (pst u 0 p) = some (a + fetN r t p, pst u 0 (fet r t p)) := by
  intro r
  have en : (mQ u).2.2.2.1 = (u.1 71 1).toNat := rfl
  have hn := hw.2.2
  have ne : ∀ (p : Int → Int) (a : Nat), a ≠ 78 → (pst u 0 p).1 a = u.1 a := fun p a h => ic_ne h
  induction r with
  | zero =>
    intro fuel t a p hf e a0 a1
    obtain ⟨fuel, rfl⟩ : ∃ g, fuel = g + 1 := ⟨fuel - 1, by omega⟩
    unfold f257_at23
    rw [m_things, i_o2_some, ne _ _ (by decide), if_pos (by omega)]
    show some (a, pst u 0 p) = some (a + 0, pst u 0 p)
    rw [Int.add_zero]
  | succ r ih =>
    intro fuel t a p hf e a0 a1
    obtain ⟨fuel, rfl⟩ : ∃ g, fuel = g + 1 := ⟨fuel - 1, by omega⟩
    have c : ((t + 1 : Nat) : Int) = (t : Int) + 1 := by omega
    unfold f257_at23 f257_at48 fetN fet fet1
    rw [m_things, i_o2_some, ne _ _ (by decide), if_neg (by omega)]
    simp only [pst0_at, pst0_w]
    by_cases g : p t = 65
    · simp only [if_pos g]
      simp (disch := omega) only [ick_ok, iov_ok, iol_ok, idv_ok, ich_ok, icp_ok, i_o2_some, i_o1_some]
      have := ih fuel (t + 1) (a + 1) (zup p t 64) (by omega) (by omega) (by omega) (by omega)
      rw [c] at this
      rw [← Int.add_assoc]
      exact this
    · simp only [if_neg g]
      simp (disch := omega) only [ick_ok, iov_ok, iol_ok, idv_ok, ich_ok, icp_ok, i_o2_some, i_o1_some]
      rw [zup_eq rfl, Int.zero_add]
      have := ih fuel (t + 1) a p (by omega) (by omega) (by omega) (by omega)
      rw [c] at this
      rw [Int.add_zero]
      exact this
theorem q_fetch (hN : 5000 ≤ N) (hI : INV k s) (hk : 0 ≤ k) {w : Int} : OKc k s (f145 N w) (f257 N w) := by
  obtain ⟨e0, e1, e2, e3, e4⟩ := INV_eq hI
  by_cases hz : 0 ≤ w ∧ w < s.1 15 0
  rotate_left
  · refine OKc.q hI (x := -1) (s1 := s) (s2 := iw s 63 0 0) ?_ ?_ sameQ_thrown
    · unfold f145
      rw [c_isPerson, i_o2_some, if_neg hz, if_pos rfl]
    · unfold f257
      dsimp only
      rw [m_isPerson, i_o2_some, iw_ne (by decide), e2, if_neg hz, if_pos rfl]
  have hw := hI.1.1.1
  have sc := hI.1.1.2.1
  have hV := hI.1.1.2.2.1
  have i2 := hI.2.1
  have hn := cW_n hw
  have hn0 := hw.2.2.1
  have en : (cQ s).2.2.2.1 = (s.1 15 3).toNat := rfl
  have z : ((0 : Nat) : Int) = 0 := rfl
  obtain ⟨u1, u2, u3, -⟩ := hI.2.2.2.2.1
  have l1 := c_fet_lp (N := N) (s := remS s) (remS_OK hw) (cQ s).2.2.2.1 N 0 0 (s.1 7) (by omega) (by rw [remS_Q]; omega) (by rw [remS_Q]; exact hV) (by omega) (by omega)
  rw [remS_cst sc, z, Int.zero_add] at l1
  have cfin : f145 N w s = some (fetN (cQ s).2.2.2.1 0 (s.1 7), cst (remS s) (fet (cQ s).2.2.2.1 0 (s.1 7))) := by
    unfold f145 f66
    rw [c_isPerson, i_o2_some, if_pos hz, if_neg (by decide), c_remember u3 u2, i_o1_some, l1, i_o2_some]
  have hact : actC s (cst (remS s) (fet (cQ s).2.2.2.1 0 (s.1 7))) := act_cst
  obtain ⟨G, hG1, hG2⟩ := hand_keep hN hI hact
  have hE := hI.1.2.2.1
  have e8 := kep_eq8 hI hG2
  have hmo := actC_mOK hact hI.1.2.1
  have eqm := kep_mQ hI hact (G := G)
  have e71 : (cst (remS s) (fet (cQ s).2.2.2.1 0 (s.1 7))).1 71 = s.1 71 := by rw [cst_ne (by decide) (by decide), remS_ne (by decide) (by decide)]
  have l2 := m_fet_lp (N := N) (u := kepS (cst (remS s) (fet (cQ s).2.2.2.1 0 (s.1 7))) G) (kepS_OK hmo) (cQ s).2.2.2.1 N 0 0 (sh 0 G) (by omega) (by rw [eqm, ← hE.2.2.1]; omega) (by omega) (by omega)
  rw [kep_pst, z, Int.zero_add] at l2
  have ge := fet_eq (cQ s).2.2.2.1 0 (s.1 7) (sh 0 G) (by omega) (by omega) e8
  have mfin : f257 N w (cst (remS s) (fet (cQ s).2.2.2.1 0 (s.1 7))) = some (fetN (cQ s).2.2.2.1 0 (s.1 7), pst (kepS (cst (remS s) (fet (cQ s).2.2.2.1 0 (s.1 7))) G) 0 (fet (cQ s).2.2.2.1 0 (sh 0 G))) := by
    unfold f257
    dsimp only
    rw [m_isPerson, i_o2_some, iw_ne (by decide), e71, e2, if_pos hz, if_neg (by decide), hG1, i_o1_some, l2, ge.2]
  refine ⟨_, _, _, cfin, mfin, ?_⟩
  have out : ∀ j : Int, 8 ≤ j → fet (cQ s).2.2.2.1 0 (sh 0 G) j = G j := fun j hj => by
    rw [fet_ne _ _ _ (Or.inr (by omega)), sh_at, Int.zero_add]
  have c8 : (cst (remS s) (fet (cQ s).2.2.2.1 0 (s.1 7))).1 8 = s.1 8 := by rw [cst_ne (by decide) (by decide), remS_ne (by decide) (by decide)]
  have c6 : (cst (remS s) (fet (cQ s).2.2.2.1 0 (s.1 7))).1 6 = s.1 6 := by rw [cst_ne (by decide) (by decide), remS_ne (by decide) (by decide)]
  have := i2.2.2.2.2.2.2.1
  have := i2.2.2.2.2.2.2.2
  refine hand_pst hI hk hact hG2 cst_7 (VV_fet _ 0 _ hV) cst_sc (fun j j0 j1 => ?_) ge.1.sy (fun j j0 j1 => ?_) ?_ ?_ (fun j j0 => out j (by omega)) (by rw [c6]; omega) (by rw [c6]; omega)
  · rw [fet_ne _ _ _ (Or.inr (by omega))]
    exact i2.2.2.2.2.2.1 j j0 j1
  · rw [out _ (by omega), hG2.1 _ (by omega), c8]
    exact i2.1 j j0 j1
  · rw [out _ (by decide), hG2.1 _ (by decide), c6]
    exact i2.2.1
  · rw [out _ (by decide), hG2.1 _ (by decide), c6]
    exact i2.2.2.1
end FETCH

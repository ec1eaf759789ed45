/-! The class: a throw, and taken back. -/
def hitOf (Q : Cf) (p : Int → Int) (t x y : Int) : Int := if x < 0 ∨ Q.1 ≤ x ∨ Q.2.1 ≤ y ∨ y < 0 then -1 else occ p (8 * y + x) t Q.2.2.2.1
section CTHROW
variable {N : Nat} {s : gI} {p q : Int → Int}
theorem occ_zup {Q : Cf} {t z c : Int} : ∀ k : Nat, occ (zup p t z) c t k = occ p c t k
  | 0 => rfl
  | k + 1 => by
    have ih := occ_zup (Q := Q) (z := z) (t := t) (c := c) k
    unfold occ
    rw [ih]
    by_cases h : (k : Int) = t
    · rw [if_pos h, if_pos h]
    · rw [if_neg h, if_neg h, zup_ne h]
theorem exO_zup {Q : Cf} {t z : Int} : exO Q (zup p t z) t = exO Q p t := funext fun c => occ_zup (Q := Q) _
theorem rollT_zup {Q : Cf} {t z c : Int} : rollT Q (zup p t z) t c = rollT Q p t c := by
  unfold rollT
  rw [exO_zup]
theorem to1_zup {Q : Cf} {t z x y : Int} : to1 Q (zup p t z) t x y = to1 Q p t x y := by
  unfold to1
  rw [exO_zup]
theorem co_64 : co 64 = -1 := rfl
theorem co_in {c : Int} (h1 : c < 64) : co c = c := by
  unfold co
  rw [if_pos (by omega), if_neg (by omega)]
/-- a class' scene that is sound: the numbers of things, kinds -/
def cW (s : gI) : Prop := cOK s ∧ (∀ t, 0 ≤ t → t < 8 → 0 ≤ s.1 18 t ∧ s.1 18 t ≤ 3)
theorem cW_n (hw : cOK s) : (cQ s).2.2.2.1 ≤ 8 := by
  have := hw.2.2.1
  show (s.1 15 3).toNat ≤ 8
  omega
theorem rf_rg (k : Int) : rf k ≤ 64 := by
  unfold rf
  split
  · omega
  · split <;> omega
theorem c_restP {m : Nat} {c : Int} (hN : 5000 ≤ N) (hw : cOK s) (hV : VV (cQ s) p) (hm : m < (cQ s).2.2.2.1) (hon : onR (cQ s) c) (h7 : s.1 13 c ≠ 7) (h8 : s.1 13 c ≠ 8) (hc : co (p m) = -1 ∨ co (p m) = c) :
    f84 N 9 c (rf (s.1 18 m) : Int) (cst s p) = some (rollT (cQ s) p m c, cst s p) := by
  have hn := cW_n hw
  have r := rf_rg (s.1 18 m)
  rw [c_rest hN (cst_OK hw) (by rw [cst_Q]; exact hon) (by omega) (by omega), cst_9, cst_ne (by decide) (by decide), cst_ne (by decide) (by decide)]
  have e := roll_ex (Q := cQ s) (t := (m : Int)) (c := c) hw.1.2 hw.2.1.2 hV (whof_in (w := s.1 9)) h7 h8 (fun k hk hkm => by
    have : k = m := by omega
    subst this
    exact hc) ((rf (s.1 18 m) : Int).toNat)
  have e : roll (s.1 12 0) (s.1 12 1) (s.1 13) (oC (s.1 13) (whof (cQ s) p (s.1 9))) (rf (s.1 18 m) : Int).toNat (fun j => decide (j = c)) c = _ := e
  rw [e, Int.toNat_natCast]
  rfl
theorem c_moveOn {m : Nat} {z : Int} (hN : 5000 ≤ N) (hw : cOK s) (hV : VV (cQ s) p) (hm : m < (cQ s).2.2.2.1) (hz : okq (cQ s) p m z) :
    f52 N m z (cst s p) = some (cst s (rollsOn (cQ s) (zup p m z) m)) := by
  have hn := cW_n hw
  have hV2 := VV_zup hV hz
  have rz := okq_rg hz
  unfold f52 rollsOn
  rw [c_put hV hn hm hz, i_o1_some, zup_same]
  by_cases h : 64 ≤ z
  · rw [if_pos h, if_pos h]
  · rw [if_neg h, if_neg h, c_stepsOf (by omega) (by omega), i_o2_some, cst_ne (by decide) (by decide)]
    have hon := okq_on hz (by omega) (by omega)
    rw [c_restP hN hw hV2 hm hon.1 hon.2.1 hon.2.2 (Or.inr (by rw [zup_same]; exact co_in (by omega))), i_o2_some]
    have hz2 : okq (cQ s) (zup p m z) m z := okq_mono (fun j hj ht => zup_ne ht) hz
    rw [c_put hV2 hn hm (rollT_ok hw.1.2 hw.2.1.2 hz2), i_o1_some]
theorem c_down {m : Nat} {x y : Int} (hw : cOK s) (hV : VV (cQ s) p) {c : Int} (hc0 : 0 ≤ x ∧ x < s.1 12 0) (hc1 : 0 ≤ y ∧ y < s.1 12 1) (hc : c = 8 * y + x) (hne : co (p m) ≠ 8 * (y + 1) + x) :
    f82 N 9 c 0 (cst s p) = some (if to1 (cQ s) p m x (y + 1) < 0 then c else to1 (cQ s) p m x (y + 1), cst s p) := by
  subst hc
  obtain ⟨⟨hW0, hW⟩, ⟨hD0, hD⟩, -, -⟩ := id hw
  have e1 : (cQ s).1 = s.1 12 0 := rfl
  have e2 : (cQ s).2.1 = s.1 12 1 := rfl
  rw [c_step (cst_OK hw) (by rw [cst_Q]; exact ⟨by omega, by omega, by omega, by omega⟩) (by decide) (by decide), cst_9, cst_ne (by decide) (by decide), cst_ne (by decide) (by decide)]
  rw [show (8 * y + x) % 8 + ac (0 + 1) = x by show (8 * y + x) % 8 + 0 = x; omega, show (8 * y + x) / 8 + al (0 + 1) = y + 1 by show (8 * y + x) / 8 + 1 = y + 1; omega]
  have e : cTo (s.1 12 0) (s.1 12 1) (s.1 13) (oC (s.1 13) (whof (cQ s) p (s.1 9))) x (y + 1) = to1 (cQ s) p m x (y + 1) := by
    unfold to1
    symm
    refine cTo_sim fun a1 a2 a3 a4 => ?_
    have e2 : (cQ s).2.1 = s.1 12 1 := rfl
    refine sg_ex hV whof_in (by omega) (by omega) fun k hk hkm hco => ?_
    have : k = m := by omega
    subst this
    exact hne hco
  rw [e]
theorem c_pushed {m : Nat} {x y st : Int} (hN : 5000 ≤ N) (hw : cOK s) (hV : VV (cQ s) p) (hx : 0 ≤ x ∧ x < s.1 12 0) (hy : 0 ≤ y ∧ y < s.1 12 1) (hp : p m = 8 * y + x) (hst : st = 1 ∨ st = 2) :
    f51 N (8 * y + x) st (cst s p) = some (if 0 ≤ to1 (cQ s) p m x (y + 1) then (if st = 2 ∧ to1 (cQ s) p m x (y + 1) < 64 ∧ 0 ≤ to1 (cQ s) (zup p m (to1 (cQ s) p m x (y + 1))) m x (y + 2) then to1 (cQ s) (zup p m (to1 (cQ s) p m x (y + 1))) m x (y + 2) else to1 (cQ s) p m x (y + 1)) else 8 * y + x, cst s p) := by
  obtain ⟨⟨hW0, hW⟩, ⟨hD0, hD⟩, -, -⟩ := id hw
  have hco : co (p m) = 8 * y + x := by rw [hp]; exact co_in (by omega)
  have r1 := cTo_rg (s.1 12 0) (s.1 12 1) (s.1 13) (exO (cQ s) p m) (x := x) (y := y + 1) hW hD
  have r2 := cTo_rg (s.1 12 0) (s.1 12 1) (s.1 13) (exO (cQ s) p m) (x := x) (y := y + 2) hW hD
  rw [to1_zup]
  have d1 := c_down (N := N) (m := m) hw hV hx hy rfl (by omega)
  unfold f51
  obtain ⟨N, rfl⟩ : ∃ g, N = g + 1 := ⟨N - 1, by omega⟩
  unfold f51_at5
  rw [if_neg (by omega), if_neg (by omega), d1]
  have g1 : to1 (cQ s) p m x (y + 1) = cTo (s.1 12 0) (s.1 12 1) (s.1 13) (exO (cQ s) p m) x (y + 1) := rfl
  have g2 : to1 (cQ s) p m x (y + 2) = cTo (s.1 12 0) (s.1 12 1) (s.1 13) (exO (cQ s) p m) x (y + 2) := rfl
  rw [← g1] at r1
  rw [← g2] at r2
  simp only [i_o2_some]
  by_cases h1 : to1 (cQ s) p m x (y + 1) < 0
  · rw [if_pos h1, if_pos rfl, if_neg (by omega)]
  rw [if_neg h1, if_neg (by omega), iov_ok (by omega) (by omega), if_pos (by omega)]
  obtain ⟨N, rfl⟩ : ∃ g, N = g + 1 := ⟨N - 1, by omega⟩
  unfold f51_at5
  rcases hst with rfl | rfl
  · rw [if_pos (by decide), if_neg (by omega)]
  rw [if_neg (by decide)]
  by_cases h2 : 64 ≤ to1 (cQ s) p m x (y + 1)
  · rw [if_pos h2, if_neg (by omega)]
  rw [if_neg h2]
  have hz1 : to1 (cQ s) p m x (y + 1) = 8 * (y + 1) + x ∧ (y + 1 < s.1 12 1) := by omega
  have d2 := c_down (N := N + 1 + 1) (m := m) (x := x) (y := y + 1) (c := to1 (cQ s) p m x (y + 1)) hw hV hx ⟨by omega, hz1.2⟩ hz1.1 (by omega)
  rw [show y + 1 + 1 = y + 2 by omega] at d2
  rw [d2]
  simp only [i_o2_some]
  by_cases h3 : to1 (cQ s) p m x (y + 2) < 0
  · rw [if_pos h3, if_pos rfl, if_neg (by omega)]
  rw [if_neg h3, if_neg (by omega), iov_ok (by omega) (by omega), if_pos (show True ∧ to1 (cQ s) p m x (y + 1) < 64 ∧ 0 ≤ to1 (cQ s) p m x (y + 2) from ⟨trivial, by omega, by omega⟩)]
  obtain ⟨N, rfl⟩ : ∃ g, N = g + 1 := ⟨N - 1, by omega⟩
  unfold f51_at5
  rw [if_pos (by decide)]
theorem c_at110 {m : Nat} {z h : Int} (hN : 5000 ≤ N) (hw : cOK s) (hV : VV (cQ s) p) (hm : m < (cQ s).2.2.2.1) (hp : p m = 64) (hz : okq (cQ s) p m z) :
    f49_at110 N m z h (cst s p) = some (h, cst s (rollsOn (cQ s) (zup p m z) m)) := by
  have hn := cW_n hw
  have rz := okq_rg hz
  unfold f49_at110 f49_at140 rollsOn
  rw [zup_same]
  by_cases h1 : 64 ≤ z
  · rw [if_pos h1, if_pos h1, c_put hV hn hm hz, i_o1_some]
  · rw [if_neg h1, if_neg h1, c_stepsOf (by omega) (by omega), i_o2_some, cst_ne (by decide) (by decide)]
    have hon := okq_on hz (by omega) (by omega)
    rw [c_restP hN hw hV hm hon.1 hon.2.1 hon.2.2 (Or.inl (by rw [hp]; rfl)), i_o2_some, c_put hV hn hm (rollT_ok hw.1.2 hw.2.1.2 hz), i_o1_some, rollT_zup, zup_zup]
theorem zup_eq {t z : Int} (h : p t = z) : zup p t z = p := by
  subst h
  exact zup_self p t
theorem rollsOn_far {Q : Cf} {t : Int} (h : 64 ≤ p t) : rollsOn Q p t = p := if_pos h
set_option maxHeartbeats 4000000 in
theorem c_land {m : Nat} {x y : Int} (hN : 5000 ≤ N) (hw : cOK s) (hV : VV (cQ s) p) (hm : m < (cQ s).2.2.2.1) (hp : p m = 64) (hx : -1 ≤ x ∧ x ≤ 100) (hy : -100 ≤ y ∧ y ≤ 100) :
    f49 N m x y (cst s p) = some (hitOf (cQ s) p m x y, cst s (thrown (cQ s) p m x y)) := by
  obtain ⟨⟨hW0, hW⟩, ⟨hD0, hD⟩, -, -⟩ := id hw
  have hn := cW_n hw
  have eW : (cQ s).1 = s.1 12 0 := rfl
  have eD : (cQ s).2.1 = s.1 12 1 := rfl
  have far : ∀ z : Int, (z = 64 ∨ z = 65) → f49_at39 N m z (-1) (cst s p) = some (-1, cst s (zup p m z)) := by
    intro z hz
    unfold f49_at39
    rw [if_pos rfl, c_at110 hN hw hV hm hp (hz.elim (fun g => Or.inl g) (fun g => Or.inr (Or.inl g))), rollsOn_far (by rw [zup_same]; omega)]
  have hz64 : zup p m 64 = p := zup_eq hp
  have off : ∀ z : Int, (x < 0 ∨ s.1 12 0 ≤ x ∨ s.1 12 1 ≤ y ∨ y < 0) → z = (if y < 0 ∧ 0 ≤ x ∧ x < s.1 12 0 then 65 else 64) → some (-1, cst s (zup p m z)) = some (hitOf (cQ s) p m x y, cst s (thrown (cQ s) p m x y)) := by
    intro z h1 h2
    have e1 : hitOf (cQ s) p m x y = -1 := if_pos h1
    have e2 : thrown (cQ s) p m x y = zup p m (if y < 0 ∧ 0 ≤ x ∧ x < s.1 12 0 then 65 else 64) := if_pos h1
    rw [e1, e2, h2]
  unfold f49 f83
  rw [cst_ne (by decide) (by decide), cst_ne (by decide) (by decide)]
  by_cases h1 : x < 0
  · rw [if_pos h1, i_o2_some, if_pos (by decide), far 64 (Or.inl rfl)]
    exact off _ (Or.inl h1) (if_neg (by omega)).symm
  rw [if_neg h1]
  by_cases h2 : s.1 12 0 ≤ x
  · rw [if_pos h2, i_o2_some, if_pos (by decide), far 64 (Or.inl rfl)]
    exact off _ (Or.inr (Or.inl h2)) (if_neg (by omega)).symm
  rw [if_neg h2]
  by_cases h3 : y < s.1 12 1
  rotate_left
  · rw [if_neg h3, i_o2_some, if_pos (by decide), far 64 (Or.inl rfl)]
    exact off _ (Or.inr (Or.inr (Or.inl (by omega)))) (if_neg (by omega)).symm
  rw [if_pos h3]
  by_cases h4 : 0 ≤ y
  rotate_left
  · rw [if_neg h4, i_o2_some, if_pos (by decide), far 65 (Or.inr rfl)]
    exact off _ (Or.inr (Or.inr (Or.inr (by omega)))) (if_pos (by omega)).symm
  rw [if_pos h4]
  simp (disch := omega) only [ick_ok, iov_ok, iol_ok, idv_ok, ich_ok, icp_ok, i_o2_some, i_o1_some]
  rw [show y * 8 + x = 8 * y + x by omega, cst_9]
  generalize hd : 8 * y + x = d
  have hd0 : 0 ≤ d ∧ d < 64 := by omega
  have hon : onR (cQ s) d := ⟨by omega, by omega, by omega, by omega⟩
  have hin : ¬ (x < 0 ∨ (cQ s).1 ≤ x ∨ (cQ s).2.1 ≤ y ∨ y < 0) := by omega
  have eh : hitOf (cQ s) p m x y = occ p d m (cQ s).2.2.2.1 := by
    unfold hitOf
    rw [if_neg hin, hd]
  have eT : thrown (cQ s) p m x y = if 0 ≤ occ p d m (cQ s).2.2.2.1 then
      rollsOn (cQ s) (zup (knock (cQ s) p (occ p d m (cQ s).2.2.2.1) x y (decide (s.1 18 m = 3))) m (if knock (cQ s) p (occ p d m (cQ s).2.2.2.1) x y (decide (s.1 18 m = 3)) (occ p d m (cQ s).2.2.2.1) = d then 64 else d)) m
      else rollsOn (cQ s) (zup p m (if to1 (cQ s) p m x y < 0 then 64 else to1 (cQ s) p m x y)) m := by
    unfold thrown
    rw [if_neg hin, hz64, hd]
    rfl
  rw [eh, eT]
  have nobody : (s.1 13 d = 7 ∨ s.1 13 d = 8) → occ p d m (cQ s).2.2.2.1 = -1 := by
    intro h
    refine occ_none _ fun k hk _ he => ?_
    have := okq_on (hV k hk) (by omega) (by omega)
    rw [he] at this
    rcases h with h | h
    · exact this.2.1 h
    · exact this.2.2 h
  have ew : whof (cQ s) p (s.1 9) d = occ2 p d (cQ s).2.2.2.1 := whof_in d hd0.1 hd0.2
  rw [ew]
  have eto : to1 (cQ s) p m x y = if s.1 13 d = 8 then -1 else if exO (cQ s) p m d < 0 then (if s.1 13 d = 7 then (if exO (cQ s) p m (128 + d) < 0 then 128 + d else 64) else d) else -1 := by
    unfold to1 cTo
    rw [if_neg h1, if_neg (show ¬ (cQ s).1 ≤ x by omega), if_pos (show y < (cQ s).2.1 by omega), if_pos h4, hd]
    rfl
  have sg := sg_ex (t := (m : Int)) hV (whof_in (w := s.1 9)) hd0.1 hd0.2 (fun k hk hkm hc => by
    have : k = m := by omega
    subst this
    rw [hp] at hc
    have : co 64 = -1 := rfl
    omega)
  by_cases h8 : s.1 13 d = 8
  · rw [if_pos h8, i_o2_some, if_pos (by decide), far 64 (Or.inl rfl), nobody (Or.inr h8), if_neg (by decide), eto, if_pos h8, if_pos (by decide), rollsOn_far (by rw [zup_same]; decide)]
  rw [if_neg h8]
  by_cases h7 : s.1 13 d = 7
  · have eo2 : oC (s.1 13) (whof (cQ s) p (s.1 9)) (128 + d) = occ2 p d (cQ s).2.2.2.1 := by
      unfold oC
      rw [if_neg (by omega), show 128 + d - 128 = d by omega, ew]
    have g2 : exO (cQ s) p m (128 + d) < 0 ↔ occ2 p d (cQ s).2.2.2.1 < 0 := by
      have := sg.2 h7
      have e : oC (cQ s).2.2.1 (whof (cQ s) p (s.1 9)) (128 + d) = occ2 p d (cQ s).2.2.2.1 := eo2
      rw [e] at this
      exact this
    have e0 : exO (cQ s) p m d = -1 := nobody (Or.inl h7)
    have t1 : to1 (cQ s) p m x y = if exO (cQ s) p m (128 + d) < 0 then 128 + d else 64 := by rw [eto, if_neg h8, e0, if_pos (by decide), if_pos h7]
    rw [if_pos h7, nobody (Or.inl h7), if_neg (show ¬ (0 : Int) ≤ -1 by decide), t1]
    by_cases h9 : 0 ≤ occ2 p d (cQ s).2.2.2.1
    · rw [if_pos h9, i_o2_some, if_pos (by decide), far 64 (Or.inl rfl)]
      have n1 : ¬ exO (cQ s) p m (128 + d) < 0 := fun q => by have := g2.mp q; omega
      simp only [if_neg n1]
      rw [if_neg (by decide), rollsOn_far (by rw [zup_same]; decide)]
    · have n1 : exO (cQ s) p m (128 + d) < 0 := g2.mpr (by omega)
      simp only [if_pos n1]
      rw [if_neg h9, i_o2_some, if_pos (by omega), if_neg (by omega)]
      unfold f49_at39
      rw [if_pos rfl, c_at110 hN hw hV hm hp]
      refine Or.inr (Or.inr (Or.inr ⟨?_, ?_, ?_⟩))
      · rw [show 128 + d - 128 = d by omega]; exact hon
      · rw [show 128 + d - 128 = d by omega]; exact h7
      · exact occ_neg _ (g2.mpr (by omega))
  rw [if_neg h7, i_o2_some, if_neg (by omega), ick_ok hd0.1 hd0.2, cst_9, ew]
  have e12 : occ2 p d (cQ s).2.2.2.1 = occ p d m (cQ s).2.2.2.1 := by
    refine occ2_occ (fun k hk => ⟨fun hc => ?_, fun hc => ?_⟩) _ (Nat.le_refl _)
    · rcases okq_at hd0.1 (hV k hk) hc with g | g
      · refine ⟨fun hkm => ?_, g.1⟩
        rw [hkm, hp] at g
        omega
      · exact absurd g.2 h7
    · rw [hc.2]; exact co_in hd0.2
  rw [e12]
  have ro := occ_rg p d m (cQ s).2.2.2.1
  have ra : 0 ≤ occ p d m (cQ s).2.2.2.1 → p (occ p d m (cQ s).2.2.2.1) = d ∧ occ p d m (cQ s).2.2.2.1 ≠ m := occ_at _
  have rn : occ p d m (cQ s).2.2.2.1 < 0 → ∀ k : Nat, k < (cQ s).2.2.2.1 → (k : Int) ≠ m → p k ≠ d := occ_neg _
  have eE : exO (cQ s) p m d = occ p d m (cQ s).2.2.2.1 := rfl
  rw [eE] at eto
  generalize occ p d m (cQ s).2.2.2.1 = h at ro ra rn eto
  unfold f49_at39
  by_cases h9 : h = -1
  · have t1 : to1 (cQ s) p m x y = d := by rw [eto, if_neg h8, if_pos (by omega), if_neg h7]
    rw [if_pos h9, if_neg (show ¬ 0 ≤ h by omega), t1, if_neg (show ¬ d < 0 by omega)]
    exact c_at110 hN hw hV hm hp (Or.inr (Or.inr (Or.inl ⟨hon, h7, h8, rn (by omega)⟩)))
  rw [if_neg h9, if_pos (show 0 ≤ h by omega)]
  have hh0 : 0 ≤ h := by omega
  obtain ⟨hpd, hhm⟩ := ra hh0
  obtain ⟨j, rfl⟩ := Int.eq_ofNat_of_zero_le hh0
  have hj : j < (cQ s).2.2.2.1 := by omega
  have hx1 : 0 ≤ x ∧ x < s.1 12 0 := by omega
  have hy1 : 0 ≤ y ∧ y < s.1 12 1 := by omega
  have main : ∀ st : Int, (st = 1 ∨ st = 2) → f49_at68 N m d j st d (cst s p) = some ((j : Int), cst s (rollsOn (cQ s) (zup (knock (cQ s) p j x y (decide (st = 2))) m (if knock (cQ s) p j x y (decide (st = 2)) j = d then 64 else d)) m)) := by
    intro st hst
    have hpu := c_pushed (N := N) (m := j) (st := st) hN hw hV hx1 hy1 (by rw [hpd, hd]) hst
    rw [hd] at hpu
    have kV := VV_knock hw.1.2 hw.2.1.2 hj hV x y (decide (st = 2))
    have kne : ∀ k : Int, k ≠ j → knock (cQ s) p j x y (decide (st = 2)) k = p k := fun k hk => knock_ne hk
    have at88 : f49_at88 N m d j (cst s (knock (cQ s) p j x y (decide (st = 2)))) = some ((j : Int), cst s (rollsOn (cQ s) (zup (knock (cQ s) p j x y (decide (st = 2))) m (if knock (cQ s) p j x y (decide (st = 2)) j = d then 64 else d)) m)) := by
      generalize hK : knock (cQ s) p j x y (decide (st = 2)) = K at kV kne
      have hKm : K m = 64 := by rw [kne m (by omega)]; exact hp
      have hoth : ∀ k : Nat, k < (cQ s).2.2.2.1 → k ≠ j → co (K k) ≠ d := by
        intro k hk hkj hc
        rw [kne k (by omega)] at hc
        rcases okq_at hd0.1 (hV k hk) hc with g | g
        · have hpj := hV j hj
          rw [hpd] at hpj
          rcases hpj with u | u | u | u
          · omega
          · omega
          · exact u.2.2.2 k hk (by omega) g.1
          · have := u.1.1; omega
        · exact h7 g.2
      unfold f49_at88 f49_at108
      rw [ick_ok hd0.1 hd0.2, cst_9, whof_in d hd0.1 hd0.2]
      by_cases hKd : K j = d
      · have e1 : occ2 K d (cQ s).2.2.2.1 = j := occ2_some (by rw [hKd]; exact co_in hd0.2) _ hj hoth
        rw [e1, if_neg (by omega), if_pos hKd]
        exact c_at110 hN hw kV hm hKm okq_64
      · have e1 : occ2 K d (cQ s).2.2.2.1 = -1 := by
          refine occ2_none _ fun k hk hc => ?_
          by_cases hkj : k = j
          · subst hkj
            rcases okq_at hd0.1 (kV k hk) hc with g | g
            · exact hKd g.1
            · exact h7 g.2
          · exact hoth k hk hkj hc
        rw [e1, if_pos (by decide), if_neg hKd]
        refine c_at110 hN hw kV hm hKm (Or.inr (Or.inr (Or.inl ⟨hon, h7, h8, fun k hk hkm he => ?_⟩)))
        by_cases hkj : k = j
        · subst hkj; exact hKd he
        · exact hoth k hk hkj (by rw [he]; exact co_in hd0.2)
    unfold f49_at68
    rw [hpu]
    simp only [i_o2_some]
    have rt1 := cTo_rg (s.1 12 0) (s.1 12 1) (s.1 13) (exO (cQ s) p j) (x := x) (y := y + 1) hW hD
    have rt2 := cTo_rg (s.1 12 0) (s.1 12 1) (s.1 13) (exO (cQ s) (zup p j (to1 (cQ s) p j x (y + 1))) j) (x := x) (y := y + 2) hW hD
    have g1 : to1 (cQ s) p j x (y + 1) = cTo (s.1 12 0) (s.1 12 1) (s.1 13) (exO (cQ s) p j) x (y + 1) := rfl
    have g2 : to1 (cQ s) (zup p j (to1 (cQ s) p j x (y + 1))) j x (y + 2) = cTo (s.1 12 0) (s.1 12 1) (s.1 13) (exO (cQ s) (zup p j (to1 (cQ s) p j x (y + 1))) j) x (y + 2) := rfl
    rw [← g1] at rt1
    rw [← g2] at rt2
    by_cases ht : 0 ≤ to1 (cQ s) p j x (y + 1)
    rotate_left
    · have eK : knock (cQ s) p j x y (decide (st = 2)) = p := if_neg ht
      rw [if_neg ht, if_pos rfl]
      rw [eK] at at88 ⊢
      exact at88
    have eK : knock (cQ s) p j x y (decide (st = 2)) = rollsOn (cQ s) (zup p j (if st = 2 ∧ to1 (cQ s) p j x (y + 1) < 64 ∧ 0 ≤ to1 (cQ s) (zup p j (to1 (cQ s) p j x (y + 1))) j x (y + 2) then to1 (cQ s) (zup p j (to1 (cQ s) p j x (y + 1))) j x (y + 2) else to1 (cQ s) p j x (y + 1))) j := by
      unfold knock
      rw [if_pos ht]
      simp only [decide_eq_true_eq]
    have hok : okq (cQ s) p j (if st = 2 ∧ to1 (cQ s) p j x (y + 1) < 64 ∧ 0 ≤ to1 (cQ s) (zup p j (to1 (cQ s) p j x (y + 1))) j x (y + 2) then to1 (cQ s) (zup p j (to1 (cQ s) p j x (y + 1))) j x (y + 2) else to1 (cQ s) p j x (y + 1)) := by
      split
      · rename_i h2
        exact okq_mono (fun k hk hkj => (zup_ne hkj).symm) (to1_ok (p := zup p j (to1 (cQ s) p j x (y + 1))) (t := j) hw.1.2 hw.2.1.2 h2.2.2)
      · exact to1_ok hw.1.2 hw.2.1.2 ht
    rw [if_pos ht, if_neg (by split <;> omega), c_moveOn hN hw hV hj hok, i_o1_some, ← eK]
    exact at88
  rw [ick_ok (by omega) (by omega), cst_ne (by decide) (by decide)]
  by_cases hk3 : s.1 18 m = 3
  · rw [if_pos hk3, main 2 (Or.inr rfl), hk3]
    rfl
  · rw [if_neg hk3, main 1 (Or.inl rfl), decide_eq_false hk3]
    rfl
theorem thrown_ne {Q : Cf} {t x y k : Int} (h1 : k ≠ t) (h2 : 0 ≤ hitOf Q (zup p t 64) t x y → k ≠ hitOf Q (zup p t 64) t x y) : thrown Q p t x y k = p k := by
  unfold thrown
  unfold hitOf at h2
  split
  · exact zup_ne h1
  · rename_i h3
    rw [if_neg h3] at h2
    split
    · rename_i h4
      rw [rollsOn_ne h1, zup_ne h1, knock_ne (h2 h4), zup_ne h1]
    · rw [rollsOn_ne h1, zup_ne h1, zup_ne h1]
theorem hit_at {Q : Cf} {t x y : Int} (h : 0 ≤ hitOf Q p t x y) : p (hitOf Q p t x y) = 8 * y + x ∧ hitOf Q p t x y ≠ t ∧ (hitOf Q p t x y).toNat < Q.2.2.2.1 ∧ 0 ≤ x ∧ x < Q.1 ∧ 0 ≤ y ∧ y < Q.2.1 := by
  unfold hitOf at h ⊢
  split at h
  · omega
  · rename_i h1
    rw [if_neg h1]
    have := occ_at _ h
    have := occ_rg p (8 * y + x) t Q.2.2.2.1
    exact ⟨by omega, by omega, by omega, by omega, by omega, by omega, by omega⟩
theorem c_takeBack {m : Nat} {x y : Int} (hw : cOK s) (hV : VV (cQ s) p) (hm : m < (cQ s).2.2.2.1) (hp : p m = 64) (hx : -1 ≤ x ∧ x ≤ 100) (hy : -100 ≤ y ∧ y ≤ 100) :
    f50 N m (hitOf (cQ s) p m x y) x y (cst s (thrown (cQ s) p m x y)) = some (cst s p) := by
  have hn := cW_n hw
  obtain ⟨⟨hW0, hW⟩, ⟨hD0, hD⟩, -, -⟩ := id hw
  have tV := VV_thrown hw.1.2 hw.2.1.2 hm hV x y
  have hz64 : zup p m 64 = p := zup_eq hp
  have tne : ∀ k : Int, k ≠ m → (0 ≤ hitOf (cQ s) p m x y → k ≠ hitOf (cQ s) p m x y) → thrown (cQ s) p m x y k = p k := fun k h1 h2 => thrown_ne h1 (by rw [hz64]; exact h2)
  have ha : 0 ≤ hitOf (cQ s) p m x y → _ := hit_at
  have hr : -1 ≤ hitOf (cQ s) p m x y := by
    unfold hitOf
    split
    · omega
    · exact (occ_rg _ _ _ _).1
  generalize hitOf (cQ s) p m x y = h at ha hr tne
  generalize thrown (cQ s) p m x y = T at tV tne
  have eW : (cQ s).1 = s.1 12 0 := rfl
  have eD : (cQ s).2.1 = s.1 12 1 := rfl
  unfold f50
  rw [c_put tV hn hm okq_64, i_o1_some]
  by_cases h1 : h = -1
  · rw [if_pos h1]
    have e : zup T m 64 = p := by
      funext k
      by_cases hk : k = m
      · subst hk; rw [zup_same]; exact hp.symm
      · rw [zup_ne hk]
        exact tne k hk (by omega)
    rw [e]
  · rw [if_neg h1]
    have h0 : 0 ≤ h := by omega
    obtain ⟨a1, a2, a3, a4, a5, a6, a7⟩ := ha h0
    obtain ⟨j, rfl⟩ := Int.eq_ofNat_of_zero_le h0
    have hj : j < (cQ s).2.2.2.1 := by omega
    have hjV := hV j hj
    rw [a1] at hjV
    have hon := okq_on hjV (by omega) (by omega)
    have hfree : ∀ k : Nat, k < (cQ s).2.2.2.1 → (k : Int) ≠ j → zup T m 64 k ≠ 8 * y + x := by
      intro k hk hkj he
      by_cases hkm : (k : Int) = m
      · rw [hkm, zup_same] at he; omega
      · rw [zup_ne hkm, tne k hkm (fun _ => hkj)] at he
        rcases hjV with u | u | u | u
        · omega
        · omega
        · exact u.2.2.2 k hk hkj he
        · have := u.1.1; omega
    rw [iov_ok (by omega) (by omega), iov_ok (by omega) (by omega), show y * 8 + x = 8 * y + x by omega, c_put (VV_zup tV okq_64) hn hj (Or.inr (Or.inr (Or.inl ⟨hon.1, hon.2.1, hon.2.2, hfree⟩))), i_o1_some]
    have e : zup (zup T m 64) j (8 * y + x) = p := by
      funext k
      by_cases hkj : k = j
      · subst hkj; rw [zup_same]; exact a1.symm
      · rw [zup_ne hkj]
        by_cases hk : k = m
        · subst hk; rw [zup_same]; exact hp.symm
        · rw [zup_ne hk]
          exact tne k hk (fun _ => hkj)
    rw [e]
end CTHROW

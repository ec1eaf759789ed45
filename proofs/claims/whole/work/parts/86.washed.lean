/-! Promise 21: washed answered alike. -/
section WASHED
variable {N : Nat} {s v u : gI} {k x a : Int}
theorem shl_bit : ∀ k : Fin 8, ∀ i : Fin 32, ((Int32.ofInt (i_shl 1 (k.val : Int))).toBitVec.getLsbD i.val) = decide (i.val = k.val) := by decide +kernel
theorem bN_z (P : Nat → Bool) : ∀ n : Nat, ∃ z : Int32, bN P n = z.toInt
  | 0 => ⟨0, rfl⟩
  | n + 1 => by
    obtain ⟨z, hz⟩ := bN_z P n
    unfold bN
    split
    · exact ⟨_, rfl⟩
    · exact ⟨z, hz⟩
theorem bN_bit (P : Nat → Bool) : ∀ n : Nat, n ≤ 8 → ∀ i : Nat, i < 32 → (Int32.ofInt (bN P n)).toBitVec.getLsbD i = (decide (i < n) && P i)
  | 0, _, i, hi => by
    show (Int32.ofInt 0).toBitVec.getLsbD i = _
    have : (Int32.ofInt 0).toBitVec = 0#32 := rfl
    rw [this]
    simp
  | n + 1, hn, i, hi => by
    have ih := bN_bit P n (by omega) i hi
    unfold bN
    by_cases h : P n = true
    · rw [if_pos h]
      unfold i_or
      rw [Int32.ofInt_toInt, Int32.toBitVec_or, BitVec.getLsbD_or, ih, shl_bit ⟨n, by omega⟩ ⟨i, hi⟩]
      by_cases e : i = n
      · subst e
        simp [h]
      · have e1 : (decide (i < n + 1)) = decide (i < n) := by
          by_cases q : i < n
          · simp [q]; omega
          · simp [q]; omega
        rw [e1]
        simp [e]
    · rw [if_neg h, ih]
      have h2 : P n = false := by cases hh : P n with
        | true => exact absurd hh h
        | false => rfl
      by_cases e : i = n
      · subst e
        simp [h2]
      · have e1 : (decide (i < n + 1)) = decide (i < n) := by
          by_cases q : i < n
          · simp [q]; omega
          · simp [q]; omega
        rw [e1]
/-- what is told of the second and wasn't of the first -/
theorem bN_new (P Q : Nat → Bool) {n : Nat} (hn : n ≤ 8) : i_and (bN P n) (i_xor (bN Q n) (-1)) = bN (fun k => P k && !Q k) n := by
  obtain ⟨z, hz⟩ := bN_z (fun k => P k && !Q k) n
  rw [hz]
  unfold i_and i_xor
  rw [Int32.ofInt_toInt]
  congr 1
  apply Int32.toBitVec_inj.mp
  apply BitVec.eq_of_getLsbD_eq
  intro i hi
  have e : z = Int32.ofInt (bN (fun k => P k && !Q k) n) := by rw [hz, Int32.ofInt_toInt]
  rw [e, bN_bit _ n hn i hi, Int32.toBitVec_and, BitVec.getLsbD_and, bN_bit _ n hn i hi, Int32.toBitVec_xor, BitVec.getLsbD_xor, bN_bit _ n hn i hi]
  have m1 : ((Int32.ofInt (-1)).toBitVec).getLsbD i = true := by
    have : ∀ j : Fin 32, ((Int32.ofInt (-1)).toBitVec).getLsbD j.val = true := by decide +kernel
    exact this ⟨i, hi⟩
  rw [m1]
  by_cases q : i < n
  · simp [q]
  · simp [q]
theorem or_zero (P : Nat → Bool) (n : Nat) : i_or (bN P n) 0 = bN P n := by
  obtain ⟨z, hz⟩ := bN_z P n
  rw [hz]
  unfold i_or
  rw [Int32.ofInt_toInt]
  congr 1
  apply Int32.toBitVec_inj.mp
  rw [Int32.toBitVec_or]
  have : (Int32.ofInt 0).toBitVec = 0#32 := rfl
  rw [this, BitVec.or_zero]
/-- what is newly in hand, or newly in a pipe -/
def wnB (s : gI) (row a : Int) : Nat → Bool := fun j => decide (tol (wA (cQ s) row 7 1 (s.1 7) j) = (if a = 0 then 64 else 66)) && !decide (tol (s.1 7 j) = (if a = 0 then 64 else 66))
theorem held_cQ : cQ (held s) = cQ s := by
  unfold cQ
  rw [held_ne (by decide), held_ne (by decide), held_ne (by decide), held_ne (by decide)]
theorem held_OK (hw : cOK s) : cOK (held s) := by
  unfold cOK
  rw [held_ne (by decide), held_ne (by decide), held_ne (by decide)]
  exact hw
theorem held_cst (sc : scOK s) : cst (held s) (s.1 7) = held s := by
  have sch : scOK (held s) := by
    unfold scOK
    rw [held_ne (by decide), held_ne (by decide), held_ne (by decide)]
    exact sc
  have := cst_self sch
  rwa [held_ne (by decide)] at this
theorem c_washed {row : Int} (hN : 5000 ≤ N) (hI : INV k s) (r0 : 0 ≤ row ∧ row < s.1 12 1) (ha : a = 0 ∨ a = 1) : f153 N row a s = some (bN (wnB s row a) (s.1 15 3).toNat, held s) := by
  have hw := hI.1.1.1
  have sc := hI.1.1.2.1
  have hV := hI.1.1.2.2.1
  have hn := cW_n hw
  obtain ⟨⟨hW0, hW⟩, ⟨hD0, hD⟩, hn0, -⟩ := id hw
  have en : (cQ s).2.2.2.1 = (s.1 15 3).toNat := rfl
  have go : ∀ w : Int, w = (if a = 0 then 64 else 66) → f153_at30 N row w s = some (bN (wnB s row a) (s.1 15 3).toNat, held s) := by
    intro w hwv
    have l1 := c_bitsAt (N := N) (s := s) (w := w) hN hw
    have l2 := c_washRow (N := N) (s := held s) (row := row) (p := s.1 7) hN (held_OK hw) (by rw [held_ne (by decide)]; exact r0) (by rw [held_cQ]; exact hV)
    rw [held_cst sc, held_cQ] at l2
    have l3 := c_bitsAt (N := N) (s := cst (held s) (wA (cQ s) row 7 1 (s.1 7))) (w := w) hN (cst_OK (held_OK hw))
    rw [cst_7, cst_ne (by decide) (by decide), held_ne (by decide)] at l3
    have l4 := c_release (N := N) (P := wA (cQ s) row 7 1 (s.1 7)) hN hI (fun j hj => wA_ne (by omega) _ _ _)
    unfold f153_at30
    rw [l1, i_o2_some, c_hold, i_o1_some, l2, i_o2_some, l3, i_o2_some, l4, i_o1_some, bN_new _ _ (by omega)]
    congr 2
    refine bN_congr _ fun j hj => ?_
    unfold wnB
    rw [hwv]
  unfold f153
  rw [c_isRow, i_o2_some, if_pos r0, if_neg (by decide), if_neg (by omega), if_pos (by omega)]
  rcases ha with g | g
  · rw [if_pos g]; exact go 64 (if_pos g).symm
  · rw [if_neg (by omega)]; exact go 66 (if_neg (by omega)).symm
theorem m_washed_lp {row : Int} (hI : INV k s) (hV2 : VV (cQ s) (wA (cQ s) row 7 1 (s.1 7))) (h71 : u.1 71 = s.1 71) (h7 : ∀ j : Nat, j < 8 → u.1 78 j = s.1 7 j) (hA : ∀ j : Nat, j < 8 → u.1 78 (588 + j) = wA (cQ s) row 7 1 (s.1 7) j) (ha : a = 0 ∨ a = 1) : ∀ (r fuel t : Nat), r < fuel → t + r = (s.1 15 3).toNat →
    f273_at48 N fuel a (bN (wnB s row a) t) t u = some (bN (wnB s row a) (s.1 15 3).toNat, u) := by
  have hw := hI.1.1.1
  have hV := hI.1.1.2.2.1
  have hn0 := hw.2.2.1
  have e3 := (INV_eq hI).2.2.2.1
  have en : (cQ s).2.2.2.1 = (s.1 15 3).toNat := rfl
  intro r
  induction r with
  | zero =>
    intro fuel t hf e
    obtain ⟨fuel, rfl⟩ : ∃ g, fuel = g + 1 := ⟨fuel - 1, by omega⟩
    unfold f273_at48
    rw [m_things, i_o2_some, h71, e3, if_pos (by omega), show t = (s.1 15 3).toNat by omega]
  | succ r ih =>
    intro fuel t hf e
    obtain ⟨fuel, rfl⟩ : ∃ g, fuel = g + 1 := ⟨fuel - 1, by omega⟩
    have ih := ih fuel (t + 1) (by omega) (by omega)
    have c : ((t + 1 : Nat) : Int) = (t : Int) + 1 := by omega
    have rp := okq_rg (hV t (by omega))
    have rq := okq_rg (hV2 t (by omega))
    have eb : bN (wnB s row a) (t + 1) = if wnB s row a t = true then i_or (bN (wnB s row a) t) (i_shl 1 t) else bN (wnB s row a) t := rfl
    have no : wnB s row a t = false → f273_at132 N (f273_at48 N fuel) a (bN (wnB s row a) t) t 0 u = some (bN (wnB s row a) (s.1 15 3).toNat, u) := by
      intro h
      rw [eb, if_neg (by rw [h]; decide), c] at ih
      unfold f273_at132 f273_at148
      rw [if_pos rfl, or_zero]
      dsimp only
      rw [iov_ok (by omega) (by omega)]
      exact ih
    have yes : wnB s row a t = true → f273_at132 N (f273_at48 N fuel) a (bN (wnB s row a) t) t 1 u = some (bN (wnB s row a) (s.1 15 3).toNat, u) := by
      intro h
      rw [eb, if_pos h, c] at ih
      unfold f273_at132 f273_at148
      rw [if_neg (by decide)]
      dsimp only
      rw [iov_ok (by omega) (by omega)]
      exact ih
    unfold f273_at48 f273_at93 f273_at131
    rw [m_things, i_o2_some, h71, e3, if_neg (by omega)]
    have w0 : ∀ z : Int, z = 64 ∨ z = 65 ∨ (0 ≤ z ∧ z < 64) ∨ (128 ≤ z ∧ z < 192) → (tol z = 64 ↔ z = 64) ∧ (tol z = 66 ↔ 128 ≤ z) := fun z hz => by
      unfold tol
      split <;> omega
    have wp := w0 _ rp
    have wq := w0 _ rq
    rcases ha with g | g <;> subst g
    · have ew : wnB s row 0 t = (decide (tol (wA (cQ s) row 7 1 (s.1 7) t) = 64) && !decide (tol (s.1 7 t) = 64)) := rfl
      rw [if_pos rfl, iov_ok (by omega) (by omega), ick_ok (by omega) (by omega), hA t (by omega)]
      by_cases g1 : wA (cQ s) row 7 1 (s.1 7) t = 64
      · rw [if_pos g1, ick_ok (by omega) (by omega), h7 t (by omega)]
        by_cases g2 : s.1 7 t = 64
        · rw [if_pos g2]
          exact no (by rw [ew, decide_eq_true (wp.1.2 g2)]; simp)
        · rw [if_neg g2]
          exact yes (by rw [ew, decide_eq_true (wq.1.2 g1), decide_eq_false (fun h => g2 (wp.1.1 h))]; rfl)
      · rw [if_neg g1]
        exact no (by rw [ew, decide_eq_false (fun h => g1 (wq.1.1 h))]; rfl)
    · have ew : wnB s row 1 t = (decide (tol (wA (cQ s) row 7 1 (s.1 7) t) = 66) && !decide (tol (s.1 7 t) = 66)) := rfl
      rw [if_neg (by decide), iov_ok (by omega) (by omega), ick_ok (by omega) (by omega), hA t (by omega)]
      by_cases g1 : wA (cQ s) row 7 1 (s.1 7) t < 128
      · rw [if_pos g1]
        exact no (by rw [ew, decide_eq_false (fun h => by have := wq.2.1 h; omega)]; rfl)
      · rw [if_neg g1, ick_ok (by omega) (by omega), h7 t (by omega)]
        by_cases g2 : 128 ≤ s.1 7 t
        · rw [if_pos g2]
          exact no (by rw [ew, decide_eq_true (wp.2.2 g2)]; simp)
        · rw [if_neg g2]
          exact yes (by rw [ew, decide_eq_true (wq.2.2 (by omega)), decide_eq_false (fun h => g2 (wp.2.1 h))]; rfl)
theorem q_washed {row : Int} (hN : 5000 ≤ N) (hI : INV k s) : OKc k s (f153 N row a) (f273 N row a) := by
  obtain ⟨e0, e1, e2, e3, e4⟩ := INV_eq hI
  have hw := hI.1.1.1
  have hV := hI.1.1.2.2.1
  have hE := hI.1.2.2.1
  have hn := cW_n hw
  obtain ⟨⟨hW0, hW⟩, ⟨hD0, hD⟩, hn0, -⟩ := id hw
  have en : (cQ s).2.2.2.1 = (s.1 15 3).toNat := rfl
  by_cases hz : 0 ≤ row ∧ row < s.1 12 1
  rotate_left
  · refine OKc.q hI (x := -1) (s1 := s) (s2 := iw s 63 0 0) ?_ ?_ sameQ_thrown
    · unfold f153
      rw [c_isRow, i_o2_some, if_neg hz, if_pos rfl]
    · unfold f273
      dsimp only
      rw [m_isRow, i_o2_some, iw63 (by decide), e1, if_neg hz, if_pos rfl]
  by_cases ha : 0 ≤ a ∧ a ≤ 1
  rotate_left
  · refine OKc.q hI (x := -1) (s1 := s) (s2 := iw s 63 0 0) ?_ ?_ sameQ_thrown
    · unfold f153
      rw [c_isRow, i_o2_some, if_pos hz, if_neg (by decide)]
      by_cases g : a < 0
      · rw [if_pos g]
      · rw [if_neg g, if_neg (by omega)]
    · unfold f273
      dsimp only
      rw [m_isRow, i_o2_some, iw63 (by decide), e1, if_pos hz, if_neg (by decide), m_within, i_o2_some, if_neg ha, if_pos rfl]
  have ha' : a = 0 ∨ a = 1 := by omega
  have q1 : sameQ s (iw (held s) 63 0 0) := held_sameQ.tr sameQ_thrown
  have hI1 := sameQ_inv q1 hI
  have hmo := hI1.1.2.1
  generalize hu : iw (held s) 63 0 0 = u at q1 hI1 hmo
  have u71 : u.1 71 = s.1 71 := q1.1 71 (by omega)
  have u69 : u.1 69 = s.1 69 := q1.1 69 (by omega)
  have eM : mQ (cop u 0 588) = mQ s := by rw [cop_Q, sameQ_mQ q1]
  have e8 : eq8 (s.1 7) (sh 588 ((cop u 0 588).1 78)) := fun j j0 j1 => by
    rw [cop_sh j0 (by omega), sh_at, Int.zero_add, q1.2.2.2.2.1 j (by omega)]
    exact (e4 j j0 j1).symm
  obtain ⟨M2, l1⟩ := m_washRow (N := N) (u := cop u 0 588) (b := 588) (row := row) (p := sh 588 ((cop u 0 588).1 78)) hN (cop_OK hmo) (by decide) (by decide) (by unfold cop; rw [ic_ne (by decide), u69, e1]; exact hz) (by rw [eM]; exact VV_eq hE e8 hn hV)
  rw [pst_self, eM] at l1
  have ge := (wA_eq (row := row) hE hn (by show 0 ≤ s.1 12 0; omega) hW hD hz 7 1 (s.1 7) (sh 588 ((cop u 0 588).1 78)) e8).1
  generalize hM : wA (mQ s) row 7 1 (sh 588 ((cop u 0 588).1 78)) = M at l1 ge
  have Mo : ∀ j, (j < 0 ∨ 8 ≤ j) → M j = (cop u 0 588).1 78 (588 + j) := fun j hj => by rw [← hM, wA_ne (by rw [← hE.2.2.1]; omega), sh_at]
  have hv : trl 588 u (pst (cop u 0 588) 588 M) := by
    refine ⟨unsh 588 M, ?_, fun j hj => ?_⟩
    · unfold pst cop
      exact ic_ic
    · unfold unsh
      rw [Mo _ (by omega), show 588 + (j - 588) = j by omega, cop_out hj]
  have hq2 : sameQ s (pst (iw (cop u 0 588) 63 25 M2) 588 M) := by
    rw [← pst_63']
    exact (q1.tr (sameQ_trl (by decide) hv)).tr (sameQ_63 (by decide) (by decide))
  have lp := m_washed_lp (N := N) (row := row) (a := a) (u := pst (iw (cop u 0 588) 63 25 M2) 588 M) hI (VV_wA (by show 0 ≤ s.1 12 0; omega) hW hD hz 7 1 _ hV) (hq2.1 71 (by omega)) (fun j hj => by
    rw [hq2.2.2.2.2.1 j (by omega)]
    exact e4 j (by omega) (by omega)) (fun j hj => by
    rw [pst_78]
    unfold unsh
    rw [show (588 : Int) + j - 588 = j by omega]
    exact (ge j (by omega) (by omega)).symm) ha' (s.1 15 3).toNat N 0 (by omega) (by omega)
  refine OKc.q hI (c_washed hN hI hz ha') ?_ hq2
  have cp : f215 N 0 588 18 u = some (cop u 0 588) := m_copies hN (by decide) (by decide) (by decide) (by decide) (by decide) (by decide)
  unfold f273
  dsimp only
  rw [hu, m_isRow, i_o2_some, u69, e1, if_pos hz, if_neg (by decide), m_within, i_o2_some, if_pos ha, if_neg (by decide), cp, i_o1_some, l1, i_o2_some]
  exact lp
end WASHED

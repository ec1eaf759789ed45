/-! A day passes: class and reference. -/
section DAY
variable {N : Nat} {s u v : gI} {k b : Int} {p q M : Int → Int} {Q R : Cf}
/-- one that was lost is back in hand -/
def bk1 (p : Int → Int) (t : Int) : Int → Int := if p t = 64 ∨ p t = 65 then p else zup p t 64
def bk : Nat → Int → (Int → Int) → Int → Int
  | 0, _, p => p
  | r + 1, t, p => bk r (t + 1) (bk1 p t)
theorem bk1_ne {t j : Int} (h : j ≠ t) : bk1 p t j = p j := by
  unfold bk1
  split
  · rfl
  · exact zup_ne h
theorem bk_ne {j : Int} : ∀ (r : Nat) (t : Int) (p : Int → Int), (j < t ∨ t + r ≤ j) → bk r t p j = p j
  | 0, _, _, _ => rfl
  | r + 1, t, p, h => by
    unfold bk
    rw [bk_ne r (t + 1) _ (by omega), bk1_ne (by omega)]
theorem VV_bk : ∀ (r t : Nat) (p : Int → Int), VV Q p → VV Q (bk r t p)
  | 0, _, _, h => h
  | r + 1, t, p, h => by
    unfold bk
    refine VV_bk r (t + 1) _ ?_
    unfold bk1
    split
    · exact h
    · exact VV_zup h okq_64
theorem bk_eq : ∀ (r : Nat) (t : Int) (p q : Int → Int), 0 ≤ t → t + r ≤ 8 → eq8 p q → eq8 (bk r t p) (bk r t q)
  | 0, _, _, _, _, _, he => he
  | r + 1, t, p, q, t0, t1, he => by
    unfold bk
    refine bk_eq r (t + 1) _ _ (by omega) (by omega) ?_
    unfold bk1
    rw [he t t0 (by omega)]
    split
    · exact he
    · exact he.up rfl
/-- what a blocked pipe costs today -/
def dyC (s : gI) (p : Int → Int) (d : Int) : Int := if 0 < cntAt p 66 (s.1 15 3).toNat then lawV s 28 (cntL p (s.1 15 3).toNat) (wL p (s.1 20) (s.1 15 3).toNat) d else 0
/-- a Saturday on which father climbs up -/
abbrev dyS (s : gI) (p : Int → Int) (d : Int) : Prop := (s.1 15 16 + d) % 7 = 5 ∧ 0 < cntL p (s.1 15 3).toNat
def dyT (s : gI) (p : Int → Int) (d : Int) : Int := if dyS s p d then lawV s 25 (cntL p (s.1 15 3).toNat) (wL p (s.1 20) (s.1 15 3).toNat) d else 0
def dyP (s : gI) (p : Int → Int) (d : Int) : Int → Int := if dyS s p d then bk (s.1 15 3).toNat 0 p else p
def dcs (s : gI) (p : Int → Int) (d m : Int) (v : gI) : Prop := (∀ a : Nat, a ≠ 6 → a ≠ 7 → a ≠ 9 → a ≠ 27 → a ≠ 30 → v.1 a = s.1 a) ∧ v.2 = s.2 ∧ v.1 7 = p ∧ v.1 9 = whof (cQ s) p (s.1 9) ∧ v.1 6 = zup (zup (s.1 6) 4 d) 5 m
theorem lawV_rg {lc : Nat} {l wo d : Int} : 0 ≤ lawV s lc l wo d ∧ lawV s lc l wo d ≤ 99 := clp_rg
theorem dyC_rg {d : Int} : 0 ≤ dyC s p d ∧ dyC s p d ≤ 99 := by
  unfold dyC
  split
  · exact lawV_rg
  · omega
theorem dyT_rg {d : Int} : 0 ≤ dyT s p d ∧ dyT s p d ≤ 99 := by
  unfold dyT
  split
  · exact lawV_rg
  · omega
theorem dcs_Q {d m : Int} (h : dcs s p d m v) : cQ v = cQ s := by
  unfold cQ
  rw [h.1 12 (by decide) (by decide) (by decide) (by decide) (by decide), h.1 13 (by decide) (by decide) (by decide) (by decide) (by decide), h.1 15 (by decide) (by decide) (by decide) (by decide) (by decide), h.1 18 (by decide) (by decide) (by decide) (by decide) (by decide)]
theorem dcs_OK {d m : Int} (h : dcs s p d m v) (hw : cOK s) : cOK v := by
  unfold cOK
  rw [h.1 12 (by decide) (by decide) (by decide) (by decide) (by decide), h.1 13 (by decide) (by decide) (by decide) (by decide) (by decide), h.1 15 (by decide) (by decide) (by decide) (by decide) (by decide)]
  exact hw
theorem dcs_cst {d m : Int} (h : dcs s p d m v) : cst v p = v := by
  refine gI_ext (fun a => ?_) rfl
  by_cases h9 : a = 9
  · subst h9
    rw [cst_9, dcs_Q h, h.2.2.2.1, whof_whof]
  by_cases h7 : a = 7
  · subst h7
    rw [cst_7, h.2.2.1]
  · rw [cst_ne h7 h9]
theorem dcs_put {d m : Int} (h : dcs s p d m v) : dcs s q d m (cst v q) := by
  refine ⟨fun a a6 a7 a9 a27 a30 => ?_, h.2.1, cst_7, ?_, ?_⟩
  · rw [cst_ne a7 a9]; exact h.1 a a6 a7 a9 a27 a30
  · rw [cst_9, dcs_Q h, h.2.2.2.1, whof_whof]
  · rw [cst_ne (by decide) (by decide)]; exact h.2.2.2.2
theorem dcs_law {d m : Int} {a : Nat} {C : Int → Int} (ha : a = 27 ∨ a = 30) (h : dcs s p d m v) : dcs s p d m (ic v a C) := by
  refine ⟨fun b a6 a7 a9 a27 a30 => ?_, h.2.1, ?_, ?_, ?_⟩
  · rw [ic_ne (by omega)]; exact h.1 b a6 a7 a9 a27 a30
  · rw [ic_ne (by omega)]; exact h.2.2.1
  · rw [ic_ne (by omega)]; exact h.2.2.2.1
  · rw [ic_ne (by omega)]; exact h.2.2.2.2
theorem dcs_paid {d m m2 : Int} (h : dcs s p d m v) : dcs s p d m2 (iw v 6 5 m2) := by
  refine ⟨fun b a6 a7 a9 a27 a30 => ?_, h.2.1, ?_, ?_, ?_⟩
  · rw [iw_ne a6]; exact h.1 b a6 a7 a9 a27 a30
  · rw [iw_ne (by decide)]; exact h.2.2.1
  · rw [iw_ne (by decide)]; exact h.2.2.2.1
  · rw [iw_at, h.2.2.2.2, zup_zup]
theorem dcs_day {d m d2 : Int} (h : dcs s p d m v) : dcs s p d2 m (iw v 6 4 d2) := by
  refine ⟨fun b a6 a7 a9 a27 a30 => ?_, h.2.1, ?_, ?_, ?_⟩
  · rw [iw_ne a6]; exact h.1 b a6 a7 a9 a27 a30
  · rw [iw_ne (by decide)]; exact h.2.2.1
  · rw [iw_ne (by decide)]; exact h.2.2.2.1
  · rw [iw_at, h.2.2.2.2, zup_comm _ (by decide), zup_zup]
theorem dcs_4 {d m : Int} (h : dcs s p d m v) : v.1 6 4 = d := by rw [h.2.2.2.2, zup_ne (by decide), zup_same]
theorem dcs_5 {d m : Int} (h : dcs s p d m v) : v.1 6 5 = m := by rw [h.2.2.2.2, zup_same]
theorem dcs_lawV {lc : Nat} {d m l wo dd : Int} (hl : lc = 25 ∨ lc = 28) (h : dcs s p d m v) : lawV v lc l wo dd = lawV s lc l wo dd := by
  unfold lawV
  rw [h.1 lc (by omega) (by omega) (by omega) (by omega) (by omega), h.1 (lc + 1) (by omega) (by omega) (by omega) (by omega) (by omega)]
theorem c_lawAt {lc : Nat} {d m : Int} (hN : 5000 ≤ N) (hw : cOK s) (hwo : cWo s) (hl : lc = 25 ∨ lc = 28) (hr : lawR s (if lc = 25 then 0 else 1) lc) (h : dcs s p d m v) :
    ∃ v2, f64 N lc v = some (lawV s lc (cntL p (s.1 15 3).toNat) (wL p (s.1 20) (s.1 15 3).toNat) d, v2) ∧ dcs s p d m v2 := by
  have e15 := h.1 15 (by decide) (by decide) (by decide) (by decide) (by decide)
  have e20 := h.1 20 (by decide) (by decide) (by decide) (by decide) (by decide)
  have elc := h.1 lc (by omega) (by omega) (by omega) (by omega) (by omega)
  have elc1 := h.1 (lc + 1) (by omega) (by omega) (by omega) (by omega) (by omega)
  obtain ⟨⟨n0, n1⟩, wf⟩ := lawR_wf hr
  have l1 := c_manyLost (N := N) hN (dcs_OK h hw)
  have l2 := c_worthLost (N := N) hN (dcs_OK h hw) (by unfold cWo; rw [e20]; exact hwo)
  rw [h.2.2.1, e15] at l1
  rw [h.2.2.1, e15, e20] at l2
  obtain ⟨C2, l3⟩ := c_law (N := N) (s := v) (r0 := lc) (n := (s.1 lc 2).toNat) (l := cntL p (s.1 15 3).toNat) (w := wL p (s.1 20) (s.1 15 3).toNat) (d := d) hN (by rw [elc]; omega) (by omega) (by rw [elc1]; exact wf)
  refine ⟨ic v (lc + 2) C2, ?_, dcs_law (by omega) h⟩
  unfold f64
  rw [l1, i_o2_some, l2, i_o2_some, dcs_4 h, l3, i_o2_some, clp_min, elc1]
  rfl
theorem c_bk_lp (hw : cOK s) : ∀ (r fuel t : Nat) (p : Int → Int), r < fuel → t + r = (cQ s).2.2.2.1 → VV (cQ s) p → f65_at2 N fuel t (cst s p) = some (cst s (bk r t p)) := by
  intro r
  have hn := hw.2.2.1
  have en : (cQ s).2.2.2.1 = (s.1 15 3).toNat := rfl
  induction r with
  | zero =>
    intro fuel t p hf e hV
    obtain ⟨fuel, rfl⟩ : ∃ g, fuel = g + 1 := ⟨fuel - 1, by omega⟩
    unfold f65_at2
    rw [cst_ne (by decide) (by decide), if_pos (by omega)]
    rfl
  | succ r ih =>
    intro fuel t p hf e hV
    obtain ⟨fuel, rfl⟩ : ∃ g, fuel = g + 1 := ⟨fuel - 1, by omega⟩
    have c : ((t + 1 : Nat) : Int) = (t : Int) + 1 := by omega
    unfold f65_at2 bk bk1
    rw [cst_ne (by decide) (by decide), if_neg (by omega), c_isLost (by omega) (by omega), i_o2_some, cst_7]
    by_cases g : p t = 64
    · rw [if_pos g, if_pos rfl, if_pos (Or.inl g), iov_ok (by omega) (by omega), ← c]
      exact ih fuel (t + 1) p (by omega) (by omega) hV
    rw [if_neg g]
    by_cases g2 : p t = 65
    · rw [if_pos g2, if_pos rfl, if_pos (Or.inr g2), iov_ok (by omega) (by omega), ← c]
      exact ih fuel (t + 1) p (by omega) (by omega) hV
    · rw [if_neg g2, if_neg (by decide), if_neg (by omega), c_put hV (by omega) (by omega) okq_64, i_o1_some, iov_ok (by omega) (by omega), ← c]
      exact ih fuel (t + 1) _ (by omega) (by omega) (VV_zup hV okq_64)
theorem c_day {d m : Int} (hN : 5000 ≤ N) (hw : cOK s) (hwo : cWo s) (h16 : 0 ≤ s.1 15 16 ∧ s.1 15 16 ≤ 6) (r0 : lawR s 0 25) (r1 : lawR s 1 28) (h : dcs s p d m v) (hV : VV (cQ s) p) (d0 : 0 ≤ d) (d1 : d ≤ 1000000) (m0 : 0 ≤ m) (m1 : m ≤ 2000000000) :
    ∃ v2, f62 N v = some v2 ∧ dcs s (dyP s p d) (d + 1) (m + dyC s p d + dyT s p d) v2 := by
  have en : (cQ s).2.2.2.1 = (s.1 15 3).toNat := rfl
  have rc := dyC_rg (s := s) (p := p) (d := d)
  have at74 : ∀ {v : gI} {p : Int → Int} {m : Int}, dcs s p d m v → ∃ v2, f62_at74 N v = some v2 ∧ dcs s p (d + 1) m v2 := by
    intro v p m h
    refine ⟨_, ?_, dcs_day h⟩
    unfold f62_at74
    rw [dcs_4 h, iov_ok (by omega) (by omega)]
  have at32 : ∀ {v : gI} {m : Int}, 0 ≤ m → m ≤ 2000000099 → dcs s p d m v → ∃ v2, f62_at32 N v = some v2 ∧ dcs s (dyP s p d) (d + 1) (m + dyT s p d) v2 := by
    intro v m m0 m1 h
    have e15 := h.1 15 (by decide) (by decide) (by decide) (by decide) (by decide)
    have l63 : f63 N v = some ((12 - (s.1 15 16 + d) % 7) % 7 + 1, v) := by
      unfold f63
      rw [e15, dcs_4 h, iov_ok (by omega) (by omega), idv_ok (by omega) (by decide)]
      dsimp only
      rw [iov_ok (by omega) (by omega), idv_ok (by omega) (by decide), iov_ok (by omega) (by omega)]
    have no : ¬ dyS s p d → ∃ v2, f62_at74 N v = some v2 ∧ dcs s (dyP s p d) (d + 1) (m + dyT s p d) v2 := by
      intro hs
      have e1 : dyP s p d = p := if_neg hs
      have e2 : dyT s p d = 0 := if_neg hs
      rw [e1, e2, Int.add_zero]
      exact at74 h
    unfold f62_at32
    rw [l63, i_o2_some]
    by_cases g : (s.1 15 16 + d) % 7 = 5
    rotate_left
    · rw [if_neg (by omega)]
      exact no (fun hh => g hh.1)
    rw [if_pos (by omega)]
    have l1 := c_manyLost (N := N) hN (dcs_OK h hw)
    rw [h.2.2.1, e15] at l1
    rw [l1, i_o2_some]
    by_cases g2 : cntL p (s.1 15 3).toNat ≤ 0
    · rw [if_pos g2]
      exact no (fun hh => by have := hh.2; omega)
    rw [if_neg g2]
    have hs : dyS s p d := ⟨g, by omega⟩
    have e1 : dyP s p d = bk (s.1 15 3).toNat 0 p := if_pos hs
    have e2 : dyT s p d = lawV s 25 (cntL p (s.1 15 3).toNat) (wL p (s.1 20) (s.1 15 3).toNat) d := if_pos hs
    have rt := dyT_rg (s := s) (p := p) (d := d)
    obtain ⟨v1, l2, h1⟩ := c_lawAt (lc := 25) hN hw hwo (Or.inl rfl) r0 h
    rw [← e2] at l2
    rw [l2, i_o2_some, dcs_5 h, iov_ok (by omega) (by omega)]
    dsimp only
    have h3 := dcs_paid (m2 := m + dyT s p d) h1
    have l4 := c_bk_lp (N := N) (s := iw v1 6 5 (m + dyT s p d)) (dcs_OK h3 hw) (s.1 15 3).toNat N 0 p (by have := hw.2.2.1; omega) (by rw [dcs_Q h3, en]; omega) (by rw [dcs_Q h3]; exact hV)
    rw [dcs_cst h3] at l4
    have l5 : f65 N (iw v1 6 5 (m + dyT s p d)) = some (cst (iw v1 6 5 (m + dyT s p d)) (bk (s.1 15 3).toNat 0 p)) := l4
    rw [l5, i_o1_some, e1]
    exact at74 (dcs_put h3)
  have e15 := h.1 15 (by decide) (by decide) (by decide) (by decide) (by decide)
  have l0 := c_manyAt (N := N) (w := 66) hN (dcs_OK h hw)
  rw [h.2.2.1, e15] at l0
  unfold f62
  rw [l0, i_o2_some]
  by_cases g : cntAt p 66 (s.1 15 3).toNat ≤ 0
  · have e : dyC s p d = 0 := if_neg (by omega)
    rw [if_pos g, e, Int.add_zero]
    exact at32 m0 (by omega) h
  · have e : dyC s p d = lawV s 28 (cntL p (s.1 15 3).toNat) (wL p (s.1 20) (s.1 15 3).toNat) d := if_pos (by omega)
    obtain ⟨v1, l2, h1⟩ := c_lawAt (lc := 28) hN hw hwo (Or.inr rfl) r1 h
    rw [← e] at l2
    rw [if_neg g, l2, i_o2_some, dcs_5 h, iov_ok (by omega) (by omega)]
    exact at32 (by omega) (by omega) (dcs_paid h1)
end DAY

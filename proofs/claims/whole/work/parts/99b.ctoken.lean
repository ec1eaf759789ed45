/-! The class' tape: what stands next, and taking it. -/
section CTOK
variable {N : Nat} {s u v : gI} {F G A : Int → Int} {n e st lo hi c m zn : Int} {r i w : Nat}
def cf (k : Nat) : Int → Int := fun i => (i_cin.getD (k - 1000) []).getD i.toNat 0
theorem ic_cf (k : Nat) : i_c k = cf k := by
  funext i
  exact i_c_def k i
/-- the constant at r tells word w -/
def wdC (r : Nat) (zn : Int) (w : Nat) : Prop := i_c r 1 = 0 ∧ (0 < zn ∧ zn ≤ 8) ∧ (∀ j : Int, 0 ≤ j → j < zn → 97 ≤ i_c (r + 1) j ∧ i_c (r + 1) j ≤ 122) ∧ wvl (i_c (r + 1)) 37 96 0 zn.toNat = wordsT.getD w 0
theorem wdC_of {z : Nat} (h : cf r 1 = 0 ∧ (0 < z ∧ z ≤ 8) ∧ (∀ j : Fin 8, j.val < z → 97 ≤ cf (r + 1) (j.val : Int) ∧ cf (r + 1) (j.val : Int) ≤ 122) ∧ wvl (cf (r + 1)) 37 96 0 z = wordsT.getD w 0) : wdC r (z : Int) w := by
  obtain ⟨h1, h2, h3, h4⟩ := h
  unfold wdC
  rw [ic_cf, ic_cf]
  refine ⟨h1, ⟨by omega, by omega⟩, fun j j0 j1 => ?_, h4⟩
  have e : ((j.toNat : Nat) : Int) = j := Int.toNat_of_nonneg j0
  have := h3 ⟨j.toNat, by omega⟩ (by show j.toNat < z; omega)
  rw [← e]
  exact this
abbrev isW (F : Int → Int) (n st : Int) (w : Nat) : Prop := tK F n st = 2 ∧ tV F n st = wordsT.getD w 0
abbrev isS (F : Int → Int) (n st c : Int) : Prop := tK F n st = 4 ∧ tV F n st = c
/-- the class stands at number i -/
def cAt (F : Int → Int) (n : Int) (i : Nat) (s : gI) : Prop := s.1 2 = F ∧ atC F n (tP F n i) (s.1 1)
theorem cAt.ic (h : cAt F n i s) (hG : atC F n (tP F n e.toNat) G) : cAt F n e.toNat (ic s 1 G) := ⟨by rw [ic_ne (by decide)]; exact h.1, by rw [ic_at]; exact hG⟩
theorem c_chr {x : Int} (hc : i_c r 1 = 0) (hz : zn ≤ 8) (x0 : 0 ≤ x) (x1 : x < zn) (hx : 97 ≤ i_c (r + 1) x ∧ i_c (r + 1) x ≤ 122) : f301 N r zn x s = some (i_c (r + 1) x, s) := by
  unfold f301 f305 f308 f306 f322
  rw [if_neg (by decide), hc, if_pos rfl, ib1_ok (Or.inr rfl), i_o2_some, if_neg (by decide), iov_ok (by omega) (by omega), if_neg (by omega), if_pos (by omega), i_o2_some, i_o1_some, ick_ok x0 x1, iand255 (by omega) (by omega), ich_ok (by omega) (by omega), ich_ok (by omega) (by omega), i_o2_some, ich_ok (by omega) (by omega)]
theorem c_isWord_lp (hw : wdC r zn w) (h2 : s.1 2 = F) (h3 : s.1 1 3 = st) (h4 : s.1 1 4 = st + zn) (s0 : 0 ≤ st) (s1 : st + zn ≤ 1000) : ∀ (q fuel : Nat) (j : Int), 0 ≤ j → j + q = zn → q < fuel → ∃ z, f101_at31 N r zn fuel (st + j) s = some (z, s) ∧ (z = 1 ∨ z = 0) ∧ (z = 1 ↔ ∀ i : Int, j ≤ i → i < zn → F (st + i) = i_c (r + 1) i)
  | 0, fuel, j, j0, e, hf => by
    obtain ⟨fuel, rfl⟩ : ∃ g, fuel = g + 1 := ⟨fuel - 1, by omega⟩
    refine ⟨1, ?_, Or.inl rfl, fun _ i a b => by omega, fun _ => rfl⟩
    unfold f101_at31
    rw [h4, if_pos (by omega), ib1_ok (Or.inr rfl)]
  | q + 1, fuel, j, j0, e, hf => by
    obtain ⟨fuel, rfl⟩ : ∃ g, fuel = g + 1 := ⟨fuel - 1, by omega⟩
    obtain ⟨w1, w2, w3, w4⟩ := id hw
    have := w3 j j0 (by omega)
    unfold f101_at31
    rw [h4, if_neg (by omega), ick_ok (by omega) (by omega), h3, show st + j - st = j by omega, iov_ok (by omega) (by omega), c_chr w1 w2.2 j0 (by omega) this, i_o2_some, h2]
    by_cases g : F (st + j) = i_c (r + 1) j
    · rw [if_pos g, iov_ok (by omega) (by omega)]
      obtain ⟨z, z1, z2, z3⟩ := c_isWord_lp hw h2 h3 h4 s0 s1 q fuel (j + 1) (by omega) (by omega) (by omega)
      rw [show st + (j + 1) = st + j + 1 by omega] at z1
      refine ⟨z, z1, z2, z3.trans ⟨fun h i a b => ?_, fun h i a b => h i (by omega) b⟩⟩
      by_cases q : i = j
      · subst q; exact g
      · exact h i (by omega) b
    · rw [if_neg g, ib1_ok (Or.inl rfl)]
      exact ⟨0, rfl, Or.inr rfl, fun h => by omega, fun h => absurd (h j (Int.le_refl _) (by omega)) g⟩
theorem c_isWord (hN : 5000 ≤ N) (hT : tpF F n) (hc : cAt F n i s) (hw : wdC r zn w) : f101 N r zn s = some (if isW F n (tP F n i) w then 1 else 0, s) := by
  obtain ⟨h2, g1, g2, g3, g4, g5⟩ := hc
  have rg := tP_rg (F := F) hT.1.1 i
  have eg := tE_le (F := F) rg.2
  obtain ⟨w1, w2, w3, w4⟩ := id hw
  have hT1 := hT.1
  unfold f101
  rw [g2]
  by_cases k2 : tK F n (tP F n i) = 2
  rotate_left
  · rw [if_neg k2, ib1_ok (Or.inl rfl), if_neg (fun z => k2 z.1)]
  obtain ⟨t1, t2, t3, t4⟩ := tK_2 k2
  have ev : tV F n (tP F n i) = wvl F 37 96 (tP F n i) (tE F n (tP F n i) - tP F n i).toNat := if_pos k2
  rw [if_pos k2, g3, g4, iov_ok (by omega) (by omega)]
  unfold f300 f304
  rw [if_neg (by decide), w1, iov_ok (by omega) (by omega), ib1_ok (Or.inl rfl), i_o2_some]
  dsimp only
  rw [ish0 (by omega) (by omega), i_o2_some]
  by_cases g : tE F n (tP F n i) - tP F n i = zn
  · rw [if_pos g]
    obtain ⟨z, z1, z2, z3⟩ := c_isWord_lp (N := N) hw h2 g3 (by rw [g4]; omega) (by omega) (by omega) zn.toNat N 0 (by decide) (by omega) (by omega)
    rw [show tP F n i + 0 = tP F n i by omega] at z1
    rw [g3, z1]
    have : z = if isW F n (tP F n i) w then 1 else 0 := by
      by_cases q : isW F n (tP F n i) w
      · rw [if_pos q]
        refine z3.mpr (fun j a b => ?_)
        have e1 : wvl F 37 96 (tP F n i) zn.toNat = wvl (i_c (r + 1)) 37 96 0 zn.toNat := by
          rw [w4, ← q.2, ev, g]
        have := (wvl_inj zn.toNat zn.toNat (tP F n i) 0 (fun j a b => t2 j a (by omega)) (fun j a b => w3 j a (by omega)) e1).2 j.toNat (by omega)
        rw [show ((j.toNat : Nat) : Int) = j by omega, show 0 + j = j by omega] at this
        exact this
      · rw [if_neg q]
        rcases z2 with h | h
        · exfalso
          apply q
          refine ⟨k2, ?_⟩
          rw [ev, g, ← w4]
          exact wvl_cg _ _ _ (fun j hj => by
            have := z3.mp h (j : Int) (by omega) (by omega)
            rw [this, show (0 : Int) + (j : Int) = j by omega])
        · exact h
    rw [this]
  · rw [if_neg g, ib1_ok (Or.inl rfl), if_neg (fun z => g ?_)]
    have e1 : wvl F 37 96 (tP F n i) (tE F n (tP F n i) - tP F n i).toNat = wvl (i_c (r + 1)) 37 96 0 zn.toNat := by
      rw [w4, ← z.2, ev]
    have := (wvl_inj _ _ _ 0 (fun j a b => t2 j a (by omega)) (fun j a b => w3 j a (by omega)) e1).1
    omega
theorem c_isSign (hT : tpF F n) (hc : cAt F n i s) : f100 N c s = some (if isS F n (tP F n i) c then 1 else 0, s) := by
  obtain ⟨h2, g1, g2, g3, g4, g5⟩ := hc
  have rg := tP_rg (F := F) hT.1.1 i
  have hT1 := hT.1
  unfold f100
  rw [g2]
  by_cases k : tK F n (tP F n i) = 4
  · have ev : tV F n (tP F n i) = F (tP F n i) := by unfold tV; rw [if_neg (by omega), if_neg (by omega)]
    have := (tK_4 k).1
    rw [if_pos k, g3, h2, ick_ok (by omega) (by omega)]
    by_cases q : F (tP F n i) = c
    · rw [if_pos q, if_pos ⟨k, by rw [ev]; exact q⟩, ib1_ok (Or.inr rfl)]
    · rw [if_neg q, if_neg (fun z => q (by rw [← ev]; exact z.2)), ib1_ok (Or.inl rfl)]
  · rw [if_neg k, if_neg (fun z => k z.1), ib1_ok (Or.inl rfl)]
theorem c_fail {z : Int} (hT : tpF F n) (hc : cAt F n i s) (z0 : 0 ≤ z) (z1 : z ≤ 16) : f104 N z s = some (0, ic s 1 (zup (s.1 1) 7 (z + 16 * tP F n i))) := by
  have rg := tP_rg (F := F) hT.1.1 i
  have hT1 := hT.1
  unfold f104
  rw [hc.2.2.2.1, iov_ok (by omega) (by omega), iov_ok (by omega) (by omega)]
  dsimp only
  rw [ib1_ok (Or.inl rfl), iw_ic]
theorem c_next1 (hN : 5000 ≤ N) (hT : tpF F n) (hc : cAt F n i s) : ∃ G, f97 N s = some (ic s 1 G) ∧ atC F n (tP F n (i + 1)) G ∧ G 6 = s.1 1 6 ∧ G 7 = s.1 1 7 := by
  obtain ⟨h2, g1, g2, g3, g4, g5⟩ := hc
  have rg := tP_rg (F := F) hT.1.1 i
  have eg := tE_le (F := F) rg.2
  exact c_adv hN g1 h2 hT g4 (by omega) eg.2
theorem c_takeWord (hN : 5000 ≤ N) (hT : tpF F n) (hc : cAt F n i s) (hw : wdC r zn w) :
    (isW F n (tP F n i) w ∧ ∃ G, f105 N r zn s = some (1, ic s 1 G) ∧ atC F n (tP F n (i + 1)) G ∧ G 6 = s.1 1 6 ∧ G 7 = s.1 1 7) ∨
    (¬ isW F n (tP F n i) w ∧ f105 N r zn s = some (0, ic s 1 (zup (s.1 1) 7 (1 + 16 * tP F n i)))) := by
  unfold f105
  rw [c_isWord hN hT hc hw, i_o2_some]
  by_cases q : isW F n (tP F n i) w
  · refine Or.inl ⟨q, ?_⟩
    obtain ⟨G, h1, h2⟩ := c_next1 hN hT hc
    refine ⟨G, ?_, h2⟩
    rw [if_pos q, if_neg (by decide), h1, i_o1_some, ib1_ok (Or.inr rfl)]
  · refine Or.inr ⟨q, ?_⟩
    rw [if_neg q, if_pos rfl, c_fail hT hc (by decide) (by decide), i_o2_some, ib1_ok (Or.inl rfl)]
theorem c_takeSemi (hN : 5000 ≤ N) (hT : tpF F n) (hc : cAt F n i s) :
    (isS F n (tP F n i) 59 ∧ ∃ G, f106 N s = some (1, ic s 1 G) ∧ atC F n (tP F n (i + 1)) G ∧ G 6 = s.1 1 6 ∧ G 7 = s.1 1 7) ∨
    (¬ isS F n (tP F n i) 59 ∧ f106 N s = some (0, ic s 1 (zup (s.1 1) 7 (1 + 16 * tP F n i)))) := by
  unfold f106
  rw [c_isSign hT hc, i_o2_some]
  by_cases q : isS F n (tP F n i) 59
  · refine Or.inl ⟨q, ?_⟩
    obtain ⟨G, h1, h2⟩ := c_next1 hN hT hc
    refine ⟨G, ?_, h2⟩
    rw [if_pos q, if_neg (by decide), h1, i_o1_some, ib1_ok (Or.inr rfl)]
  · refine Or.inr ⟨q, ?_⟩
    rw [if_neg q, if_pos rfl, c_fail hT hc (by decide) (by decide), i_o2_some, ib1_ok (Or.inl rfl)]
/-- why a NUMBER isn't taken -/
def nWhy (F : Int → Int) (n st : Int) : Int := if tK F n st = 3 then 4 else 1
abbrev isN (F : Int → Int) (n st lo hi : Int) : Prop := tK F n st = 3 ∧ lo ≤ tV F n st ∧ tV F n st ≤ hi
theorem c_takeNum (hN : 5000 ≤ N) (hT : tpF F n) (hc : cAt F n i s) :
    (isN F n (tP F n i) lo hi ∧ ∃ G, f107 N lo hi s = some (1, ic s 1 G) ∧ atC F n (tP F n (i + 1)) G ∧ G 6 = tV F n (tP F n i) ∧ G 7 = s.1 1 7) ∨
    (¬ isN F n (tP F n i) lo hi ∧ f107 N lo hi s = some (0, ic s 1 (zup (s.1 1) 7 (nWhy F n (tP F n i) + 16 * tP F n i)))) := by
  obtain ⟨h2, g1, g2, g3, g4, g5⟩ := id hc
  unfold f107 f107_at30
  rw [g2]
  by_cases k : tK F n (tP F n i) = 3
  · rw [if_pos k, g5 k]
    by_cases q : lo ≤ tV F n (tP F n i) ∧ tV F n (tP F n i) ≤ hi
    · refine Or.inl ⟨⟨k, q⟩, ?_⟩
      rw [if_neg (by omega), if_pos q.2]
      dsimp only
      have hc2 : cAt F n i (iw s 1 6 (tV F n (tP F n i))) := by
        rw [iw_ic]
        refine ⟨by rw [ic_ne (by decide)]; exact h2, ?_⟩
        rw [ic_at]
        refine ⟨?_, ?_, ?_, ?_, fun z => ?_⟩
        · rw [zup_ne (by decide)]; exact g1
        · rw [zup_ne (by decide)]; exact g2
        · rw [zup_ne (by decide)]; exact g3
        · rw [zup_ne (by decide)]; exact g4
        · rw [zup_ne (by decide)]; exact g5 z
      obtain ⟨G, a1, a2, a3, a4⟩ := c_next1 hN hT hc2
      refine ⟨G, ?_, a2, ?_, ?_⟩
      · rw [a1, i_o1_some, ib1_ok (Or.inr rfl), iw_ic, ic_ic]
      · rw [a3, iw_at, zup_same]
      · rw [a4, iw_at, zup_ne (by decide)]
    · refine Or.inr ⟨fun z => q z.2, ?_⟩
      have e : nWhy F n (tP F n i) = 4 := if_pos k
      rw [c_fail hT hc (by decide) (by decide), i_o2_some, ib1_ok (Or.inl rfl), e]
      by_cases q1 : tV F n (tP F n i) < lo
      · rw [if_pos q1]
      · rw [if_neg q1, if_neg (by omega)]
  · refine Or.inr ⟨fun z => k z.1, ?_⟩
    have e : nWhy F n (tP F n i) = 1 := if_neg k
    rw [if_neg k, c_fail hT hc (by decide) (by decide), i_o2_some, ib1_ok (Or.inl rfl), e]
theorem c_letter {x : Int} (hT : tpF F n) (hc : cAt F n i s) (k : tK F n (tP F n i) = 2) (x0 : 0 ≤ x) (x1 : tP F n i + x < tE F n (tP F n i)) : f103 N x s = some (F (tP F n i + x), s) := by
  obtain ⟨h2, g1, g2, g3, g4, g5⟩ := id hc
  have rg := tP_rg (F := F) hT.1.1 i
  have eg := tE_le (F := F) rg.2
  have hT1 := hT.1
  obtain ⟨t1, t2, t3, t4⟩ := tK_2 k
  have := t2 (tP F n i + x) (by omega) x1
  unfold f103
  rw [if_neg (by omega), g3, g4, h2, iov_ok (by omega) (by omega), if_neg (by omega), iov_ok (by omega) (by omega), ick_ok (by omega) (by omega), ich_ok (by omega) (by omega)]
end CTOK

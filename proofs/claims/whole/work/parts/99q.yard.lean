/-! A YARD read: what class and reference have of it, line by line; names found. -/
def yP (H A m : Int → Int) : Prop := m 70 = H 0 ∧ (0 ≤ H 0 ∧ H 0 ≤ 4) ∧ ∀ p, 0 ≤ p → p < H 0 → m (80 + p) = A p
def yT (H K O W m : Int → Int) : Prop := m 71 = H 3 ∧ (0 ≤ H 3 ∧ H 3 ≤ 8) ∧ (∀ j, 0 ≤ j → j < H 3 → m (84 + 3 * j) = K j ∧ m (84 + 3 * j + 1) = O j ∧ (0 ≤ O j ∧ O j < H 0) ∧ m (84 + 3 * j + 2) = W j) ∧ ∀ j, 0 ≤ j → j < 8 → 0 ≤ m (84 + 3 * j + 2) ∧ m (84 + 3 * j + 2) ≤ 99
def yS (H a u x m : Int → Int) : Prop := m 72 = H 8 ∧ (0 ≤ H 8 ∧ H 8 ≤ 6) ∧ ∀ i, 0 ≤ i → i < H 8 → (0 ≤ m (108 + 4 * i) ∧ m (108 + 4 * i) ≤ 1) ∧ (0 ≤ m (108 + 4 * i + 1) ∧ m (108 + 4 * i + 1) ≤ 8) ∧
  a i = (if m (108 + 4 * i) = 0 then -(m (108 + 4 * i + 1)) else m (108 + 4 * i + 1)) ∧ m (108 + 4 * i + 2) = u i ∧ (1 ≤ u i ∧ u i ≤ 12) ∧ m (108 + 4 * i + 3) = x i ∧ (1 ≤ x i ∧ x i ≤ 99)
def yL (H m : Int → Int) : Prop := m 73 = H 12 ∧ (-1 ≤ H 12 ∧ H 12 ≤ 12) ∧ m 74 = H 15 ∧ (-1 ≤ H 15 ∧ H 15 ≤ 8) ∧ (0 ≤ H 15 → m 75 = H 13 ∧ (0 ≤ H 13 ∧ H 13 ≤ 7) ∧ m 76 = H 14 ∧ (0 ≤ H 14 ∧ H 14 ≤ 7)) ∧ m 77 = H 16 ∧ (0 ≤ H 16 ∧ H 16 ≤ 6)
def yW (w : Int) (l c m o g : Int → Int) (cc : Int) : Prop := (m (78 + w) = -1 ∧ l 2 = 1 ∧ c 0 = (if w = 0 then 10000 else 1)) ∨
  (0 ≤ m (78 + w) ∧ 0 ≤ l 2 ∧ l 2 ≤ 1000 ∧ m (78 + w) + l 2 < cc ∧ o (1100 + m (78 + w) + l 2) = 0 ∧ (∀ i, 0 ≤ i → i < l 2 → codeR (c i) (o (1100 + m (78 + w) + i)) (g (1100 + m (78 + w) + i))) ∧ wfC c (l 2).toNat)
def yN (H P T : Int → Int) (k : Int) (V O : Int → Int) : Prop := k = H 0 + H 3 ∧ (∀ p, 0 ≤ p → p < H 0 → ∃ q, 0 ≤ q ∧ q < k ∧ O q = p ∧ PV (P p) (V q)) ∧ (∀ j, 0 ≤ j → j < H 3 → ∃ q, 0 ≤ q ∧ q < k ∧ O q = 100 ∧ PV (T j) (V q)) ∧
  (∀ q, 0 ≤ q → q < k → (∃ p, 0 ≤ p ∧ p < H 0 ∧ O q = p ∧ PV (P p) (V q)) ∨ (∃ j, 0 ≤ j ∧ j < H 3 ∧ O q = 100 ∧ PV (T j) (V q))) ∧ ∀ q r, 0 ≤ q → q < r → r < k → V q ≠ V r
def spY (s : gI) : Prop := (∀ i, 0 ≤ i → i < 4 → 0 ≤ s.1 48 i ∧ s.1 48 i ≤ 10) ∧ ∀ t, 0 ≤ t → t < 8 → (0 ≤ s.1 50 t ∧ s.1 50 t ≤ 3) ∧ 0 ≤ s.1 52 t ∧ s.1 52 t ≤ 99
/-- class (in s) and reference (in t) have read the same of a YARD -/
def YR (s t : gI) : Prop := yP (s.1 47) (s.1 48) (t.1 71) ∧ yT (s.1 47) (s.1 50) (s.1 51) (s.1 52) (t.1 71) ∧ yS (s.1 47) (s.1 54) (s.1 55) (s.1 56) (t.1 71) ∧ yL (s.1 47) (t.1 71) ∧
  yW 0 (s.1 57) (s.1 58) (t.1 71) (t.1 72) (t.1 73) (t.1 63 15) ∧ yW 1 (s.1 60) (s.1 61) (t.1 71) (t.1 72) (t.1 73) (t.1 63 15) ∧ yN (s.1 47) (s.2 49) (s.2 53) (t.1 63 18) (t.2 74) (t.1 75) ∧ (s.1 3 2 = t.1 63 19 ∧ 0 ≤ s.1 3 2 ∧ s.1 3 2 ≤ 31)
/-- and stand at the same place of the tape -/
def LSt (F : Int → Int) (n : Int) (i : Nat) (s t : gI) : Prop := cAt F n i s ∧ mAt F n i t ∧ YR s t ∧ (0 ≤ t.1 63 15 ∧ t.1 63 15 ≤ i) ∧ spY s
def frY (s v : gI) : Prop := (∀ a : Nat, a ≠ 1 → a ≠ 3 → a ≠ 4 → a ≠ 5 → (a < 47 ∨ 62 < a) → v.1 a = s.1 a) ∧ ∀ a : Nat, a ≠ 49 → a ≠ 53 → v.2 a = s.2 a
def frZ (t v : gI) : Prop := (∀ a : Nat, a ≠ 63 → a ≠ 71 → a ≠ 72 → a ≠ 73 → a ≠ 75 → v.1 a = t.1 a) ∧ (∀ a : Nat, a ≠ 74 → v.2 a = t.2 a) ∧ (∀ j, j < 70 → v.1 71 j = t.1 71 j) ∧ (∀ j, j < 1100 → v.1 72 j = t.1 72 j ∧ v.1 73 j = t.1 73 j) ∧ ∀ j, j ≠ 7 → j ≠ 8 → j ≠ 15 → j ≠ 18 → j ≠ 19 → v.1 63 j = t.1 63 j
/-- the reference has met the FAULT z, or will at once, for want of a ; -/
def LB (F : Int → Int) (n z : Int) (t : gI) : Prop := 0 < z ∧ (mBad z t ∨ ∃ j2, mAt F n j2 t ∧ z = 1 + 16 * tP F n j2 ∧ ¬ isS F n (tP F n j2) 59)
/-- a line read by both -/
def LO (F : Int → Int) (n : Int) (i : Nat) (s t : gI) (b : Int) (s2 t2 : gI) : Prop := frY s s2 ∧ frZ t t2 ∧ spY s2 ∧ ((b = 1 ∧ ∃ j, i < j ∧ LSt F n j s2 t2) ∨ (b = 0 ∧ LB F n (s2.1 1 7) t2))
section YARDQ
variable {N : Nat} {s t u v v1 : gI} {F G A B C T H P V O K W m : Int → Int} {n e st lo hi c zn br w k d l cc p q y x z : Int} {r i i2 lc a b ww : Nat}
theorem frY.rf : frY s s := ⟨fun _ _ _ _ _ _ => rfl, fun _ _ _ => rfl⟩
theorem frY.tr (h1 : frY s u) (h2 : frY u v) : frY s v := ⟨fun a q1 q2 q3 q4 q5 => (h2.1 a q1 q2 q3 q4 q5).trans (h1.1 a q1 q2 q3 q4 q5), fun a q1 q2 => (h2.2 a q1 q2).trans (h1.2 a q1 q2)⟩
theorem frY.ce (h : a = 1 ∨ a = 3 ∨ a = 4 ∨ a = 5 ∨ (47 ≤ a ∧ a ≤ 62)) : frY s (ic s a G) := ⟨fun b q1 q2 q3 q4 q5 => ic_ne (by omega), fun _ _ _ => rfl⟩
theorem frY.wr (h : a = 1 ∨ a = 3 ∨ a = 4 ∨ a = 5 ∨ (47 ≤ a ∧ a ≤ 62)) : frY s (iw s a x y) := ⟨fun b q1 q2 q3 q4 q5 => iw_ne (by omega), fun _ _ _ => rfl⟩
theorem frY.wl (h : a = 49 ∨ a = 53) : frY s (iwl s a x y) := ⟨fun _ _ _ _ _ _ => rfl, fun b q1 q2 => iwl_ne (by omega)⟩
theorem frM.Y (hl : lc = 57 ∨ lc = 60) (h : frM lc s v) : frY s v := ⟨fun b q1 q2 q3 q4 q5 => h.1 b q1 q3 q4 (by omega) (by omega), fun b _ _ => by rw [h.2]⟩
theorem frZ.rf : frZ t t := ⟨fun _ _ _ _ _ _ => rfl, fun _ _ => rfl, fun _ _ => rfl, fun _ _ => ⟨rfl, rfl⟩, fun _ _ _ _ _ _ => rfl⟩
theorem frZ.tr (h1 : frZ t u) (h2 : frZ u v) : frZ t v := ⟨fun a q1 q2 q3 q4 q5 => (h2.1 a q1 q2 q3 q4 q5).trans (h1.1 a q1 q2 q3 q4 q5), fun a q1 => (h2.2.1 a q1).trans (h1.2.1 a q1), fun j hj => (h2.2.2.1 j hj).trans (h1.2.2.1 j hj), fun j hj => ⟨(h2.2.2.2.1 j hj).1.trans (h1.2.2.2.1 j hj).1, (h2.2.2.2.1 j hj).2.trans (h1.2.2.2.1 j hj).2⟩, fun j q1 q2 q3 q4 q5 => (h2.2.2.2.2 j q1 q2 q3 q4 q5).trans (h1.2.2.2.2 j q1 q2 q3 q4 q5)⟩
theorem frZ.wr (h : x = 7 ∨ x = 8 ∨ x = 15 ∨ x = 18 ∨ x = 19) : frZ t (iw t 63 x y) := ⟨fun a q1 q2 q3 q4 q5 => iw_ne q1, fun _ _ => rfl, fun j _ => by rw [iw_ne (by decide)], fun j _ => ⟨by rw [iw_ne (by decide)], by rw [iw_ne (by decide)]⟩, fun j q1 q2 q3 q4 q5 => by rw [iw_at, zup_ne (by omega)]⟩
theorem frZ.w1 (h : 70 ≤ x) : frZ t (iw t 71 x y) := ⟨fun a q1 q2 q3 q4 q5 => iw_ne q2, fun _ _ => rfl, fun j _ => by rw [iw_at, zup_ne (by omega)], fun j _ => ⟨by rw [iw_ne (by decide)], by rw [iw_ne (by decide)]⟩, fun j q1 q2 q3 q4 q5 => by rw [iw_ne (by decide)]⟩
theorem frZ.w5 : frZ t (iw t 75 x y) := ⟨fun a q1 q2 q3 q4 q5 => iw_ne q5, fun _ _ => rfl, fun j _ => by rw [iw_ne (by decide)], fun j _ => ⟨by rw [iw_ne (by decide)], by rw [iw_ne (by decide)]⟩, fun j q1 q2 q3 q4 q5 => by rw [iw_ne (by decide)]⟩
theorem frZ.wl : frZ t (iwl t 74 x y) := ⟨fun _ _ _ _ _ _ => rfl, fun a q => iwl_ne q, fun _ _ => rfl, fun _ _ => ⟨rfl, rfl⟩, fun _ _ _ _ _ _ => rfl⟩
theorem frK.Z (h : frK c t v) (c0 : 0 ≤ c) : frZ t v := ⟨fun a q1 q2 q3 q4 q5 => h.1 a q1 q3 q4, fun a _ => by rw [h.2.1], fun j _ => by rw [h.1 71 (by decide) (by decide) (by decide)], fun j hj => h.2.2.1 j (by omega), fun j q1 q2 q3 q4 q5 => h.2.2.2 j q1 q2 q3⟩
theorem iw_iw : iw (iw t a x y) a x z = iw t a x z := by
  simp only [iw_ic, ic_at, ic_ic, zup_zup]
theorem mBad.w1 (h : mBad z t) : mBad z (iw t 71 x y) := h.of (by rw [iw_ne (by decide)]) (by rw [iw_ne (by decide)])
theorem YR_cg (h : YR s t) {s2 t2 : gI} (h3 : s2.1 3 2 = s.1 3 2) (hs : ∀ a : Nat, 47 ≤ a → a ≤ 62 → s2.1 a = s.1 a) (hl1 : s2.2 49 = s.2 49) (hl2 : s2.2 53 = s.2 53) (ht : ∀ a : Nat, 71 ≤ a → a ≤ 75 → t2.1 a = t.1 a) (hl3 : t2.2 74 = t.2 74) (h15 : t2.1 63 15 = t.1 63 15) (h18 : t2.1 63 18 = t.1 63 18) (h19 : t2.1 63 19 = t.1 63 19) : YR s2 t2 := by
  unfold YR
  rw [hs 47 (by decide) (by decide), hs 48 (by decide) (by decide), hs 50 (by decide) (by decide), hs 51 (by decide) (by decide), hs 52 (by decide) (by decide), hs 54 (by decide) (by decide), hs 55 (by decide) (by decide), hs 56 (by decide) (by decide), hs 57 (by decide) (by decide), hs 58 (by decide) (by decide), hs 60 (by decide) (by decide), hs 61 (by decide) (by decide), hl1, hl2, ht 71 (by decide) (by decide), ht 72 (by decide) (by decide), ht 73 (by decide) (by decide), ht 75 (by decide) (by decide), hl3, h15, h18, h19, h3]
  exact h
/-- both go on -/
theorem YR_mv (h : YR s t) : YR (ic s 1 G) (iw t 63 7 x) := YR_cg h (by rw [ic_ne (by decide)]) (fun a a0 a1 => ic_ne (by omega)) rfl rfl (fun a a0 a1 => iw_ne (by omega)) rfl (by rw [iw_at, zup_ne (by decide)]) (by rw [iw_at, zup_ne (by decide)]) (by rw [iw_at, zup_ne (by decide)])
theorem spY_cg {s2 : gI} (h : spY s) (h1 : s2.1 48 = s.1 48) (h2 : s2.1 50 = s.1 50) (h3 : s2.1 52 = s.1 52) : spY s2 := by
  unfold spY
  rw [h1, h2, h3]
  exact h
theorem spY_1 (h : spY s) : spY (ic s 1 G) := spY_cg h (ic_ne (by decide)) (ic_ne (by decide)) (ic_ne (by decide))
theorem LSt_mv (h : LSt F n i s t) {i2 : Nat} (hG : atC F n (tP F n i2) G) (hi : i ≤ i2) (hm : mAt F n i2 (iw t 63 7 x)) : LSt F n i2 (ic s 1 G) (iw t 63 7 x) :=
  ⟨⟨by rw [ic_ne (by decide)]; exact h.1.1, by rw [ic_at]; exact hG⟩, hm, YR_mv h.2.2.1, by rw [iw_at, zup_ne (by decide)]; exact ⟨h.2.2.2.1.1, by have := h.2.2.2.1.2; omega⟩, spY_1 h.2.2.2.2⟩
/-- a FAULT met by both at once -/
theorem LO_bad (hT : tpF F n) (hm : mAt F n i2 t) (hsp : spY s) (z0 : 0 < z) (hG : G 7 = z + 16 * tP F n i2) (fY : frY s (ic s 1 G)) : LO F n i s t 0 (ic s 1 G) (iw t 63 8 (z + 16 * tP F n i2)) := by
  have rg := tP_rg (F := F) hT.1.1 i2
  refine ⟨fY, frZ.wr (Or.inr (Or.inl rfl)), spY_1 hsp, Or.inr ⟨rfl, ?_, Or.inl ?_⟩⟩
  · rw [ic_at, hG]; omega
  · rw [ic_at, hG]
    exact mBad_of hT hm z0
theorem m_takeAfter (hT : tpF F n) (hm : mAt F n i t) (hw : ww < 28) (hx : x = (ww : Int)) : (¬ isW F n (tP F n i) ww → f191 N x lo hi t = some (0, iw t 63 8 (1 + 16 * tP F n i))) ∧
    (isW F n (tP F n i) ww → isN F n (tP F n (i + 1)) lo hi → f191 N x lo hi t = some (tV F n (tP F n (i + 1)), iw t 63 7 ((i : Int) + 2)) ∧ mAt F n (i + 2) (iw t 63 7 ((i : Int) + 2))) ∧
    (isW F n (tP F n i) ww → ¬ isN F n (tP F n (i + 1)) lo hi → f191 N x lo hi t = some (0, iw (iw t 63 7 ((i : Int) + 1)) 63 8 (nWhy F n (tP F n (i + 1)) + 16 * tP F n (i + 1))) ∧ mAt F n (i + 1) (iw t 63 7 ((i : Int) + 1))) := by
  subst hx
  unfold f191
  rw [m_takeWord hT hm hw, i_o1_some]
  refine ⟨fun h => ?_, fun h h2 => ?_, fun h h2 => ?_⟩
  · rw [if_neg h, b_takeNum (mBad_of hT hm (by decide)), i_o2_some]
  · have hm2 := mAt_up hm (by have := h.1; omega)
    rw [if_pos h, m_takeNum hT hm2, if_pos h2, i_o2_some]
    have hm3 := mAt_up hm2 (by have := h2.1; omega)
    rw [iw_iw] at hm3 ⊢
    rw [show ((i + 1 : Nat) : Int) + 1 = (i : Int) + 2 by omega] at hm3 ⊢
    exact ⟨rfl, hm3⟩
  · have hm2 := mAt_up hm (by have := h.1; omega)
    rw [if_pos h, m_takeNum hT hm2, if_neg h2, i_o2_some]
    exact ⟨rfl, hm2⟩
theorem c_takeAfter (hN : 5000 ≤ N) (hT : tpF F n) (hc : cAt F n i s) (hw : wdC r zn ww) :
    (¬ isW F n (tP F n i) ww ∧ ∀ K : gI → Option (Int × gI), (i_o2 (f105 N r zn s) fun i8 s7 => if i8 = 0 then ib1 (0 : Int) (some ((0 : Int), s7)) else i_o2 (f107 N lo hi s7) fun i10 s9 => if i10 = 0 then ib1 (0 : Int) (some ((0 : Int), s9)) else K s9) = some (0, ic s 1 (zup (s.1 1) 7 (1 + 16 * tP F n i)))) ∨
    (isW F n (tP F n i) ww ∧ ¬ isN F n (tP F n (i + 1)) lo hi ∧ ∃ G, G 7 = nWhy F n (tP F n (i + 1)) + 16 * tP F n (i + 1) ∧ ∀ K : gI → Option (Int × gI), (i_o2 (f105 N r zn s) fun i8 s7 => if i8 = 0 then ib1 (0 : Int) (some ((0 : Int), s7)) else i_o2 (f107 N lo hi s7) fun i10 s9 => if i10 = 0 then ib1 (0 : Int) (some ((0 : Int), s9)) else K s9) = some (0, ic s 1 G)) ∨
    (isW F n (tP F n i) ww ∧ isN F n (tP F n (i + 1)) lo hi ∧ ∃ G, atC F n (tP F n (i + 2)) G ∧ G 6 = tV F n (tP F n (i + 1)) ∧ ∀ K : gI → Option (Int × gI), (i_o2 (f105 N r zn s) fun i8 s7 => if i8 = 0 then ib1 (0 : Int) (some ((0 : Int), s7)) else i_o2 (f107 N lo hi s7) fun i10 s9 => if i10 = 0 then ib1 (0 : Int) (some ((0 : Int), s9)) else K s9) = K (ic s 1 G)) := by
  rcases c_takeWord hN hT hc hw with ⟨h, G, a1, a2, -⟩ | ⟨h, a1⟩
  rotate_left
  · refine Or.inl ⟨h, fun K => ?_⟩
    rw [a1, i_o2_some, if_pos rfl, ib1_ok (Or.inl rfl)]
  have hc2 : cAt F n (i + 1) (ic s 1 G) := ⟨by rw [ic_ne (by decide)]; exact hc.1, by rw [ic_at]; exact a2⟩
  rcases c_takeNum (lo := lo) (hi := hi) hN hT hc2 with ⟨h2, G2, b1, b2, b3, -⟩ | ⟨h2, b1⟩
  · refine Or.inr (Or.inr ⟨h, h2, G2, b2, b3, fun K => ?_⟩)
    rw [a1, i_o2_some, if_neg (by decide), b1, i_o2_some, if_neg (by decide), ic_ic]
  · refine Or.inr (Or.inl ⟨h, h2, zup ((ic s 1 G).1 1) 7 (nWhy F n (tP F n (i + 1)) + 16 * tP F n (i + 1)), zup_same _ _ _, fun K => ?_⟩)
    rw [a1, i_o2_some, if_neg (by decide), b1, i_o2_some, if_pos rfl, ib1_ok (Or.inl rfl), ic_ic]
theorem nWhy_pos : 0 < nWhy F n st := by
  unfold nWhy
  split <;> omega
-- names found
theorem c_pn_lp (h4 : 0 ≤ s.1 47 0 ∧ s.1 47 0 ≤ 4) : ∀ (q fuel : Nat) (x : Int), 0 ≤ x → x + q = s.1 47 0 → q < fuel → ∃ f, f117_at2 N fuel y x s = some (f, s) ∧ ((f = -1 ∧ ∀ p, x ≤ p → p < s.1 47 0 → s.2 49 p ≠ y) ∨ (x ≤ f ∧ f < s.1 47 0 ∧ s.2 49 f = y))
  | 0, fuel, x, x0, hx, hf => by
    obtain ⟨fuel, rfl⟩ : ∃ g, fuel = g + 1 := ⟨fuel - 1, by omega⟩
    refine ⟨-1, ?_, Or.inl ⟨rfl, fun p a b => by omega⟩⟩
    unfold f117_at2
    rw [if_pos (by omega)]
  | q + 1, fuel, x, x0, hx, hf => by
    obtain ⟨fuel, rfl⟩ : ∃ g, fuel = g + 1 := ⟨fuel - 1, by omega⟩
    unfold f117_at2
    rw [if_neg (by omega), ick_ok (by omega) (by omega)]
    by_cases g : s.2 49 x = y
    · rw [if_pos (i_cmp0.mpr g)]
      exact ⟨x, rfl, Or.inr ⟨Int.le_refl _, by omega, g⟩⟩
    · rw [if_neg (fun h => g (i_cmp0.mp h)), iov_ok (by omega) (by omega)]
      obtain ⟨f, h1, h2⟩ := c_pn_lp h4 q fuel (x + 1) (by omega) (by omega) (by omega)
      refine ⟨f, h1, ?_⟩
      rcases h2 with ⟨h2, h3⟩ | ⟨h2, h3⟩
      · refine Or.inl ⟨h2, fun p a b => ?_⟩
        by_cases z : p = x
        · rw [z]; exact g
        · exact h3 p (by omega) b
      · exact Or.inr ⟨by omega, h3⟩
theorem c_hn_lp (hN : 5000 ≤ N) (h4 : 0 ≤ s.1 47 0 ∧ s.1 47 0 ≤ 4) (h8 : 0 ≤ s.1 47 3 ∧ s.1 47 3 ≤ 8) {f : Int} (hf0 : f117 N y s = some (f, s)) : ∀ (q fuel : Nat) (x : Int), 0 ≤ x → x + q = s.1 47 3 → q < fuel → (∃ j, x ≤ j ∧ j < s.1 47 3 ∧ s.2 53 j = y ∧ f118_at2 N fuel y x s = some (1, s)) ∨ ((∀ j, x ≤ j → j < s.1 47 3 → s.2 53 j ≠ y) ∧ f118_at2 N fuel y x s = some (if f = -1 then 0 else 1, s))
  | 0, fuel, x, x0, hx, hf => by
    obtain ⟨fuel, rfl⟩ : ∃ g, fuel = g + 1 := ⟨fuel - 1, by omega⟩
    refine Or.inr ⟨fun p a b => by omega, ?_⟩
    unfold f118_at2
    rw [if_pos (by omega), hf0, i_o2_some]
    by_cases g : f = -1
    · rw [if_pos g, if_pos g, ib1_ok (Or.inl rfl)]
    · rw [if_neg g, if_neg g, ib1_ok (Or.inr rfl)]
  | q + 1, fuel, x, x0, hx, hf => by
    obtain ⟨fuel, rfl⟩ : ∃ g, fuel = g + 1 := ⟨fuel - 1, by omega⟩
    unfold f118_at2
    rw [if_neg (by omega), ick_ok (by omega) (by omega)]
    by_cases g : s.2 53 x = y
    · rw [if_pos (i_cmp0.mpr g), ib1_ok (Or.inr rfl)]
      exact Or.inl ⟨x, Int.le_refl _, by omega, g, rfl⟩
    · rw [if_neg (fun h => g (i_cmp0.mp h)), iov_ok (by omega) (by omega)]
      rcases c_hn_lp hN h4 h8 hf0 q fuel (x + 1) (by omega) (by omega) (by omega) with ⟨j, a1, a2, a3, a4⟩ | ⟨a1, a2⟩
      · exact Or.inl ⟨j, by omega, a2, a3, a4⟩
      · refine Or.inr ⟨fun j b1 b2 => ?_, a2⟩
        by_cases z : j = x
        · rw [z]; exact g
        · exact a1 j (by omega) b2
theorem m_findN_lp (hm : mAt F n i t) (hi : (i : Int) ≤ 1000) (hv : t.2 67 i = y) (h12 : t.1 63 18 ≤ 12) : ∀ (q fuel : Nat) (x : Int), 0 ≤ x → x + q = t.1 63 18 → q < fuel → ∃ f, f198_at2 N fuel x t = some (f, t) ∧ ((f = -1 ∧ ∀ p, x ≤ p → p < t.1 63 18 → t.2 74 p ≠ y) ∨ ∃ p, x ≤ p ∧ p < t.1 63 18 ∧ t.2 74 p = y ∧ f = t.1 75 p)
  | 0, fuel, x, x0, hx, hf => by
    obtain ⟨fuel, rfl⟩ : ∃ g, fuel = g + 1 := ⟨fuel - 1, by omega⟩
    refine ⟨-1, ?_, Or.inl ⟨rfl, fun p a b => by omega⟩⟩
    unfold f198_at2
    rw [if_pos (by omega)]
  | q + 1, fuel, x, x0, hx, hf => by
    obtain ⟨fuel, rfl⟩ : ∃ g, fuel = g + 1 := ⟨fuel - 1, by omega⟩
    have e7 := hm.2.1
    unfold f198_at2
    rw [if_neg (by omega), ick_ok (by omega) (by omega), e7, ick_ok (by omega) (by omega), hv]
    by_cases g : t.2 74 x = y
    · rw [if_pos (i_cmp0.mpr g), ick_ok (by omega) (by omega)]
      exact ⟨_, rfl, Or.inr ⟨x, Int.le_refl _, by omega, g, rfl⟩⟩
    · rw [if_neg (fun h => g (i_cmp0.mp h)), iov_ok (by omega) (by omega)]
      obtain ⟨f, h1, h2⟩ := m_findN_lp hm hi hv h12 q fuel (x + 1) (by omega) (by omega) (by omega)
      refine ⟨f, h1, ?_⟩
      rcases h2 with ⟨h2, h3⟩ | ⟨p, h2, h3⟩
      · refine Or.inl ⟨h2, fun p a b => ?_⟩
        by_cases z : p = x
        · rw [z]; exact g
        · exact h3 p (by omega) b
      · exact Or.inr ⟨p, by omega, h3⟩
theorem y_find (hN : 5000 ≤ N) (hT : tpF F n) (hm : mAt F n i t) (k2 : tK F n (tP F n i) = 2) (h4 : 0 ≤ s.1 47 0 ∧ s.1 47 0 ≤ 4) (h8 : 0 ≤ s.1 47 3 ∧ s.1 47 3 ≤ 8) (hy : yN (s.1 47) (s.2 49) (s.2 53) (t.1 63 18) (t.2 74) (t.1 75)) :
    ∃ x b f, (∀ s2 : gI, s2.1 47 0 = s.1 47 0 → s2.2 49 = s.2 49 → f117 N (pkW F n (tP F n i)) s2 = some (x, s2)) ∧ (∀ s2 : gI, s2.1 47 = s.1 47 → s2.2 = s.2 → f118 N (pkW F n (tP F n i)) s2 = some (b, s2)) ∧ f198 N t = some (f, t) ∧
      ((f = -1 ∧ x = -1 ∧ b = 0 ∧ ∀ q, 0 ≤ q → q < t.1 63 18 → t.2 74 q ≠ tV F n (tP F n i)) ∨ (0 ≤ f ∧ f < s.1 47 0 ∧ x = f ∧ b = 1) ∨ (f = 100 ∧ x = -1 ∧ b = 1)) := by
  obtain ⟨y1, y2, y3, y4, y5⟩ := hy
  have i1 := (mAt_i hT hm).1
  have pv := PV_tok k2
  have hv : t.2 67 i = tV F n (tP F n i) := (mAt_k hT hm).2.2 (by omega)
  -- the class' answers hang on these cells alone
  have cl : ∃ x b, (∀ s2 : gI, s2.1 47 0 = s.1 47 0 → s2.2 49 = s.2 49 → f117 N (pkW F n (tP F n i)) s2 = some (x, s2)) ∧ (∀ s2 : gI, s2.1 47 = s.1 47 → s2.2 = s.2 → f118 N (pkW F n (tP F n i)) s2 = some (b, s2)) ∧ ((x = -1 ∧ ∀ p, 0 ≤ p → p < s.1 47 0 → s.2 49 p ≠ pkW F n (tP F n i)) ∨ (0 ≤ x ∧ x < s.1 47 0 ∧ s.2 49 x = pkW F n (tP F n i))) ∧ ((b = 1 ∧ ∃ j, 0 ≤ j ∧ j < s.1 47 3 ∧ s.2 53 j = pkW F n (tP F n i)) ∨ ((∀ j, 0 ≤ j → j < s.1 47 3 → s.2 53 j ≠ pkW F n (tP F n i)) ∧ b = if x = -1 then 0 else 1)) := by
    obtain ⟨x, a1, a2⟩ := c_pn_lp (N := N) (s := s) (y := pkW F n (tP F n i)) h4 (s.1 47 0).toNat N 0 (by decide) (by omega) (by omega)
    have hn := c_hn_lp (N := N) (s := s) hN h4 h8 (f := x) a1 (s.1 47 3).toNat N 0 (by decide) (by omega) (by omega)
    -- whichever state holds these cells
    have ux : ∀ s2 : gI, s2.1 47 0 = s.1 47 0 → s2.2 49 = s.2 49 → f117 N (pkW F n (tP F n i)) s2 = some (x, s2) := fun s2 e1 e2 => by
      have lp : ∀ (fuel : Nat) (x0 : Int) (o : Int), f117_at2 N fuel (pkW F n (tP F n i)) x0 s = some (o, s) → f117_at2 N fuel (pkW F n (tP F n i)) x0 s2 = some (o, s2) := by
        intro fuel
        induction fuel with
        | zero => intro x0 o h; cases h
        | succ fuel ih =>
          intro x0 o h
          unfold f117_at2 at h ⊢
          rw [e1, e2]
          split at h
          · rename_i g; rw [if_pos g]; cases h; rfl
          · rename_i g
            rw [if_neg g]
            unfold ick at h ⊢
            split at h
            · rename_i g2
              rw [if_pos g2]
              split at h
              · rename_i g3; rw [if_pos g3]; cases h; rfl
              · rename_i g3
                rw [if_neg g3]
                unfold iov at h ⊢
                split at h
                · rename_i g4; rw [if_pos g4]; exact ih _ _ h
                · cases h
            · cases h
      exact lp N 0 x a1
    have ub : ∀ b : Int, f118 N (pkW F n (tP F n i)) s = some (b, s) → ∀ s2 : gI, s2.1 47 = s.1 47 → s2.2 = s.2 → f118 N (pkW F n (tP F n i)) s2 = some (b, s2) := fun b hb s2 e1 e2 => by
      have lp : ∀ (fuel : Nat) (x0 : Int) (o : Int), f118_at2 N fuel (pkW F n (tP F n i)) x0 s = some (o, s) → f118_at2 N fuel (pkW F n (tP F n i)) x0 s2 = some (o, s2) := by
        intro fuel
        induction fuel with
        | zero => intro x0 o h; cases h
        | succ fuel ih =>
          intro x0 o h
          have a1' : f117 N (pkW F n (tP F n i)) s = some (x, s) := a1
          unfold f118_at2 at h ⊢
          rw [ux s2 (by rw [e1]) (by rw [e2]), e1, e2]
          rw [a1'] at h
          rw [i_o2_some] at h ⊢
          split at h
          · rename_i g
            rw [if_pos g]
            split at h
            · rename_i g2; rw [if_pos g2]; unfold ib1 at h ⊢; rw [if_pos (Or.inl rfl)] at h ⊢; cases h; rfl
            · rename_i g2; rw [if_neg g2]; unfold ib1 at h ⊢; rw [if_pos (Or.inr rfl)] at h ⊢; cases h; rfl
          · rename_i g
            rw [if_neg g]
            unfold ick at h ⊢
            split at h
            · rename_i g2
              rw [if_pos g2]
              split at h
              · rename_i g3; rw [if_pos g3]; unfold ib1 at h ⊢; rw [if_pos (Or.inr rfl)] at h ⊢; cases h; rfl
              · rename_i g3
                rw [if_neg g3]
                unfold iov at h ⊢
                split at h
                · rename_i g4; rw [if_pos g4]; exact ih _ _ h
                · cases h
            · cases h
      exact lp N 0 b hb
    have a2' : (x = -1 ∧ ∀ p, 0 ≤ p → p < s.1 47 0 → s.2 49 p ≠ pkW F n (tP F n i)) ∨ (0 ≤ x ∧ x < s.1 47 0 ∧ s.2 49 x = pkW F n (tP F n i)) := a2
    rcases hn with ⟨j, b1, b2, b3, b4⟩ | ⟨b1, b2⟩
    · exact ⟨x, 1, ux, ub 1 b4, a2', Or.inl ⟨rfl, j, b1, b2, b3⟩⟩
    · exact ⟨x, _, ux, ub _ b2, a2', Or.inr ⟨b1, rfl⟩⟩
  obtain ⟨x, b, c1, c1b, c2, c3⟩ := cl
  obtain ⟨f, m1, m2⟩ := m_findN_lp (N := N) (t := t) (y := tV F n (tP F n i)) hm i1 hv (by omega) (t.1 63 18).toNat N 0 (by decide) (by omega) (by omega)
  refine ⟨x, b, f, c1, c1b, m1, ?_⟩
  have uq : ∀ q r, 0 ≤ q → q < t.1 63 18 → 0 ≤ r → r < t.1 63 18 → t.2 74 q = t.2 74 r → q = r := fun q r q0 q1 r0 r1 e => by
    rcases Int.lt_trichotomy q r with h | h | h
    · exact absurd e (y5 q r q0 h r1)
    · exact h
    · exact absurd e.symm (y5 r q r0 h q1)
  rcases m2 with ⟨g1, g2⟩ | ⟨q, g1, g2, g3, g4⟩
  · have nP : ∀ p, 0 ≤ p → p < s.1 47 0 → s.2 49 p ≠ pkW F n (tP F n i) := fun p p0 p1 e => by
      obtain ⟨q, q0, q1, q2, q3⟩ := y2 p p0 p1
      exact g2 q q0 q1 ((PV_iff q3 pv).mp e)
    have nT : ∀ j, 0 ≤ j → j < s.1 47 3 → s.2 53 j ≠ pkW F n (tP F n i) := fun j j0 j1 e => by
      obtain ⟨q, q0, q1, q2, q3⟩ := y3 j j0 j1
      exact g2 q q0 q1 ((PV_iff q3 pv).mp e)
    have ex : x = -1 := by
      rcases c2 with ⟨h, -⟩ | ⟨h1, h2, h3⟩
      · exact h
      · exact absurd h3 (nP x h1 h2)
    have eb : b = 0 := by
      rcases c3 with ⟨-, j, h1, h2, h3⟩ | ⟨-, h⟩
      · exact absurd h3 (nT j h1 h2)
      · rw [h, if_pos ex]
    exact Or.inl ⟨g1, ex, eb, g2⟩
  · rcases y4 q g1 g2 with ⟨p, p0, p1, p2, p3⟩ | ⟨j, j0, j1, j2, j3⟩
    · have ep : s.2 49 p = pkW F n (tP F n i) := (PV_iff p3 pv).mpr g3
      have ef : f = p := g4.trans p2
      have ex : x = p := by
        rcases c2 with ⟨-, h⟩ | ⟨h1, h2, h3⟩
        · exact absurd ep (h p p0 p1)
        · obtain ⟨q2, b0, b1, b2, b3⟩ := y2 x h1 h2
          have e1 := (PV_iff b3 pv).mp h3
          have := uq q q2 g1 g2 b0 b1 (g3.trans e1.symm)
          rw [← this] at b2
          exact b2.symm.trans p2
      have eb : b = 1 := by
        rcases c3 with ⟨h, -⟩ | ⟨-, h⟩
        · exact h
        · rw [h, if_neg (by omega)]
      exact Or.inr (Or.inl ⟨by omega, by omega, by omega, eb⟩)
    · have ej : s.2 53 j = pkW F n (tP F n i) := (PV_iff j3 pv).mpr g3
      have ef : f = 100 := g4.trans j2
      have ex : x = -1 := by
        rcases c2 with ⟨h, -⟩ | ⟨h1, h2, h3⟩
        · exact h
        · obtain ⟨q2, b0, b1, b2, b3⟩ := y2 x h1 h2
          have e1 := (PV_iff b3 pv).mp h3
          have := uq q q2 g1 g2 b0 b1 (g3.trans e1.symm)
          rw [← this] at b2
          omega
      have eb : b = 1 := by
        rcases c3 with ⟨h, -⟩ | ⟨h, -⟩
        · exact h
        · exact absurd ej (h j j0 j1)
      exact Or.inr (Or.inr ⟨ef, ex, eb⟩)
end YARDQ

/-! A ROOF read by the reference. -/
section MROOF
variable {N : Nat} {s u v : gI} {F G A B C T R : Int → Int} {n e st lo hi c m zn W D : Int} {r i w y : Nat}
theorem mod37 {a d : Int} (a0 : 0 ≤ a) (d0 : 0 ≤ d) (d1 : d < 37) : (37 * a + d) % 37 = d ∧ (37 * a + d) / 37 = a := by omega
theorem m_rowR_lp (hN : 5000 ≤ N) (hT : tpF F n) (hm : mAt F n i s) (hL : ∀ j : Nat, j < 9 → s.1 70 j = lettersT.getD j 0) (hst : st = tP F n i) (y8 : y < 8) : ∀ (xr fuel q : Nat) (z : Int) (R : Int → Int), xr ≤ 8 → q ≤ 8 → xr < fuel → (z = 0 ∨ z = 1) → (∀ j : Int, st ≤ j → j < st + q → 97 ≤ F j ∧ F j ≤ 122) →
    ∃ R2, f194_at59 N fuel y (wvl F 37 96 st q) z ((xr : Int) - 1) (ic s 69 R) = some (if z = 1 ∧ q = xr ∧ goodT F st q = true then iw (ic s 69 R2) 63 7 ((i : Int) + 1) else iw (ic s 69 R2) 63 8 (2 + 16 * st)) ∧ (∀ c : Int, (c < 72 + 8 * (y : Int) ∨ 72 + 8 * (y : Int) + (xr : Int) ≤ c) → R2 c = R c) ∧ ((z = 1 ∧ q = xr ∧ goodT F st q = true) → ∀ x : Int, 0 ≤ x → x < (xr : Int) → R2 (72 + 8 * y + x) = tix (F (st + x)))
  | 0, fuel, q, z, R, x8, q8, hf, hz, hl => by
    obtain ⟨fuel, rfl⟩ : ∃ g, fuel = g + 1 := ⟨fuel - 1, by omega⟩
    have rg := tP_rg (F := F) hT.1.1 i
    have hT1 := hT.1
    have hm2 : mAt F n i (ic s 69 R) := hm.of (ic_ne (by decide)) (ic_ne (by decide)) rfl rfl (by rw [ic_ne (by decide)]) (by rw [ic_ne (by decide)])
    have i1 := (mAt_i hT hm).1
    have bad : f194_at142 N (ic s 69 R) = some (iw (ic s 69 R) 63 8 (2 + 16 * st)) := by
      unfold f194_at142 f194_at147
      rw [m_wrong hT hm2 (by decide) (by decide), i_o1_some, iw_at, zup_same, if_neg (by omega), zup_ne (by decide), hm2.2.1, iov_ok (by omega) (by omega), ← hst]
      have e7 : (iw (ic s 69 R) 63 8 (2 + 16 * st)).1 63 7 = (i : Int) + 0 := by rw [iw_at, zup_ne (by decide), hm2.2.1]; omega
      have := iw_self' (s := iw (ic s 69 R) 63 8 (2 + 16 * st)) (a := 63) (x := 7)
      rw [e7] at this
      exact congrArg some this
    refine ⟨R, ?_, fun _ _ => rfl, fun _ x a b => by omega⟩
    unfold f194_at59
    rw [if_pos (by omega)]
    by_cases z0 : z = 0
    · rw [if_pos z0, bad, if_neg (fun h => by omega)]
    · rw [if_neg z0]
      by_cases q0 : q = 0
      · subst q0
        have e0 : wvl F 37 96 st 0 = 0 := rfl
        rw [e0, if_pos (i_cmple.mpr (by decide)), if_pos ⟨by omega, rfl, rfl⟩]
        unfold f194_at147
        rw [hm2.2.2.1, if_pos (by decide), hm2.2.1, iov_ok (by omega) (by omega)]
      · have := wvl_pos (F := F) (st := st) q hl
        rw [if_neg (fun h => by have := i_cmple.mp h; omega), bad, if_neg (fun h => q0 h.2.1)]
  | xr + 1, fuel, q, z, R, x8, q8, hf, hz, hl => by
    obtain ⟨fuel, rfl⟩ : ∃ g, fuel = g + 1 := ⟨fuel - 1, by omega⟩
    have rg := tP_rg (F := F) hT.1.1 i
    have hT1 := hT.1
    have e2 : (ic s 69 R).1 70 = s.1 70 := ic_ne (by decide)
    have hL2 : ∀ j : Nat, j < 9 → (ic s 69 R).1 70 j = lettersT.getD j 0 := fun j hj => by rw [e2]; exact hL j hj
    have c1 : (((xr + 1 : Nat) : Int) - 1) = xr := by omega
    have put : ∀ (a b z2 : Int), 0 ≤ a → f194_at100 N (f194_at59 N fuel) y a xr b z2 (ic s 69 R) = f194_at59 N fuel y (a / 37) z2 ((xr : Int) - 1) (ic s 69 (zup R (72 + 8 * y + xr) b)) := fun a b z2 a0 => by
      unfold f194_at100
      rw [iov_ok (by omega) (by omega), iov_ok (by omega) (by omega), iov_ok (by omega) (by omega), ick_ok (by omega) (by omega), iw_ic, ic_at, ic_ic, idv_ok a0 (by decide), iov_ok (by omega) (by omega), show (xr : Int) + -1 = (xr : Int) - 1 by omega]
    unfold f194_at59
    rw [c1, if_neg (by omega)]
    match q, q8, hl with
    | 0, q8, hl =>
      have e0 : wvl F 37 96 st 0 = 0 := rfl
      have et : tix (Int.bmod (0 % 37) 4294967296 + 96) = -1 := by decide +kernel
      obtain ⟨R2, h1, h2, h3⟩ := m_rowR_lp hN hT hm hL hst y8 xr fuel 0 0 (zup R (72 + 8 * y + xr) (-1)) (by omega) (by omega) (by omega) (Or.inl rfl) hl
      rw [e0] at h1
      rw [e0, idv_ok (by decide) (by decide), iov_ok (by decide) (by decide), m_tileOf hN hL2, i_o2_some, et]
      unfold f194_at99
      rw [if_pos (i_cmple.mpr (by decide)), put _ _ _ (by decide), show (0 : Int) / 37 = 0 from rfl, h1]
      refine ⟨R2, ?_, fun c hc => by rw [h2 c (by omega), zup_ne (by omega)], fun h => by omega⟩
      rw [if_neg (show ¬ (z = 1 ∧ 0 = xr + 1 ∧ goodT F st 0 = true) from fun h => by omega), if_neg (show ¬ ((0 : Int) = 1 ∧ 0 = xr ∧ goodT F st 0 = true) from fun h => by omega), ite_self]
    | q + 1, q8, hl =>
      have hl2 : ∀ j : Int, st ≤ j → j < st + q → 97 ≤ F j ∧ F j ≤ 122 := fun j a b => hl j a (by omega)
      have w1 := wvl_rg (F := F) (st := st) q (by omega) hl2
      have w2 := p37 q (by omega)
      have ch := hl (st + q) (by omega) (by omega)
      have ew : wvl F 37 96 st (q + 1) = 37 * wvl F 37 96 st q + (F (st + q) - 96) := rfl
      obtain ⟨m1, m2⟩ := mod37 (a := wvl F 37 96 st q) (d := F (st + q) - 96) w1.1 (by omega) (by omega)
      have tr := tix_rg (c := F (st + q))
      rw [ew, idv_ok (by omega) (by decide), m1, bmod32 (by omega) (by omega), iov_ok (by omega) (by omega), show F (st + q) - 96 + 96 = F (st + q) by omega, m_tileOf hN hL2, i_o2_some]
      have go : ∀ z2 : Int, (z2 = 0 ∨ z2 = 1) → (z2 = 1 ↔ (z = 1 ∧ 0 ≤ tix (F (st + q)))) → ∃ R2, f194_at100 N (f194_at59 N fuel) y (37 * wvl F 37 96 st q + (F (st + q) - 96)) xr (tix (F (st + q))) z2 (ic s 69 R) = some (if z = 1 ∧ q + 1 = xr + 1 ∧ goodT F st (q + 1) = true then iw (ic s 69 R2) 63 7 ((i : Int) + 1) else iw (ic s 69 R2) 63 8 (2 + 16 * st)) ∧ (∀ c, (c < 72 + 8 * (y : Int) ∨ 72 + 8 * (y : Int) + ((xr + 1 : Nat) : Int) ≤ c) → R2 c = R c) ∧ ((z = 1 ∧ q + 1 = xr + 1 ∧ goodT F st (q + 1) = true) → ∀ x, 0 ≤ x → x < ((xr + 1 : Nat) : Int) → R2 (72 + 8 * y + x) = tix (F (st + x))) := fun z2 hz2 hzz => by
        obtain ⟨R2, h1, h2, h3⟩ := m_rowR_lp hN hT hm hL hst y8 xr fuel q z2 (zup R (72 + 8 * y + xr) (tix (F (st + q)))) (by omega) (by omega) (by omega) hz2 hl2
        rw [put _ _ _ (by omega), m2, h1]
        have iff : (z2 = 1 ∧ q = xr ∧ goodT F st q = true) ↔ (z = 1 ∧ q + 1 = xr + 1 ∧ goodT F st (q + 1) = true) := by
          have eg : goodT F st (q + 1) = (goodT F st q && decide (0 ≤ tix (F (st + q)))) := rfl
          rw [hzz, eg, Bool.and_eq_true, decide_eq_true_eq]
          constructor
          · intro h; exact ⟨h.1.1, by omega, h.2.2, h.1.2⟩
          · intro h; exact ⟨⟨h.1, h.2.2.2⟩, by omega, h.2.2.1⟩
        refine ⟨R2, ?_, fun c hc => by rw [h2 c (by omega), zup_ne (by omega)], fun h x x0 x1 => ?_⟩
        · by_cases g : z2 = 1 ∧ q = xr ∧ goodT F st q = true
          · rw [if_pos g, if_pos (iff.mp g)]
          · rw [if_neg g, if_neg (fun h => g (iff.mpr h))]
        · have g := iff.mpr h
          by_cases qx : x = xr
          · rw [h2 _ (by omega), qx, zup_same, g.2.1]
          · exact h3 g x x0 (by omega)
      unfold f194_at99
      rcases hz with hz | hz
      · rw [if_pos hz]
        exact go 0 (Or.inl rfl) ⟨fun h => by omega, fun h => by omega⟩
      · rw [if_neg (by omega), if_neg (fun h => by have := i_cmple.mp h; omega)]
        by_cases g : tix (F (st + q)) < 0
        · rw [if_pos g]
          exact go 0 (Or.inl rfl) ⟨fun h => by omega, fun h => by omega⟩
        · rw [if_neg g]
          exact go 1 (Or.inr rfl) ⟨fun _ => ⟨hz, by omega⟩, fun _ => rfl⟩
/-- what reading a ROOF may change in the reference -/
def fr9 (s v : gI) : Prop := (∀ a : Nat, a ≠ 69 → a ≠ 63 → v.1 a = s.1 a) ∧ v.2 = s.2 ∧ (∀ j, j < 70 → v.1 69 j = s.1 69 j) ∧ ∀ j, j ≠ 7 → j ≠ 8 → v.1 63 j = s.1 63 j
theorem fr9.rf : fr9 s s := ⟨fun _ _ _ => rfl, rfl, fun _ _ => rfl, fun _ _ _ => rfl⟩
theorem fr9.tr (h1 : fr9 s u) (h2 : fr9 u v) : fr9 s v := ⟨fun a ha hb => (h2.1 a ha hb).trans (h1.1 a ha hb), h2.2.1.trans h1.2.1, fun j hj => (h2.2.2.1 j hj).trans (h1.2.2.1 j hj), fun j ha hb => (h2.2.2.2 j ha hb).trans (h1.2.2.2 j ha hb)⟩
theorem fr9.w7 {x : Int} : fr9 s (iw s 63 7 x) := ⟨fun a _ hb => iw_ne hb, rfl, fun j _ => by rw [iw_ne (by decide)], fun j ha _ => by rw [iw_at, zup_ne ha]⟩
theorem fr9.w8 {x : Int} : fr9 s (iw s 63 8 x) := ⟨fun a _ hb => iw_ne hb, rfl, fun j _ => by rw [iw_ne (by decide)], fun j _ hb => by rw [iw_at, zup_ne hb]⟩
theorem fr9.c9 (h : ∀ j, j < 70 → R j = s.1 69 j) : fr9 s (ic s 69 R) := ⟨fun a ha _ => ic_ne ha, rfl, fun j hj => by rw [ic_at]; exact h j hj, fun j _ _ => by rw [ic_ne (by decide)]⟩
theorem m_row (hN : 5000 ≤ N) (hT : tpF F n) (hm : mAt F n i s) (hL : ∀ j : Nat, j < 9 → s.1 70 j = lettersT.getD j 0) (hW : s.1 69 70 = W) (W0 : 2 ≤ W) (W8 : W ≤ 8) (y8 : y < 8) :
    ∃ v, f194 N y s = some v ∧ fr9 s v ∧ v.1 69 70 = W ∧ v.1 69 71 = s.1 69 71 ∧ (∀ c : Int, c < 72 + 8 * (y : Int) → v.1 69 c = s.1 69 c) ∧ (rowZ F n W i = 0 → mAt F n (i + 1) v ∧ ∀ x, 0 ≤ x → x < W → v.1 69 (72 + 8 * y + x) = tix (F (tP F n i + x))) ∧ (rowZ F n W i ≠ 0 → mBad (rowZ F n W i) v) := by
  obtain ⟨k1, k2, k3⟩ := mAt_k hT hm
  have i1 := (mAt_i hT hm).1
  have kr := tK_rg (F := F) (n := n) (st := tP F n i)
  have rg := tP_rg (F := F) hT.1.1 i
  have hT1 := hT.1
  unfold f194 f194_at25
  rw [hm.2.2.1, if_pos rfl, hm.2.1, ick_ok (by omega) (by omega), k1]
  by_cases k : tK F n (tP F n i) = 2
  rotate_left
  · have ek : ¬ mso (tK F n (tP F n i)) = 1 := fun z => k ((mso_is kr.1 kr.2 (z := 2) (Or.inr (by decide))).mp z)
    have ez : rowZ F n W i = 1 + 16 * tP F n i := if_neg k
    have hb := mBad_of (z := 1) hT hm (by decide)
    rw [if_neg ek, m_wrong hT hm (by decide) (by decide), i_o1_some, hb.1, if_neg (by omega), ez]
    refine ⟨_, rfl, fr9.w8, by rw [iw_ne (by decide)]; exact hW, by rw [iw_ne (by decide)], fun c _ => by rw [iw_ne (by decide)], fun h => by omega, fun _ => hb⟩
  have ek : mso (tK F n (tP F n i)) = 1 := by rw [k]; rfl
  obtain ⟨t1, t2, t3, t4⟩ := tK_2 k
  have ev : tV F n (tP F n i) = wvl F 37 96 (tP F n i) (tE F n (tP F n i) - tP F n i).toNat := if_pos k
  rw [if_pos ek, if_pos (by decide), ick_ok (by decide) (by decide), hW]
  try dsimp only
  rw [ick_ok (by omega) (by omega), k3 (by omega), iov_ok (by omega) (by omega), ev]
  obtain ⟨R2, h1, h2, h3⟩ := m_rowR_lp (N := N) (y := y) hN hT hm hL rfl y8 W.toNat N (tE F n (tP F n i) - tP F n i).toNat 1 (s.1 69) (by omega) (by omega) (by omega) (Or.inr rfl) (fun j a b => t2 j a (by omega))
  rw [ic_self, show ((W.toNat : Nat) : Int) - 1 = W - 1 by omega] at h1
  rw [h1]
  have R70 : ∀ j, j < 72 → R2 j = s.1 69 j := fun j hj => h2 j (by omega)
  have fr0 : fr9 s (ic s 69 R2) := fr9.c9 (fun j hj => R70 j (by omega))
  have iff : ((1 : Int) = 1 ∧ (tE F n (tP F n i) - tP F n i).toNat = W.toNat ∧ goodT F (tP F n i) (tE F n (tP F n i) - tP F n i).toNat = true) ↔ rowZ F n W i = 0 := by
    unfold rowZ
    rw [if_pos k]
    constructor
    · intro h
      rw [if_pos ⟨by omega, by rw [← h.2.1]; exact h.2.2⟩]
    · intro h
      by_cases g : tE F n (tP F n i) - tP F n i = W ∧ goodT F (tP F n i) W.toNat = true
      · exact ⟨rfl, by rw [g.1], by rw [g.1]; exact g.2⟩
      · rw [if_neg g] at h; omega
  have hm2 : mAt F n i (ic s 69 R2) := hm.of (ic_ne (by decide)) (ic_ne (by decide)) rfl rfl (by rw [ic_ne (by decide)]) (by rw [ic_ne (by decide)])
  by_cases g : rowZ F n W i = 0
  · rw [if_pos (iff.mpr g)]
    refine ⟨_, rfl, fr0.tr fr9.w7, by rw [iw_ne (by decide), ic_at, R70 _ (by decide)]; exact hW, by rw [iw_ne (by decide), ic_at, R70 _ (by decide)], fun c hc => by rw [iw_ne (by decide), ic_at, h2 c (Or.inl hc)], fun _ => ⟨mAt_up hm2 (by omega), fun x x0 x1 => ?_⟩, fun h => absurd g h⟩
    rw [iw_ne (by decide), ic_at]
    exact h3 (iff.mpr g) x x0 (by omega)
  · have ez : rowZ F n W i = 2 + 16 * tP F n i := by
      have g2 := g
      unfold rowZ at g2 ⊢
      rw [if_pos k] at g2 ⊢
      split
      · rename_i q; rw [if_pos q] at g2; exact absurd rfl g2
      · rfl
    rw [if_neg (fun h => g (iff.mp h))]
    refine ⟨_, rfl, fr0.tr fr9.w8, by rw [iw_ne (by decide), ic_at, R70 _ (by decide)]; exact hW, by rw [iw_ne (by decide), ic_at, R70 _ (by decide)], fun c hc => by rw [iw_ne (by decide), ic_at, h2 c (Or.inl hc)], fun h => absurd h g, fun _ => ?_⟩
    rw [ez]
    exact mBad_of hT hm2 (by decide)
theorem m_rows (hN : 5000 ≤ N) (hT : tpF F n) (W0 : 2 ≤ W) (W8 : W ≤ 8) {DD : Nat} (D8 : DD ≤ 8) : ∀ (r fuel y : Nat) (s : gI), y + r = DD → r < fuel → mAt F n (4 + 3 * y) s → (∀ j : Nat, j < 9 → s.1 70 j = lettersT.getD j 0) → s.1 69 70 = W → s.1 69 71 = DD →
    ∃ v, f195_at75 N fuel y s = f195_at153 N v ∧ fr9 s v ∧ v.1 69 70 = W ∧ v.1 69 71 = DD ∧ (∀ c : Int, c < 72 + 8 * (y : Int) → v.1 69 c = s.1 69 c) ∧ v.1 63 8 = rowsZ F n W r (4 + 3 * y) ∧ 0 ≤ v.1 63 8 ∧ (rowsZ F n W r (4 + 3 * y) = 0 → ∀ (y2 : Nat) (x : Int), y ≤ y2 → y2 < DD → 0 ≤ x → x < W → v.1 69 (72 + 8 * y2 + x) = tix (F (tP F n (5 + 3 * y2) + x)))
  | 0, fuel, y, s, e, hf, hm, hL, hW, hD => by
    obtain ⟨fuel, rfl⟩ : ∃ g, fuel = g + 1 := ⟨fuel - 1, by omega⟩
    have hT1 := hT.1
    have rg := tP_rg (F := F) hT.1.1 (4 + 3 * y)
    obtain ⟨k1, k2, k3⟩ := mAt_k hT hm
    have i1 := (mAt_i hT hm).1
    have kr := tK_rg (F := F) (n := n) (st := tP F n (4 + 3 * y))
    have z0 := mso_is kr.1 kr.2 (z := 0) (Or.inl rfl)
    unfold f195_at75 f195_at116 rowsZ
    rw [ick_ok (by decide) (by decide), hD, if_pos (by omega), hm.2.2.1, if_pos rfl, hm.2.1, ick_ok (by omega) (by omega), k1]
    have m0 : mso 0 = 0 := rfl
    rw [m0] at z0
    by_cases k : tK F n (tP F n (4 + 3 * y)) = 0
    · rw [if_pos (z0.mpr k), if_pos k]
      exact ⟨s, rfl, fr9.rf, hW, hD, fun _ _ => rfl, hm.2.2.1, by rw [hm.2.2.1]; decide, fun _ y2 x a b => by omega⟩
    · have mw := m_isWord (N := N) (w := 27) hT hm (by decide)
      have mw : f184 N 27 s = _ := mw
      rw [if_neg (fun h => k (z0.mp h)), if_neg k, mw, i_o2_some]
      have fin : ∀ z : Int, 0 < z → z ≤ 16 → ∃ v, f195_at150 N z s = f195_at153 N v ∧ fr9 s v ∧ v.1 69 70 = W ∧ v.1 69 71 = DD ∧ (∀ c, c < 72 + 8 * (y : Int) → v.1 69 c = s.1 69 c) ∧ v.1 63 8 = z + 16 * tP F n (4 + 3 * y) ∧ 0 ≤ v.1 63 8 ∧ (z + 16 * tP F n (4 + 3 * y) = 0 → ∀ (y2 : Nat) (x : Int), y ≤ y2 → y2 < DD → 0 ≤ x → x < W → v.1 69 (72 + 8 * y2 + x) = tix (F (tP F n (5 + 3 * y2) + x))) := fun z z0 z1 => by
        unfold f195_at150
        rw [m_wrong hT hm (by omega) z1, i_o1_some]
        refine ⟨_, rfl, fr9.w8, by rw [iw_ne (by decide)]; exact hW, by rw [iw_ne (by decide)]; exact hD, fun c _ => by rw [iw_ne (by decide)], by rw [iw_at, zup_same], by rw [iw_at, zup_same]; omega, fun h => by omega⟩
      by_cases q : isW F n (tP F n (4 + 3 * y)) 27
      · rw [if_pos q, if_neg (by decide), if_pos q]
        exact fin 5 (by decide) (by decide)
      · rw [if_neg q, if_pos rfl, if_neg q]
        exact fin 1 (by decide) (by decide)
  | r + 1, fuel, y, s, e, hf, hm, hL, hW, hD => by
    obtain ⟨fuel, rfl⟩ : ∃ g, fuel = g + 1 := ⟨fuel - 1, by omega⟩
    have hT1 := hT.1
    have rg := tP_rg (F := F) hT.1.1 (4 + 3 * y)
    have rg2 := tP_rg (F := F) hT.1.1 (4 + 3 * y + 2)
    have i1 := (mAt_i hT hm).1
    -- once something is wrong, the loop ends
    have stop : ∀ (v : gI) (z : Int), mBad z v → v.1 69 71 = DD → f195_at75 N fuel ((y : Int) + 1) v = f195_at153 N v := fun v z hb hd => by
      obtain ⟨g, rfl⟩ : ∃ g, fuel = g + 1 := ⟨fuel - 1, by omega⟩
      unfold f195_at75 f195_at116
      have z0 : ¬ z = 0 := by have := hb.2.1; omega
      rw [ick_ok (by decide) (by decide), hb.1]
      simp only [if_neg z0, ite_self]
    unfold f195_at75 rowsZ
    have mw := m_takeWord (N := N) (w := 27) hT hm (by decide)
    have mw : f188 N 27 s = _ := mw
    rw [ick_ok (by decide) (by decide), hD, if_neg (by omega), hm.2.2.1, if_pos rfl, mw, i_o1_some]
    by_cases q : isW F n (tP F n (4 + 3 * y)) 27
    rotate_left
    · rw [if_neg q, if_neg q]
      have hb := mBad_of (z := 1) hT hm (by decide)
      have er : f194 N y (iw s 63 8 (1 + 16 * tP F n (4 + 3 * y))) = some (iw s 63 8 (1 + 16 * tP F n (4 + 3 * y))) := by
        unfold f194 f194_at25
        rw [hb.1, if_neg (by omega), if_neg (by omega)]
      rw [er, i_o1_some, b_takeSign hb, i_o1_some, iov_ok (by omega) (by omega), stop _ _ hb (by rw [iw_ne (by decide)]; exact hD)]
      exact ⟨_, rfl, fr9.w8, by rw [iw_ne (by decide)]; exact hW, by rw [iw_ne (by decide)]; exact hD, fun c _ => by rw [iw_ne (by decide)], hb.1, by rw [hb.1]; omega, fun h => by omega⟩
    rw [if_pos q, if_pos q]
    have hm2 : mAt F n (4 + 3 * y + 1) (iw s 63 7 (((4 + 3 * y : Nat) : Int) + 1)) := mAt_up hm (by have := q.1; omega)
    obtain ⟨v1, a1, a2, a3, a4, a5, a6, a7⟩ := m_row (y := y) hN hT hm2 (by rw [iw_ne (by decide)]; exact hL) (by rw [iw_ne (by decide)]; exact hW) W0 W8 (by omega)
    rw [a1, i_o1_some]
    have f1 : fr9 s v1 := fr9.w7.tr a2
    rw [iw_ne (by decide), hD] at a4
    have a5 : ∀ c, c < 72 + 8 * (y : Int) → v1.1 69 c = s.1 69 c := fun c hc => by rw [a5 c hc, iw_ne (by decide)]
    by_cases q2 : rowZ F n W (4 + 3 * y + 1) = 0
    rotate_left
    · have hb := a7 q2
      rw [if_neg q2, b_takeSign hb, i_o1_some, iov_ok (by omega) (by omega), stop _ _ hb a4]
      exact ⟨v1, rfl, f1, a3, a4, a5, hb.1, by rw [hb.1]; have := hb.2.1; omega, fun h => absurd h q2⟩
    rw [if_pos q2]
    obtain ⟨hm3, a8⟩ := a6 q2
    have hm3 : mAt F n (4 + 3 * y + 2) v1 := hm3
    rw [m_takeSign hT hm3, i_o1_some]
    by_cases q3 : isS F n (tP F n (4 + 3 * y + 2)) 59
    rotate_left
    · have hb := mBad_of (z := 1) hT hm3 (by decide)
      rw [if_neg q3, if_neg q3, iov_ok (by omega) (by omega), stop _ _ hb (by rw [iw_ne (by decide)]; exact a4)]
      exact ⟨_, rfl, f1.tr fr9.w8, by rw [iw_ne (by decide)]; exact a3, by rw [iw_ne (by decide)]; exact a4, fun c hc => by rw [iw_ne (by decide)]; exact a5 c hc, hb.1, by rw [hb.1]; omega, fun h => by omega⟩
    rw [if_pos q3, if_pos q3, iov_ok (by omega) (by omega)]
    have hm4 : mAt F n (4 + 3 * (y + 1)) (iw v1 63 7 (((4 + 3 * y + 2 : Nat) : Int) + 1)) := mAt_up (i := 4 + 3 * y + 2) hm3 (by have := q3.1; omega)
    have e70 : v1.1 70 = s.1 70 := f1.1 70 (by decide) (by decide)
    obtain ⟨v2, b1, b2, b3, b4, b5, b6, b7, b8⟩ := m_rows hN hT W0 W8 D8 r fuel (y + 1) _ (by omega) (by omega) hm4 (by rw [iw_ne (by decide), e70]; exact hL) (by rw [iw_ne (by decide)]; exact a3) (by rw [iw_ne (by decide)]; exact a4)
    have e4 : 4 + 3 * (y + 1) = 4 + 3 * y + 3 := by omega
    rw [e4] at b6 b8
    refine ⟨v2, b1, (f1.tr fr9.w7).tr b2, b3, b4, fun c hc => by rw [b5 c (by omega), iw_ne (by decide)]; exact a5 c hc, b6, b7, fun h y2 x h1 h2 h3 h4 => ?_⟩
    by_cases z : y2 = y
    · subst z
      rw [b5 _ (by omega), iw_ne (by decide), a8 x h3 h4, show 5 + 3 * y2 = 4 + 3 * y2 + 1 by omega]
    · exact b8 h y2 x (by omega) h2 h3 h4
end MROOF

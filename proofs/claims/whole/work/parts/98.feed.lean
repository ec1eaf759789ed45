/-! Promise 2: feed answered alike. -/
/-- states that tell the same but for the tape -/
def sameT (s v : gI) : Prop := (∀ a : Nat, ((6 ≤ a ∧ a ≤ 10) ∨ (12 ≤ a ∧ a ≤ 26) ∨ a = 28 ∨ a = 29 ∨ (44 ≤ a ∧ a ≤ 62) ∨ (41 ≤ a ∧ a ≤ 43) ∨ (69 ≤ a ∧ a ≤ 73) ∨ a = 79) → v.1 a = s.1 a) ∧ True ∧ True ∧ v.1 63 23 = s.1 63 23 ∧ (∀ j, j < 588 → v.1 78 j = s.1 78 j) ∧ v.2 68 = s.2 68
section FEED
variable {N : Nat} {s v u : gI} {k x y : Int} {F G : Int → Int}
theorem sameT_cQ (h : sameT s v) : cQ v = cQ s := by
  unfold cQ
  rw [h.1 12 (by omega), h.1 13 (by omega), h.1 15 (by omega), h.1 18 (by omega)]
theorem sameT_mQ (h : sameT s v) : mQ v = mQ s := by
  unfold mQ
  rw [h.1 69 (by omega), h.1 71 (by omega)]
theorem sameT_rowV (h : sameT s v) {c : Nat} (hc : c = 42 ∨ c = 43) {r : Int} (hr : rowV k s c r) : rowV k v c r := by
  unfold rowV at hr ⊢
  rw [sameT_cQ h, h.1 c (by omega), h.1 15 (by omega)]
  exact hr
theorem sameT_rowE (h : sameT s v) {c : Nat} (hc : c = 42 ∨ c = 43) {r b : Int} (hb : b ≤ 560) (hr : rowE s c r b) : rowE v c r b := by
  unfold rowE at hr ⊢
  rw [h.1 c (by omega), h.2.2.2.2.1 (b + 16) (by omega), h.2.2.2.2.1 (b + 17) (by omega)]
  exact ⟨fun j h0 h1 => by rw [h.2.2.2.2.1 (b + j) (by omega)]; exact hr.1 j h0 h1, hr.2⟩
theorem sameT_seenV (h : sameT s v) {f : Int → Int} (hf : seenV s f) : seenV v f := by
  unfold seenV at hf ⊢
  rw [h.1 12 (by omega)]
  exact hf
theorem sameT_inv (h : sameT s v) (h6 : I6 v) (hI : INV k s) : INV k v := by
  obtain ⟨⟨⟨hco, hsc, hV, har, hwo⟩, hmo, hq, h8, r5⟩, i2, i3, i4, i5, i6, i7, l0, l1⟩ := hI
  have e6 := h.1 6 (by omega)
  have e7 := h.1 7 (by omega)
  have e8 := h.1 8 (by omega)
  have e9 := h.1 9 (by omega)
  have e10 := h.1 10 (by omega)
  have e12 := h.1 12 (by omega)
  have e13 := h.1 13 (by omega)
  have e14 := h.1 14 (by omega)
  have e15 := h.1 15 (by omega)
  have e16 := h.1 16 (by omega)
  have e18 := h.1 18 (by omega)
  have e19 := h.1 19 (by omega)
  have e20 := h.1 20 (by omega)
  have e22 := h.1 22 (by omega)
  have e23 := h.1 23 (by omega)
  have e24 := h.1 24 (by omega)
  have e25 := h.1 25 (by omega)
  have e26 := h.1 26 (by omega)
  have e28 := h.1 28 (by omega)
  have e29 := h.1 29 (by omega)
  have e41 := h.1 41 (by omega)
  have e42 := h.1 42 (by omega)
  have e43 := h.1 43 (by omega)
  have e69 := h.1 69 (by omega)
  have e70 := h.1 70 (by omega)
  have e71 := h.1 71 (by omega)
  have e72 := h.1 72 (by omega)
  have e73 := h.1 73 (by omega)
  have e79 := h.1 79 (by omega)
  obtain ⟨-, q1, q2, q3, q4, q5⟩ := id h
  refine ⟨⟨⟨?_, ?_, ?_, ?_, ?_⟩, ?_, ?_, ?_, ?_⟩, ?_, ?_, ?_, ?_, ?_, ?_, ?_, ?_⟩
  · unfold cOK; rw [e12, e13, e15]; exact hco
  · unfold scOK; rw [e9, e7, e15]; exact hsc
  · rw [sameT_cQ h, e7]; exact hV
  · rw [e16]; exact har
  · unfold cWo; rw [e20]; exact hwo
  · unfold mOK; rw [e69, e71]; exact hmo
  · rw [sameT_cQ h, sameT_mQ h]; exact hq
  · intro j h0 h1
    rw [sh_at, q4 (0 + j) (by omega), e7]
    exact h8 j h0 h1
  · unfold mWo; rw [e71, e15, e16, e20]; exact r5
  · unfold I2
    rw [e8, e6, e10, e7, e15, q4 16 (by decide), q4 17 (by decide)]
    exact ⟨fun j h0 h1 => by rw [q4 (8 + j) (by omega)]; exact i2.1 j h0 h1, i2.2.1, i2.2.2.1, fun x h0 h1 => by rw [q4 (18 + x) (by omega)]; exact i2.2.2.2.1 x h0 h1, sameT_seenV h i2.2.2.2.2.1, i2.2.2.2.2.2⟩
  · unfold I3; rw [e15, e18, e19, e22, e23, e24, e71]; exact i3
  · unfold I4; rw [e14]; exact i4
  · unfold I5
    rw [e41, e43, e79, q3]
    refine ⟨i5.1, i5.2.1, i5.2.2.1, fun i h0 h1 => ?_, i5.2.2.2.2.1, fun m h0 h1 => ?_⟩
    · obtain ⟨a, b⟩ := i5.2.2.2.1 i h0 h1
      have := i5.2.1.2
      exact ⟨sameT_rowE h (Or.inl rfl) (by omega) a, sameT_rowV h (Or.inl rfl) b⟩
    · obtain ⟨a, b, c⟩ := i5.2.2.2.2.2 m h0 h1
      refine ⟨a, b, fun hm => ?_⟩
      obtain ⟨d, e, f, g⟩ := c hm
      refine ⟨sameT_rowE h (Or.inr rfl) (by omega) d, sameT_rowV h (Or.inr rfl) e, fun x h2 h3 => ?_, sameT_seenV h g⟩
      rw [q4 _ (by omega)]
      exact f x h2 h3
  · exact h6
  · unfold I7 spr; rw [e70, q5, h.1 45 (by omega), h.1 46 (by omega), h.1 48 (by omega), h.1 50 (by omega), h.1 52 (by omega)]; exact i7
  · unfold lawR; rw [e71, e72, e73, e25, show (25 + 1 : Nat) = 26 from rfl, e26]; exact l0
  · unfold lawR; rw [e71, e72, e73, e28, show (28 + 1 : Nat) = 29 from rfl, e29]; exact l1
/-- one byte of eight -/
def byt (y x : Int) : Int := i_and (Int.bmod (j_shr y x) 4294967296) 255
theorem ofInt_bmod (z : Int) : Int32.ofInt (Int.bmod z 4294967296) = Int32.ofInt z := by
  apply Int32.toBitVec_inj.mp
  show BitVec.ofInt 32 (Int.bmod z 4294967296) = BitVec.ofInt 32 z
  apply BitVec.eq_of_toInt_eq
  rw [BitVec.toInt_ofInt, BitVec.toInt_ofInt]
  exact Int.bmod_bmod
theorem low8 (w : Int64) (i : Nat) (hi : i < 32) : (Int32.ofInt w.toInt).toBitVec.getLsbD i = w.toBitVec.getLsbD i := by
  show (BitVec.ofInt 32 w.toBitVec.toInt).getLsbD i = _
  have e : BitVec.ofInt 32 w.toBitVec.toInt = w.toBitVec.signExtend 32 := rfl
  rw [e, BitVec.getLsbD_signExtend]
  simp [hi, show i < 64 by omega]
theorem b255 (i : Nat) (hi : i < 32) : (Int32.ofInt 255).toBitVec.getLsbD i = decide (i < 8) := by
  have : ∀ j : Fin 32, (Int32.ofInt 255).toBitVec.getLsbD j.val = decide (j.val < 8) := by decide +kernel
  exact this ⟨i, hi⟩
theorem byt_u {y : Int} {r : Nat} (hr : r < 8) : i_and (Int.bmod (j_ushr y (8 * (r : Int))) 4294967296) 255 = byt y (8 * (r : Int)) := by
  unfold byt i_and
  rw [ofInt_bmod, ofInt_bmod]
  congr 1
  apply Int32.toBitVec_inj.mp
  apply BitVec.eq_of_getLsbD_eq
  intro i hi
  rw [Int32.toBitVec_and, Int32.toBitVec_and, BitVec.getLsbD_and, BitVec.getLsbD_and, b255 i hi]
  by_cases h8 : i < 8
  rotate_left
  · simp [h8]
  have e8 : (8 * (r : Int)) = ((8 * r : Nat) : Int) := by omega
  unfold j_shr j_ushr
  rw [low8 _ i hi, low8 _ i hi, e8]
  congr 1
  show (((Int64.ofInt y).toUInt64 >>> ((Int32.ofInt ((8 * r : Nat) : Int)).toInt64.toUInt64 &&& Int64.toUInt64 63)).toBitVec).getLsbD i = (Int64.ofInt y >>> ((Int32.ofInt ((8 * r : Nat) : Int)).toInt64 &&& 63)).toBitVec.getLsbD i
  rw [UInt64.toBitVec_shiftRight, l_uamt (show 8 * r < 64 by omega), BitVec.ushiftRight_eq', BitVec.getLsbD_ushiftRight, Int64.toBitVec_shiftRight, l_amt (show 8 * r < 64 by omega), BitVec.sshiftRight'_ofNat_eq_sshiftRight, Nat.mod_eq_of_lt (by omega), BitVec.getLsbD_sshiftRight]
  have e : (BitVec.ofNat 64 (8 * r)).toNat = 8 * r := by
    rw [BitVec.toNat_ofNat]
    exact Nat.mod_eq_of_lt (by omega)
  rw [e]
  simp [show 8 * r + i < 64 by omega, show ¬ 64 ≤ i by omega]
theorem byt_rg {y x : Int} : 0 ≤ byt y x ∧ byt y x ≤ 255 := by
  unfold byt i_and
  generalize Int32.ofInt (Int.bmod (j_shr y x) 4294967296) = w
  have h : (w &&& Int32.ofInt 255).toBitVec.toNat ≤ 255 := by
    rw [Int32.toBitVec_and, BitVec.toNat_and]
    have e : (Int32.ofInt 255).toBitVec.toNat = 255 := rfl
    rw [e]
    exact Nat.and_le_right
  have e2 : (w &&& Int32.ofInt 255).toInt = (w &&& Int32.ofInt 255).toBitVec.toInt := rfl
  rw [e2, BitVec.toInt_eq_toNat_of_lt (by omega)]
  omega
/-- what is taken of a byte -/
def fd1 (b : Int) (kF : Int × (Int → Int)) : Int × (Int → Int) := if (b = 10 ∨ (32 ≤ b ∧ b ≤ 126)) ∧ kF.1 < 1000 then (kF.1 + 1, zup kF.2 kF.1 b) else kF
def fdL (y : Int) : Nat → Int × (Int → Int) → Int × (Int → Int)
  | 0, kF => kF
  | r + 1, kF => fdL y r (fd1 (byt y (8 * (r : Int))) kF)
def tpI (kF kG : Int × (Int → Int)) : Prop := kF.1 = kG.1 ∧ (0 ≤ kF.1 ∧ kF.1 ≤ 1000) ∧ ∀ j, 0 ≤ j → j < kF.1 → kG.2 j = kF.2 j ∧ (kF.2 j = 10 ∨ (32 ≤ kF.2 j ∧ kF.2 j ≤ 126))
theorem fd1_I {b : Int} {kF kG : Int × (Int → Int)} (h : tpI kF kG) : tpI (fd1 b kF) (fd1 b kG) := by
  obtain ⟨h1, h2, h3⟩ := h
  unfold fd1
  rw [← h1]
  by_cases g : (b = 10 ∨ (32 ≤ b ∧ b ≤ 126)) ∧ kF.1 < 1000
  · rw [if_pos g, if_pos g]
    refine ⟨by show kF.1 + 1 = kF.1 + 1; rfl, ⟨by show 0 ≤ kF.1 + 1; omega, by show kF.1 + 1 ≤ 1000; omega⟩, fun j j0 j1 => ?_⟩
    have j1 : j < kF.1 + 1 := j1
    show zup kG.2 kF.1 b j = zup kF.2 kF.1 b j ∧ (zup kF.2 kF.1 b j = 10 ∨ (32 ≤ zup kF.2 kF.1 b j ∧ zup kF.2 kF.1 b j ≤ 126))
    by_cases q : j = kF.1
    · rw [q, zup_same, zup_same]
      exact ⟨rfl, g.1⟩
    · rw [zup_ne q, zup_ne q]
      exact h3 j j0 (by omega)
  · rw [if_neg g, if_neg g]
    exact ⟨h1, h2, h3⟩
theorem fdL_I {y : Int} : ∀ (r : Nat) (kF kG : Int × (Int → Int)), tpI kF kG → tpI (fdL y r kF) (fdL y r kG)
  | 0, _, _, h => h
  | r + 1, kF, kG, h => by
    unfold fdL
    exact fdL_I r _ _ (fd1_I h)
def cTp (s : gI) (kF : Int × (Int → Int)) : gI := iw (ic s 2 kF.2) 1 1 kF.1
def mTp (s : gI) (kF : Int × (Int → Int)) : gI := iw (ic s 64 kF.2) 63 2 kF.1
theorem c_feed_lp : ∀ (r fuel : Nat) (kF : Int × (Int → Int)), r ≤ 8 → r < fuel → 0 ≤ kF.1 → kF.1 ≤ 1000 → f95_at3 N fuel y (8 * (r : Int) - 8) (cTp s kF) = some (cTp s (fdL y r kF)) := by
  intro r
  induction r with
  | zero =>
    intro fuel kF r8 hf k0 k1
    obtain ⟨fuel, rfl⟩ : ∃ g, fuel = g + 1 := ⟨fuel - 1, by omega⟩
    unfold f95_at3
    rw [if_pos (by decide)]
    rfl
  | succ r ih =>
    intro fuel kF r8 hf k0 k1
    obtain ⟨fuel, rfl⟩ : ∃ g, fuel = g + 1 := ⟨fuel - 1, by omega⟩
    have rb := byt_rg (y := y) (x := 8 * (r : Int))
    have e1 : 8 * ((r + 1 : Nat) : Int) - 8 = 8 * (r : Int) := by omega
    have e2 : 8 * (r : Int) + -8 = 8 * (r : Int) - 8 := by omega
    have c1 : (cTp s kF).1 1 1 = kF.1 := by unfold cTp; rw [iw_at, zup_same]
    generalize hb : byt y (8 * (r : Int)) = b at rb
    have skip : ¬ ((b = 10 ∨ (32 ≤ b ∧ b ≤ 126)) ∧ kF.1 < 1000) → f95_at3 N fuel y (8 * (r : Int) - 8) (cTp s kF) = some (cTp s (fdL y (r + 1) kF)) := fun h => by
      have : fdL y (r + 1) kF = fdL y r kF := by
        show fdL y r (fd1 (byt y (8 * (r : Int))) kF) = _
        rw [hb]
        unfold fd1
        rw [if_neg h]
      rw [this]
      exact ih fuel kF (by omega) (by omega) k0 k1
    have no : ¬ (b = 10 ∨ (32 ≤ b ∧ b ≤ 126)) → f95_at42 N (f95_at3 N fuel) y (8 * (r : Int)) b (cTp s kF) = some (cTp s (fdL y (r + 1) kF)) := fun h => by
      unfold f95_at42 f95_at43
      rw [if_pos rfl, e2, iov_ok (by omega) (by omega)]
      exact skip (fun q => h q.1)
    have yes : (b = 10 ∨ (32 ≤ b ∧ b ≤ 126)) → f95_at38 N (f95_at3 N fuel) y (8 * (r : Int)) b (cTp s kF) = some (cTp s (fdL y (r + 1) kF)) := fun h => by
      unfold f95_at38 f95_at43
      rw [if_neg (by decide), c1, e2]
      by_cases g : 1000 ≤ kF.1
      · rw [if_pos g, iov_ok (by omega) (by omega)]
        exact skip (fun q => by have := q.2; omega)
      · have e3 : fdL y (r + 1) kF = fdL y r (kF.1 + 1, zup kF.2 kF.1 b) := by
          show fdL y r (fd1 (byt y (8 * (r : Int))) kF) = _
          rw [hb]
          unfold fd1
          rw [if_pos ⟨h, by omega⟩]
        have e4 : iw (iw (cTp s kF) 2 kF.1 b) 1 1 (kF.1 + 1) = cTp s (kF.1 + 1, zup kF.2 kF.1 b) := by
          unfold cTp
          refine gI_ext (fun c => ?_) rfl
          by_cases q1 : c = 1
          · subst q1
            rw [iw_at, iw_ne (by decide), iw_at, iw_at, zup_zup, ic_ne (by decide), ic_ne (by decide)]
          · rw [iw_ne q1]
            by_cases q2 : c = 2
            · subst q2
              rw [iw_at, iw_ne q1, iw_ne q1, ic_at, ic_at]
            · rw [iw_ne q2, iw_ne q1, iw_ne q1, ic_ne q2, ic_ne q2]
        have e5 : (iw (cTp s kF) 2 kF.1 b).1 1 1 = kF.1 := by rw [iw_ne (by decide)]; exact c1
        rw [if_neg g, ich_ok (by omega) (by omega), ick_ok k0 (by omega), ich_ok (by omega) (by omega)]
        dsimp only
        rw [e5, iov_ok (by omega) (by omega), iov_ok (by omega) (by omega), e4, e3]
        exact ih fuel (kF.1 + 1, zup kF.2 kF.1 b) (by omega) (by omega) (by show 0 ≤ kF.1 + 1; omega) (by show kF.1 + 1 ≤ 1000; omega)
    unfold f95_at3
    rw [e1, if_neg (by omega), byt_u (show r < 8 by omega), hb]
    dsimp only
    by_cases g1 : b = 10
    · rw [if_pos g1]; exact yes (Or.inl g1)
    rw [if_neg g1]
    by_cases g2 : b < 32
    · rw [if_pos g2]; exact no (by omega)
    rw [if_neg g2]
    by_cases g3 : 126 < b
    · rw [if_pos g3]; exact no (by omega)
    · rw [if_neg g3]; exact yes (by omega)
theorem m_feed_lp : ∀ (r fuel : Nat) (kF : Int × (Int → Int)), r ≤ 8 → r < fuel → 0 ≤ kF.1 → kF.1 ≤ 1000 → f175_at3 N fuel y (8 * (r : Int) - 8) (mTp s kF) = some (mTp s (fdL y r kF)) := by
  intro r
  induction r with
  | zero =>
    intro fuel kF r8 hf k0 k1
    obtain ⟨fuel, rfl⟩ : ∃ g, fuel = g + 1 := ⟨fuel - 1, by omega⟩
    unfold f175_at3
    rw [if_pos (by decide)]
    rfl
  | succ r ih =>
    intro fuel kF r8 hf k0 k1
    obtain ⟨fuel, rfl⟩ : ∃ g, fuel = g + 1 := ⟨fuel - 1, by omega⟩
    have rb := byt_rg (y := y) (x := 8 * (r : Int))
    have e1 : 8 * ((r + 1 : Nat) : Int) - 8 = 8 * (r : Int) := by omega
    have e2 : 8 * (r : Int) + -8 = 8 * (r : Int) - 8 := by omega
    have c1 : (mTp s kF).1 63 2 = kF.1 := by unfold mTp; rw [iw_at, zup_same]
    have eb : i_and (Int.bmod (j_shr y (8 * (r : Int))) 4294967296) 255 = byt y (8 * (r : Int)) := rfl
    generalize hb : byt y (8 * (r : Int)) = b at rb eb
    have skip : ¬ ((b = 10 ∨ (32 ≤ b ∧ b ≤ 126)) ∧ kF.1 < 1000) → f175_at3 N fuel y (8 * (r : Int) - 8) (mTp s kF) = some (mTp s (fdL y (r + 1) kF)) := fun h => by
      have : fdL y (r + 1) kF = fdL y r kF := by
        show fdL y r (fd1 (byt y (8 * (r : Int))) kF) = _
        rw [hb]
        unfold fd1
        rw [if_neg h]
      rw [this]
      exact ih fuel kF (by omega) (by omega) k0 k1
    have yes : (b = 10 ∨ (32 ≤ b ∧ b ≤ 126)) → f175_at38 N (f175_at3 N fuel) y (8 * (r : Int)) b (mTp s kF) = some (mTp s (fdL y (r + 1) kF)) := fun h => by
      unfold f175_at38
      rw [c1, e2]
      by_cases g : 1000 ≤ kF.1
      · rw [if_pos g, iov_ok (by omega) (by omega)]
        exact skip (fun q => by have := q.2; omega)
      · have e3 : fdL y (r + 1) kF = fdL y r (kF.1 + 1, zup kF.2 kF.1 b) := by
          show fdL y r (fd1 (byt y (8 * (r : Int))) kF) = _
          rw [hb]
          unfold fd1
          rw [if_pos ⟨h, by omega⟩]
        have e4 : iw (iw (mTp s kF) 64 kF.1 b) 63 2 (kF.1 + 1) = mTp s (kF.1 + 1, zup kF.2 kF.1 b) := by
          unfold mTp
          refine gI_ext (fun c => ?_) rfl
          by_cases q1 : c = 63
          · subst q1
            rw [iw_at, iw_ne (by decide), iw_at, iw_at, zup_zup, ic_ne (by decide), ic_ne (by decide)]
          · rw [iw_ne q1]
            by_cases q2 : c = 64
            · subst q2
              rw [iw_at, iw_ne q1, iw_ne q1, ic_at, ic_at]
            · rw [iw_ne q2, iw_ne q1, iw_ne q1, ic_ne q2, ic_ne q2]
        have e5 : (iw (mTp s kF) 64 kF.1 b).1 63 2 = kF.1 := by rw [iw_ne (by decide)]; exact c1
        rw [if_neg g, ick_ok k0 (by omega)]
        dsimp only
        rw [e5, iov_ok (by omega) (by omega), iov_ok (by omega) (by omega), e4, e3]
        exact ih fuel (kF.1 + 1, zup kF.2 kF.1 b) (by omega) (by omega) (by show 0 ≤ kF.1 + 1; omega) (by show kF.1 + 1 ≤ 1000; omega)
    unfold f175_at3
    rw [e1, if_neg (by omega), eb]
    dsimp only
    by_cases g1 : b = 10
    · rw [if_pos g1]; exact yes (Or.inl g1)
    rw [if_neg g1]
    by_cases g2 : b < 32
    · rw [if_pos g2, e2, iov_ok (by omega) (by omega)]; exact skip (by omega)
    rw [if_neg g2]
    by_cases g3 : 126 < b
    · rw [if_pos g3, e2, iov_ok (by omega) (by omega)]; exact skip (by omega)
    · rw [if_neg g3]; exact yes (by omega)
theorem c_feed1 (hN : 5000 ≤ N) {kF : Int × (Int → Int)} (k0 : 0 ≤ kF.1) (k1 : kF.1 ≤ 1000) : f95 N y (cTp s kF) = some (cTp s (fdL y 8 kF)) := c_feed_lp 8 N kF (by decide) (by omega) k0 k1
theorem m_feed1 (hN : 5000 ≤ N) {kF : Int × (Int → Int)} (k0 : 0 ≤ kF.1) (k1 : kF.1 ≤ 1000) : f175 N y (mTp s kF) = some (mTp s (fdL y 8 kF)) := m_feed_lp 8 N kF (by decide) (by omega) k0 k1
theorem q_feed {y1 y2 y3 : Int} (hN : 5000 ≤ N) (hI : INV k s) : OKc k s (f134 N y1 y2 y3) (f174 N y1 y2 y3) := by
  obtain ⟨t1, t2, t3⟩ := hI.2.2.2.2.2.1
  have hp0 : tpI (s.1 1 1, s.1 2) (s.1 63 2, s.1 64) := ⟨t1.symm, t2, t3⟩
  have hp1 := fdL_I (y := y1) 8 _ _ hp0
  have hp2 := fdL_I (y := y2) 8 _ _ hp1
  have hp3 := fdL_I (y := y3) 8 _ _ hp2
  have c0 : cTp s (s.1 1 1, s.1 2) = s := by
    unfold cTp
    rw [ic_self, iw_ic, zup_self, ic_self]
  generalize hF1 : fdL y1 8 (s.1 1 1, s.1 2) = F1 at hp1 hp2 hp3
  generalize hF2 : fdL y2 8 F1 = F2 at hp2 hp3
  generalize hF3 : fdL y3 8 F2 = F3 at hp3
  generalize hG1 : fdL y1 8 (s.1 63 2, s.1 64) = G1 at hp1 hp2 hp3
  generalize hG2 : fdL y2 8 G1 = G2 at hp2 hp3
  generalize hG3 : fdL y3 8 G2 = G3 at hp3
  have l1 := c_feed1 (N := N) (s := s) (y := y1) (kF := (s.1 1 1, s.1 2)) hN t2.1 t2.2
  have l2 := c_feed1 (N := N) (s := s) (y := y2) (kF := F1) hN hp1.2.1.1 hp1.2.1.2
  have l3 := c_feed1 (N := N) (s := s) (y := y3) (kF := F2) hN hp2.2.1.1 hp2.2.1.2
  rw [c0, hF1] at l1
  rw [hF2] at l2
  rw [hF3] at l3
  have cfin : f134 N y1 y2 y3 s = some (F3.1, cTp s F3) := by
    unfold f134
    rw [l1, i_o1_some, l2, i_o1_some, l3, i_o1_some]
    unfold cTp
    rw [iw_at, zup_same]
  have u63 : (iw (cTp s F3) 63 0 0).1 63 2 = s.1 63 2 := by
    rw [iw_at, zup_ne (by decide)]
    unfold cTp
    rw [iw_ne (by decide), ic_ne (by decide)]
  have u64 : (iw (cTp s F3) 63 0 0).1 64 = s.1 64 := by
    rw [iw_ne (by decide)]
    unfold cTp
    rw [iw_ne (by decide), ic_ne (by decide)]
  have m0 : mTp (iw (cTp s F3) 63 0 0) (s.1 63 2, s.1 64) = iw (cTp s F3) 63 0 0 := by
    unfold mTp
    rw [← u63, ← u64, ic_self, iw_ic, zup_self, ic_self]
  have g1 : 0 ≤ G1.1 ∧ G1.1 ≤ 1000 := by rw [← hp1.1]; exact hp1.2.1
  have g2 : 0 ≤ G2.1 ∧ G2.1 ≤ 1000 := by rw [← hp2.1]; exact hp2.2.1
  have n1 := m_feed1 (N := N) (s := iw (cTp s F3) 63 0 0) (y := y1) (kF := (s.1 63 2, s.1 64)) hN (by rw [t1]; exact t2.1) (by rw [t1]; exact t2.2)
  have n2 := m_feed1 (N := N) (s := iw (cTp s F3) 63 0 0) (y := y2) (kF := G1) hN g1.1 g1.2
  have n3 := m_feed1 (N := N) (s := iw (cTp s F3) 63 0 0) (y := y3) (kF := G2) hN g2.1 g2.2
  rw [m0, hG1] at n1
  rw [hG2] at n2
  rw [hG3] at n3
  have mfin : f174 N y1 y2 y3 (cTp s F3) = some (F3.1, mTp (iw (cTp s F3) 63 0 0) G3) := by
    unfold f174
    dsimp only
    rw [n1, i_o1_some, n2, i_o1_some, n3, i_o1_some, hp3.1]
    unfold mTp
    rw [iw_at, zup_same]
  refine ⟨_, _, _, cfin, mfin, INV_mono (k := k) (by omega) ?_⟩
  have ne : ∀ a : Nat, a ≠ 1 → a ≠ 2 → a ≠ 63 → a ≠ 64 → (mTp (iw (cTp s F3) 63 0 0) G3).1 a = s.1 a := fun a a1 a2 a3 a4 => by
    unfold mTp cTp
    rw [iw_ne a3, ic_ne a4, iw_ne a3, iw_ne a1, ic_ne a2]
  have f2 : (mTp (iw (cTp s F3) 63 0 0) G3).1 2 = F3.2 := by
    unfold mTp cTp
    rw [iw_ne (by decide), ic_ne (by decide), iw_ne (by decide), iw_ne (by decide), ic_at]
  have f1 : (mTp (iw (cTp s F3) 63 0 0) G3).1 1 1 = F3.1 := by
    unfold mTp cTp
    rw [iw_ne (by decide), ic_ne (by decide), iw_ne (by decide), iw_at, zup_same]
  have f64 : (mTp (iw (cTp s F3) 63 0 0) G3).1 64 = G3.2 := by
    unfold mTp
    rw [iw_ne (by decide), ic_at]
  have f63 : (mTp (iw (cTp s F3) 63 0 0) G3).1 63 2 = G3.1 := by
    unfold mTp
    rw [iw_at, zup_same]
  refine sameT_inv ⟨fun a ha => ne a (by omega) (by omega) (by omega) (by omega), trivial, trivial, ?_, fun j _ => ?_, rfl⟩ ?_ hI
  · unfold mTp cTp
    rw [iw_at, zup_ne (by decide), ic_ne (by decide), iw_at, zup_ne (by decide), iw_ne (by decide), ic_ne (by decide)]
  · rw [ne 78 (by decide) (by decide) (by decide) (by decide)]
  · unfold I6
    rw [f1, f2, f63, f64]
    exact ⟨hp3.1.symm, hp3.2.1, hp3.2.2⟩
end FEED

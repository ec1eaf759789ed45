/-! Names: a word as one number on both sides; what is a NAME. -/
section NAMES
variable {N : Nat} {s t u v v1 : gI} {F G A B C T : Int → Int} {n e st lo hi c m zn br w k d l cc p q : Int} {r i i2 lc a b : Nat}
theorem i64_val {x : Int64} {z : Nat} (h : x.toBitVec = BitVec.ofNat 64 z) (hz : z < 9223372036854775808) : x.toInt = z := by
  show x.toBitVec.toInt = z
  rw [h, BitVec.toInt_eq_toNat_of_lt]
  · rw [BitVec.toNat_ofNat, Nat.mod_eq_of_lt (by omega)]
  · rw [BitVec.toNat_ofNat, Nat.mod_eq_of_lt (by omega)]
    omega
theorem i64_bv {a : Nat} : (Int64.ofInt (a : Int)).toBitVec = BitVec.ofNat 64 a := by
  show BitVec.ofInt 64 (a : Int) = BitVec.ofNat 64 a
  exact BitVec.ofInt_natCast ..
theorem j_pack {y c : Int} (y0 : 0 ≤ y) (y1 : y < 36028797018963968) (c0 : 0 ≤ c) (c1 : c < 256) : j_or (j_shl y 8) c = 256 * y + c := by
  obtain ⟨a, rfl⟩ := Int.eq_ofNat_of_zero_le y0
  obtain ⟨b, rfl⟩ := Int.eq_ofNat_of_zero_le c0
  have ha : a < 36028797018963968 := by omega
  have hb : b < 256 := by omega
  unfold j_or j_shl
  rw [Int64.ofInt_toInt]
  have l8 := l_amt (n := 8) (by decide)
  have l8 : ((Int32.ofInt (8 : Int)).toInt64 &&& 63).toBitVec.smod 64 = BitVec.ofNat 64 8 := l8
  have e1 : (Int64.ofInt (a : Int) <<< ((Int32.ofInt (8 : Int)).toInt64 &&& 63)).toBitVec = BitVec.ofNat 64 (256 * a) := by
    rw [Int64.toBitVec_shiftLeft, l8, i64_bv]
    apply BitVec.eq_of_toNat_eq
    rw [BitVec.shiftLeft_eq', BitVec.toNat_shiftLeft, BitVec.toNat_ofNat, BitVec.toNat_ofNat, BitVec.toNat_ofNat, Nat.mod_eq_of_lt (a := a) (by omega), Nat.mod_eq_of_lt (a := 8) (by decide), Nat.shiftLeft_eq]
    congr 1
    omega
  have e2 : (Int64.ofInt (a : Int) <<< ((Int32.ofInt (8 : Int)).toInt64 &&& 63) ||| Int64.ofInt (b : Int)).toBitVec = BitVec.ofNat 64 (256 * a + b) := by
    rw [Int64.toBitVec_or, e1, i64_bv]
    apply BitVec.eq_of_toNat_eq
    rw [BitVec.toNat_or, BitVec.toNat_ofNat, BitVec.toNat_ofNat, BitVec.toNat_ofNat, Nat.mod_eq_of_lt (a := 256 * a) (by omega), Nat.mod_eq_of_lt (a := b) (by omega), Nat.mod_eq_of_lt (a := 256 * a + b) (by omega)]
    have := Nat.shiftLeft_add_eq_or_of_lt (b := b) (i := 8) (by omega) a
    rw [Nat.shiftLeft_eq] at this
    rw [show 256 * a = a * 2 ^ 8 by omega]
    exact this.symm
  rw [i64_val e2 (by omega)]
  omega
theorem p256 (r : Nat) (h : r ≤ 7) : (256 : Int) ^ r ≤ 72057594037927936 := by
  have : ∀ r : Fin 8, (256 : Int) ^ r.val ≤ 72057594037927936 := by decide
  exact this ⟨r, by omega⟩
theorem pk_pos (r : Nat) (h : ∀ j : Int, st ≤ j → j < st + r → 97 ≤ F j ∧ F j ≤ 122) : r ≤ wvl F 256 0 st r := by
  induction r with
  | zero => exact Int.le_refl _
  | succ r ih =>
    have i1 := ih (fun j h1 h2 => h j h1 (by omega))
    have i2 := h (st + r) (by omega) (by omega)
    show ((r + 1 : Nat) : Int) ≤ 256 * wvl F 256 0 st r + (F (st + r) - 0)
    omega
theorem pk_rg : ∀ (r : Nat), (∀ j : Int, st ≤ j → j < st + r → 97 ≤ F j ∧ F j ≤ 122) → 0 ≤ wvl F 256 0 st r ∧ 2 * wvl F 256 0 st r < (256 : Int) ^ r
  | 0, _ => by show (0 : Int) ≤ 0 ∧ 2 * (0 : Int) < 1; omega
  | r + 1, h => by
    have i1 := pk_rg r (fun j h1 h2 => h j h1 (by omega))
    have i2 := h (st + r) (by omega) (by omega)
    show 0 ≤ 256 * wvl F 256 0 st r + (F (st + r) - 0) ∧ 2 * (256 * wvl F 256 0 st r + (F (st + r) - 0)) < (256 : Int) ^ (r + 1)
    rw [Int.pow_succ]
    omega
theorem pk_inj : ∀ (r q : Nat) (x y : Int), (∀ j : Int, x ≤ j → j < x + r → 97 ≤ F j ∧ F j ≤ 122) → (∀ j : Int, y ≤ j → j < y + q → 97 ≤ G j ∧ G j ≤ 122) → wvl F 256 0 x r = wvl G 256 0 y q → r = q ∧ ∀ j : Nat, j < r → F (x + j) = G (y + j)
  | 0, 0, _, _, _, _, _ => ⟨rfl, fun j h => by omega⟩
  | 0, q + 1, x, y, _, h2, h => by
    have i2 := pk_pos (F := G) (st := y) (q + 1) h2
    have : wvl F 256 0 x 0 = 0 := rfl
    omega
  | r + 1, 0, x, y, h1, _, h => by
    have i2 := pk_pos (F := F) (st := x) (r + 1) h1
    have : wvl G 256 0 y 0 = 0 := rfl
    omega
  | r + 1, q + 1, x, y, h1, h2, h => by
    have e1 : wvl F 256 0 x (r + 1) = 256 * wvl F 256 0 x r + (F (x + r) - 0) := rfl
    have e2 : wvl G 256 0 y (q + 1) = 256 * wvl G 256 0 y q + (G (y + q) - 0) := rfl
    have c1 := h1 (x + r) (by omega) (by omega)
    have c2 := h2 (y + q) (by omega) (by omega)
    have e3 : wvl F 256 0 x r = wvl G 256 0 y q ∧ F (x + r) = G (y + q) := by omega
    obtain ⟨i1, i2⟩ := pk_inj r q x y (fun j a b => h1 j a (by omega)) (fun j a b => h2 j a (by omega)) e3.1
    subst i1
    refine ⟨rfl, fun j hj => ?_⟩
    by_cases g : j = r
    · subst g; exact e3.2
    · exact i2 j (by omega)
/-- one word as the class packs it, and as the reference tells it -/
def PV (p v : Int) : Prop := ∃ (F : Int → Int) (st : Int) (r : Nat), (∀ j : Int, st ≤ j → j < st + r → 97 ≤ F j ∧ F j ≤ 122) ∧ p = wvl F 256 0 st r ∧ v = wvl F 37 96 st r
theorem PV_iff {p v p2 v2 : Int} (h1 : PV p v) (h2 : PV p2 v2) : p = p2 ↔ v = v2 := by
  obtain ⟨F, x, r, a1, a2, a3⟩ := h1
  obtain ⟨G, y, q, b1, b2, b3⟩ := h2
  rw [a2, a3, b2, b3]
  constructor
  · intro h
    obtain ⟨c1, c2⟩ := pk_inj r q x y a1 b1 h
    subst c1
    exact wvl_cg r x y c2
  · intro h
    obtain ⟨c1, c2⟩ := wvl_inj r q x y a1 b1 h
    subst c1
    exact wvl_cg r x y c2
def pkW (F : Int → Int) (n st : Int) : Int := if tK F n st = 2 then wvl F 256 0 st (tE F n st - st).toNat else 0
theorem PV_tok (k : tK F n st = 2) : PV (pkW F n st) (tV F n st) := by
  obtain ⟨t1, t2, t3, t4⟩ := tK_2 k
  refine ⟨F, st, (tE F n st - st).toNat, fun j a b => t2 j a (by omega), ?_, ?_⟩
  · unfold pkW; rw [if_pos k]
  · unfold tV; rw [if_pos k]
theorem c_pack_lp (h2 : s.1 2 = F) (h4 : s.1 1 4 = e) (s0 : 0 ≤ st) (e1 : e ≤ 1000) (e8 : e - st ≤ 8) (hl : ∀ j, st ≤ j → j < e → 97 ≤ F j ∧ F j ≤ 122) : ∀ (q fuel : Nat) (x : Int), st ≤ x → x + q = e → q < fuel → f102_at15 N fuel (wvl F 256 0 st (x - st).toNat) x s = some (wvl F 256 0 st (e - st).toNat, s)
  | 0, fuel, x, x0, hx, hf => by
    obtain ⟨fuel, rfl⟩ : ∃ g, fuel = g + 1 := ⟨fuel - 1, by omega⟩
    unfold f102_at15
    rw [h4, if_pos (by omega), show x = e by omega]
  | q + 1, fuel, x, x0, hx, hf => by
    obtain ⟨fuel, rfl⟩ : ∃ g, fuel = g + 1 := ⟨fuel - 1, by omega⟩
    have w1 := pk_rg (F := F) (st := st) (x - st).toNat (fun j a b => hl j a (by omega))
    have w2 := p256 (x - st).toNat (by omega)
    have w3 := hl x x0 (by omega)
    unfold f102_at15
    rw [h4, if_neg (by omega), ick_ok (by omega) (by omega), h2]
    try dsimp only
    rw [iov_ok (by omega) (by omega), j_pack w1.1 (by omega) (by omega) (by omega)]
    have e2 : 256 * wvl F 256 0 st (x - st).toNat + F x = wvl F 256 0 st (x + 1 - st).toNat := by
      rw [show (x + 1 - st).toNat = (x - st).toNat + 1 by omega]
      show _ = 256 * wvl F 256 0 st (x - st).toNat + (F (st + ((x - st).toNat : Int)) - 0)
      rw [show st + ((x - st).toNat : Int) = x by omega]
      omega
    rw [e2]
    exact c_pack_lp h2 h4 s0 e1 e8 hl q fuel (x + 1) (by omega) (by omega) (by omega)
theorem c_packed (hN : 5000 ≤ N) (hT : tpF F n) (hc : cAt F n i s) : f102 N s = some (pkW F n (tP F n i), s) := by
  obtain ⟨h2, g1, g2, g3, g4, g5⟩ := hc
  have rg := tP_rg (F := F) hT.1.1 i
  have hT1 := hT.1
  unfold f102 pkW
  rw [g2]
  by_cases k : tK F n (tP F n i) = 2
  · obtain ⟨t1, t2, t3, t4⟩ := tK_2 k
    have eg := tE_le (F := F) rg.2
    rw [if_pos k, if_pos k, g3]
    have := c_pack_lp (N := N) (F := F) (st := tP F n i) (e := tE F n (tP F n i)) h2 g4 rg.1 (by omega) t4 t2 (tE F n (tP F n i) - tP F n i).toNat N (tP F n i) (Int.le_refl _) (by omega) (by omega)
    rw [show tP F n i - tP F n i = 0 by omega] at this
    exact this
  · rw [if_neg k, if_neg k]
theorem wd_36 : wdC 1036 6 0 := wdC_of (z := 6) (by decide +kernel)
theorem wd_38 : wdC 1038 5 2 := wdC_of (z := 5) (by decide +kernel)
theorem wd_40 : wdC 1040 4 5 := wdC_of (z := 4) (by decide +kernel)
theorem wd_42 : wdC 1042 3 10 := wdC_of (z := 3) (by decide +kernel)
theorem wd_44 : wdC 1044 6 11 := wdC_of (z := 6) (by decide +kernel)
theorem wd_46 : wdC 1046 5 13 := wdC_of (z := 5) (by decide +kernel)
theorem wd_48 : wdC 1048 6 14 := wdC_of (z := 6) (by decide +kernel)
theorem wd_50 : wdC 1050 6 15 := wdC_of (z := 6) (by decide +kernel)
theorem wd_52 : wdC 1052 3 1 := wdC_of (z := 3) (by decide +kernel)
theorem wd_54 : wdC 1054 2 3 := wdC_of (z := 2) (by decide +kernel)
theorem wd_56 : wdC 1056 5 4 := wdC_of (z := 5) (by decide +kernel)
theorem wd_58 : wdC 1058 4 6 := wdC_of (z := 4) (by decide +kernel)
theorem wd_60 : wdC 1060 5 7 := wdC_of (z := 5) (by decide +kernel)
theorem wd_62 : wdC 1062 2 8 := wdC_of (z := 2) (by decide +kernel)
theorem wd_64 : wdC 1064 5 9 := wdC_of (z := 5) (by decide +kernel)
theorem wd_66 : wdC 1066 5 12 := wdC_of (z := 5) (by decide +kernel)
theorem wd_68 : wdC 1068 4 16 := wdC_of (z := 4) (by decide +kernel)
theorem wd_70 : wdC 1070 4 17 := wdC_of (z := 4) (by decide +kernel)
theorem wd_72 : wdC 1072 7 18 := wdC_of (z := 7) (by decide +kernel)
theorem wd_74 : wdC 1074 5 19 := wdC_of (z := 5) (by decide +kernel)
theorem wd_76 : wdC 1076 3 20 := wdC_of (z := 3) (by decide +kernel)
theorem wd_78 : wdC 1078 3 21 := wdC_of (z := 3) (by decide +kernel)
theorem wd_80 : wdC 1080 2 22 := wdC_of (z := 2) (by decide +kernel)
/-- a NAME -/
def isNm (F : Int → Int) (n st : Int) : Prop := tK F n st = 2 ∧ ∀ k : Nat, k < 23 → ¬ isW F n st k
theorem c_nm299 {x1 x2 x3 z0 : Int} (g2 : s.1 1 2 = tK F n st) (h : x1 ≠ 0 ∨ x2 ≠ 0 ∨ x3 ≠ 0 ∨ z0 ≠ 0 ∨ tK F n st ≠ 2) : f132_at299 N x1 x2 x3 z0 s = some (0, s) := by
  unfold f132_at299
  rw [g2]
  simp only [ib1_ok (show (0 : Int) = 0 ∨ (0 : Int) = 1 from Or.inl rfl), ib1_ok (show (1 : Int) = 0 ∨ (1 : Int) = 1 from Or.inr rfl)]
  by_cases k : tK F n st = 2
  · rw [if_pos k]
    by_cases k1 : x1 = 0
    · rw [if_pos k1]
      by_cases k2 : x2 = 0
      · rw [if_pos k2]
        by_cases k3 : x3 = 0
        · rw [if_pos k3, if_neg (by omega)]
        · rw [if_neg k3]
      · rw [if_neg k2]
    · rw [if_neg k1]
  · rw [if_neg k]
theorem c_nm245 (hN : 5000 ≤ N) (hT : tpF F n) (hc : cAt F n i s) {x1 x2 z0 : Int} (h : x1 ≠ 0 ∨ x2 ≠ 0 ∨ z0 ≠ 0) : f132_at245 N x1 x2 z0 s = some (0, s) := by
  have e : ∀ y : Int, f132_at299 N x1 x2 z0 y s = some (0, s) := fun y => c_nm299 (F := F) (n := n) (st := tP F n i) hc.2.2.1 (by omega)
  unfold f132_at245 f132_at294
  rw [c_isWord hN hT hc wd_68, i_o2_some, c_isWord hN hT hc wd_70, i_o2_some, c_isWord hN hT hc wd_72, i_o2_some, c_isWord hN hT hc wd_74, i_o2_some]
  simp only [e, ite_self]
theorem c_nm203 (hN : 5000 ≤ N) (hT : tpF F n) (hc : cAt F n i s) {x1 z0 : Int} (h : x1 ≠ 0 ∨ z0 ≠ 0) : f132_at203 N x1 z0 s = some (0, s) := by
  have e : ∀ y : Int, f132_at245 N x1 z0 y s = some (0, s) := fun y => c_nm245 hN hT hc (by omega)
  unfold f132_at203 f132_at240
  rw [c_isWord hN hT hc wd_76, i_o2_some, c_isWord hN hT hc wd_78, i_o2_some, c_isWord hN hT hc wd_80, i_o2_some]
  simp only [e, ite_self]
theorem c_nm101 (hN : 5000 ≤ N) (hT : tpF F n) (hc : cAt F n i s) {z0 : Int} (h : z0 ≠ 0) : f132_at101 N z0 s = some (0, s) := by
  have e : ∀ y : Int, f132_at203 N z0 y s = some (0, s) := fun y => c_nm203 hN hT hc (by omega)
  unfold f132_at101 f132_at198
  rw [c_isWord hN hT hc wd_52, i_o2_some, c_isWord hN hT hc wd_54, i_o2_some, c_isWord hN hT hc wd_56, i_o2_some, c_isWord hN hT hc wd_58, i_o2_some, c_isWord hN hT hc wd_60, i_o2_some, c_isWord hN hT hc wd_62, i_o2_some, c_isWord hN hT hc wd_64, i_o2_some, c_isWord hN hT hc wd_66, i_o2_some]
  simp only [e, ite_self]
theorem c_nmD (hN : 5000 ≤ N) (hT : tpF F n) (hc : cAt F n i s) : (isNm F n (tP F n i) ∧ f132 N s = some (1, s)) ∨ (¬ isNm F n (tP F n i) ∧ f132 N s = some (0, s)) := by
  have o0 : ∀ y : Int, y ≠ 0 → f132_at101 N y s = some (0, s) := fun y h => c_nm101 hN hT hc h
  have o1 : ∀ x y : Int, (x ≠ 0 ∨ y ≠ 0) → f132_at203 N x y s = some (0, s) := fun x y h => c_nm203 hN hT hc h
  have o2 : ∀ x y z : Int, (x ≠ 0 ∨ y ≠ 0 ∨ z ≠ 0) → f132_at245 N x y z s = some (0, s) := fun x y z h => c_nm245 hN hT hc h
  have no : ∀ k : Nat, k < 23 → isW F n (tP F n i) k → ¬ isNm F n (tP F n i) := fun k hk h q => q.2 k hk h
  unfold f132 f132_at96
  rw [c_isWord hN hT hc wd_36, i_o2_some, c_isWord hN hT hc wd_38, i_o2_some, c_isWord hN hT hc wd_40, i_o2_some, c_isWord hN hT hc wd_42, i_o2_some, c_isWord hN hT hc wd_44, i_o2_some, c_isWord hN hT hc wd_46, i_o2_some, c_isWord hN hT hc wd_48, i_o2_some, c_isWord hN hT hc wd_50, i_o2_some]
  rw [o0 1 (by decide)]
  by_cases g0 : isW F n (tP F n i) 0
  · rw [if_pos g0, if_neg (by decide)]; exact Or.inr ⟨no 0 (by decide) g0, rfl⟩
  rw [if_neg g0, if_pos rfl]
  by_cases g2 : isW F n (tP F n i) 2
  · rw [if_pos g2, if_neg (by decide)]; exact Or.inr ⟨no 2 (by decide) g2, rfl⟩
  rw [if_neg g2, if_pos rfl]
  by_cases g5 : isW F n (tP F n i) 5
  · rw [if_pos g5, if_neg (by decide)]; exact Or.inr ⟨no 5 (by decide) g5, rfl⟩
  rw [if_neg g5, if_pos rfl]
  by_cases g10 : isW F n (tP F n i) 10
  · rw [if_pos g10, if_neg (by decide)]; exact Or.inr ⟨no 10 (by decide) g10, rfl⟩
  rw [if_neg g10, if_pos rfl]
  by_cases g11 : isW F n (tP F n i) 11
  · rw [if_pos g11, if_neg (by decide)]; exact Or.inr ⟨no 11 (by decide) g11, rfl⟩
  rw [if_neg g11, if_pos rfl]
  by_cases g13 : isW F n (tP F n i) 13
  · rw [if_pos g13, if_neg (by decide)]; exact Or.inr ⟨no 13 (by decide) g13, rfl⟩
  rw [if_neg g13, if_pos rfl]
  by_cases g14 : isW F n (tP F n i) 14
  · rw [if_pos g14, if_neg (by decide)]; exact Or.inr ⟨no 14 (by decide) g14, rfl⟩
  rw [if_neg g14, if_pos rfl]
  by_cases g15 : isW F n (tP F n i) 15
  · rw [if_pos g15, if_neg (by decide)]; exact Or.inr ⟨no 15 (by decide) g15, rfl⟩
  rw [if_neg g15, if_pos rfl]
  unfold f132_at101 f132_at198
  rw [c_isWord hN hT hc wd_52, i_o2_some, c_isWord hN hT hc wd_54, i_o2_some, c_isWord hN hT hc wd_56, i_o2_some, c_isWord hN hT hc wd_58, i_o2_some, c_isWord hN hT hc wd_60, i_o2_some, c_isWord hN hT hc wd_62, i_o2_some, c_isWord hN hT hc wd_64, i_o2_some, c_isWord hN hT hc wd_66, i_o2_some]
  rw [o1 0 1 (by decide)]
  by_cases g1 : isW F n (tP F n i) 1
  · rw [if_pos g1, if_neg (by decide)]; exact Or.inr ⟨no 1 (by decide) g1, rfl⟩
  rw [if_neg g1, if_pos rfl]
  by_cases g3 : isW F n (tP F n i) 3
  · rw [if_pos g3, if_neg (by decide)]; exact Or.inr ⟨no 3 (by decide) g3, rfl⟩
  rw [if_neg g3, if_pos rfl]
  by_cases g4 : isW F n (tP F n i) 4
  · rw [if_pos g4, if_neg (by decide)]; exact Or.inr ⟨no 4 (by decide) g4, rfl⟩
  rw [if_neg g4, if_pos rfl]
  by_cases g6 : isW F n (tP F n i) 6
  · rw [if_pos g6, if_neg (by decide)]; exact Or.inr ⟨no 6 (by decide) g6, rfl⟩
  rw [if_neg g6, if_pos rfl]
  by_cases g7 : isW F n (tP F n i) 7
  · rw [if_pos g7, if_neg (by decide)]; exact Or.inr ⟨no 7 (by decide) g7, rfl⟩
  rw [if_neg g7, if_pos rfl]
  by_cases g8 : isW F n (tP F n i) 8
  · rw [if_pos g8, if_neg (by decide)]; exact Or.inr ⟨no 8 (by decide) g8, rfl⟩
  rw [if_neg g8, if_pos rfl]
  by_cases g9 : isW F n (tP F n i) 9
  · rw [if_pos g9, if_neg (by decide)]; exact Or.inr ⟨no 9 (by decide) g9, rfl⟩
  rw [if_neg g9, if_pos rfl]
  by_cases g12 : isW F n (tP F n i) 12
  · rw [if_pos g12, if_neg (by decide)]; exact Or.inr ⟨no 12 (by decide) g12, rfl⟩
  rw [if_neg g12, if_pos rfl]
  unfold f132_at203 f132_at240
  rw [c_isWord hN hT hc wd_76, i_o2_some, c_isWord hN hT hc wd_78, i_o2_some, c_isWord hN hT hc wd_80, i_o2_some]
  rw [o2 0 0 1 (by decide)]
  by_cases g20 : isW F n (tP F n i) 20
  · rw [if_pos g20, if_neg (by decide)]; exact Or.inr ⟨no 20 (by decide) g20, rfl⟩
  rw [if_neg g20, if_pos rfl]
  by_cases g21 : isW F n (tP F n i) 21
  · rw [if_pos g21, if_neg (by decide)]; exact Or.inr ⟨no 21 (by decide) g21, rfl⟩
  rw [if_neg g21, if_pos rfl]
  by_cases g22 : isW F n (tP F n i) 22
  · rw [if_pos g22, if_neg (by decide)]; exact Or.inr ⟨no 22 (by decide) g22, rfl⟩
  rw [if_neg g22, if_pos rfl]
  unfold f132_at245 f132_at294
  rw [c_isWord hN hT hc wd_68, i_o2_some, c_isWord hN hT hc wd_70, i_o2_some, c_isWord hN hT hc wd_72, i_o2_some, c_isWord hN hT hc wd_74, i_o2_some]
  rw [c_nm299 (x1 := 0) (x2 := 0) (x3 := 0) (z0 := 1) (F := F) (n := n) (st := tP F n i) hc.2.2.1 (Or.inr (Or.inr (Or.inr (Or.inl (by decide)))))]
  by_cases g16 : isW F n (tP F n i) 16
  · rw [if_pos g16, if_neg (by decide)]; exact Or.inr ⟨no 16 (by decide) g16, rfl⟩
  rw [if_neg g16, if_pos rfl]
  by_cases g17 : isW F n (tP F n i) 17
  · rw [if_pos g17, if_neg (by decide)]; exact Or.inr ⟨no 17 (by decide) g17, rfl⟩
  rw [if_neg g17, if_pos rfl]
  by_cases g18 : isW F n (tP F n i) 18
  · rw [if_pos g18, if_neg (by decide)]; exact Or.inr ⟨no 18 (by decide) g18, rfl⟩
  rw [if_neg g18, if_pos rfl]
  by_cases g19 : isW F n (tP F n i) 19
  · rw [if_pos g19, if_neg (by decide)]; exact Or.inr ⟨no 19 (by decide) g19, rfl⟩
  rw [if_neg g19, if_pos rfl]
  by_cases k : tK F n (tP F n i) = 2
  rotate_left
  · rw [c_nm299 (F := F) (n := n) (st := tP F n i) hc.2.2.1 (by omega)]
    exact Or.inr ⟨fun q => k q.1, rfl⟩
  refine Or.inl ⟨⟨k, fun j hj q => ?_⟩, ?_⟩
  · rcases (by omega : j = 0 ∨ j = 1 ∨ j = 2 ∨ j = 3 ∨ j = 4 ∨ j = 5 ∨ j = 6 ∨ j = 7 ∨ j = 8 ∨ j = 9 ∨ j = 10 ∨ j = 11 ∨ j = 12 ∨ j = 13 ∨ j = 14 ∨ j = 15 ∨ j = 16 ∨ j = 17 ∨ j = 18 ∨ j = 19 ∨ j = 20 ∨ j = 21 ∨ j = 22) with x | x | x | x | x | x | x | x | x | x | x | x | x | x | x | x | x | x | x | x | x | x | x <;> subst x <;> contradiction
  · unfold f132_at299
    rw [hc.2.2.1, if_pos k, if_pos rfl, if_pos rfl, if_pos rfl, if_pos rfl, ib1_ok (Or.inr rfl)]
/-- the KIND that stands here -/
def kdW (F : Int → Int) (n st : Int) : Int := if isW F n st 16 then 0 else if isW F n st 17 then 1 else if isW F n st 18 then 2 else if isW F n st 19 then 3 else -1
theorem c_kindHere (hN : 5000 ≤ N) (hT : tpF F n) (hc : cAt F n i s) : f131 N s = some (kdW F n (tP F n i), s) := by
  unfold f131 kdW
  rw [c_isWord hN hT hc wd_68, i_o2_some, c_isWord hN hT hc wd_70, i_o2_some, c_isWord hN hT hc wd_72, i_o2_some, c_isWord hN hT hc wd_74, i_o2_some]
  by_cases g16 : isW F n (tP F n i) 16
  · rw [if_pos g16, if_neg (by decide), if_pos g16]
  rw [if_neg g16, if_pos rfl, if_neg g16]
  by_cases g17 : isW F n (tP F n i) 17
  · rw [if_pos g17, if_neg (by decide), if_pos g17]
  rw [if_neg g17, if_pos rfl, if_neg g17]
  by_cases g18 : isW F n (tP F n i) 18
  · rw [if_pos g18, if_neg (by decide), if_pos g18]
  rw [if_neg g18, if_pos rfl, if_neg g18]
  by_cases g19 : isW F n (tP F n i) 19
  · rw [if_pos g19, if_neg (by decide), if_pos g19]
  · rw [if_neg g19, if_pos rfl, if_neg g19]
theorem m_nmD (hN : 5000 ≤ N) (hT : tpF F n) (hm : mAt F n i t) : (isNm F n (tP F n i) → f197 N t = some (1, t)) ∧ (¬ isNm F n (tP F n i) → f197 N t = some (0, t)) := by
  obtain ⟨k1, k2, k3⟩ := mAt_k hT hm
  have i1 := (mAt_i hT hm).1
  have kr := tK_rg (F := F) (n := n) (st := tP F n i)
  obtain ⟨w, w1, w2⟩ := m_wordHere (N := N) (a := 0) (b := 23) hN hT hm (by decide)
  have w1 : f192 N 0 23 t = some (w, t) := w1
  unfold f197
  rw [hm.2.2.1, if_pos rfl, hm.2.1, ick_ok (by omega) (by omega), k1]
  by_cases k : tK F n (tP F n i) = 2
  · have ek : mso (tK F n (tP F n i)) = 1 := by rw [k]; rfl
    rw [if_pos ek, w1, i_o2_some]
    rcases w2 with ⟨h1, h2⟩ | ⟨j, h1, h2, h3⟩
    · rw [if_neg (by omega), ib1_ok (Or.inr rfl)]
      refine ⟨fun _ => rfl, fun h => absurd ⟨k, fun j hj => ?_⟩ h⟩
      have := h2 j hj
      rwa [Nat.zero_add] at this
    · rw [if_pos (by omega), ib1_ok (Or.inl rfl)]
      rw [Nat.zero_add] at h3
      exact ⟨fun h => absurd h3 (h.2 j h2), fun _ => rfl⟩
  · have ek : ¬ mso (tK F n (tP F n i)) = 1 := fun z => k ((mso_is kr.1 kr.2 (z := 2) (Or.inr (by decide))).mp z)
    rw [if_neg ek, ib1_ok (Or.inl rfl)]
    exact ⟨fun h => absurd h.1 k, fun _ => rfl⟩
theorem m_kindHere (hN : 5000 ≤ N) (hT : tpF F n) (hm : mAt F n i t) : f192 N 16 4 t = some (kdW F n (tP F n i), t) := by
  obtain ⟨w, w1, w2⟩ := m_wordHere (N := N) (a := 16) (b := 4) hN hT hm (by decide)
  have w1 : f192 N 16 4 t = some (w, t) := w1
  rw [w1]
  have : w = kdW F n (tP F n i) := by
    unfold kdW
    rcases w2 with ⟨h1, h2⟩ | ⟨j, h1, h2, h3⟩
    · rw [if_neg (h2 0 (by decide)), if_neg (h2 1 (by decide)), if_neg (h2 2 (by decide)), if_neg (h2 3 (by decide))]
      exact h1
    · rcases (by omega : j = 0 ∨ j = 1 ∨ j = 2 ∨ j = 3) with q | q | q | q <;> subst q
      · rw [if_pos h3]; exact h1
      · rw [if_neg (fun q => absurd (isW_inj (by decide) (by decide) q h3) (by decide)), if_pos h3]; exact h1
      · rw [if_neg (fun q => absurd (isW_inj (by decide) (by decide) q h3) (by decide)), if_neg (fun q => absurd (isW_inj (by decide) (by decide) q h3) (by decide)), if_pos h3]; exact h1
      · rw [if_neg (fun q => absurd (isW_inj (by decide) (by decide) q h3) (by decide)), if_neg (fun q => absurd (isW_inj (by decide) (by decide) q h3) (by decide)), if_neg (fun q => absurd (isW_inj (by decide) (by decide) q h3) (by decide)), if_pos h3]; exact h1
  rw [this]
theorem kd_rg : -1 ≤ kdW F n st ∧ kdW F n st ≤ 3 := by
  unfold kdW
  repeat (first | omega | split)
theorem kd_tok (h : kdW F n st ≠ -1) : tK F n st = 2 := by
  unfold kdW at h
  by_cases g16 : isW F n st 16
  · exact g16.1
  rw [if_neg g16] at h
  by_cases g17 : isW F n st 17
  · exact g17.1
  rw [if_neg g17] at h
  by_cases g18 : isW F n st 18
  · exact g18.1
  rw [if_neg g18] at h
  by_cases g19 : isW F n st 19
  · exact g19.1
  rw [if_neg g19] at h
  exact absurd rfl h
end NAMES

/-! The class' tape: going on to the next word, NUMBER or sign. -/
section CTAPE
variable {N : Nat} {s u v : gI} {F G A : Int → Int} {n e st lo hi c m zn w : Int} {r0 : Nat}
theorem p10 (r : Nat) (h : r ≤ 4) : (10 : Int) ^ r ≤ 10000 := by
  have : ∀ r : Fin 5, (10 : Int) ^ r.val ≤ 10000 := by decide
  exact this ⟨r, by omega⟩
theorem p37 (r : Nat) (h : r ≤ 8) : (37 : Int) ^ r ≤ 3512479453921 := by
  have : ∀ r : Fin 9, (37 : Int) ^ r.val ≤ 3512479453921 := by decide
  exact this ⟨r, by omega⟩
theorem ish0 {z : Int} (h0 : 0 ≤ z) (h1 : z < 128) : i_shr z 0 = z := by
  have h : ∀ c : Fin 128, i_shr (c.val : Int) 0 = (c.val : Int) := by decide +kernel
  have e : ((z.toNat : Nat) : Int) = z := Int.toNat_of_nonneg h0
  have := h ⟨z.toNat, by omega⟩
  rw [← e]
  exact this
theorem iand255 {z : Int} (h0 : 0 ≤ z) (h1 : z < 128) : i_and z 255 = z := by
  have h : ∀ c : Fin 128, i_and (c.val : Int) 255 = (c.val : Int) := by decide +kernel
  have e : ((z.toNat : Nat) : Int) = z := Int.toNat_of_nonneg h0
  have := h ⟨z.toNat, by omega⟩
  rw [← e]
  exact this
/-- the first of so many that is c -/
def fndI (A : Int → Int) (c : Int) : Nat → Int → Int
  | 0, _ => -1
  | r + 1, i => if A i = c then i else fndI A c r (i + 1)
theorem c_fnd (hz : zn ≤ 1000) : ∀ (r fuel : Nat) (i : Int), r < fuel → i + r = zn → 0 ≤ i → f311_at7 N r0 zn fuel zn c i s = some (fndI (i_c r0) c r i, s)
  | 0, fuel, i, hf, e, h0 => by
    obtain ⟨fuel, rfl⟩ : ∃ g, fuel = g + 1 := ⟨fuel - 1, by omega⟩
    unfold f311_at7
    rw [if_pos (by omega)]
    rfl
  | r + 1, fuel, i, hf, e, h0 => by
    obtain ⟨fuel, rfl⟩ : ∃ g, fuel = g + 1 := ⟨fuel - 1, by omega⟩
    unfold f311_at7 fndI
    rw [if_neg (by omega), ick_ok (by omega) (by omega)]
    split
    · rfl
    · rw [iov_ok (by omega) (by omega)]
      exact c_fnd hz r fuel (i + 1) (by omega) (by omega) (by omega)
theorem c_indexOf (hN : 5000 ≤ N) (h0 : i_c r0 1 = 0) (hz : 0 < zn) (hz2 : zn ≤ 100) (c0 : 0 ≤ c) (c1 : c < 128) : f302 N r0 zn c s = some (fndI (i_c (r0 + 1)) c zn.toNat 0, s) := by
  unfold f302 f303 f305 f300 f304 f310 f309 f311
  have e0 : i_shr zn 0 = zn := ish0 (by omega) (by omega)
  rw [if_neg (by decide), h0, if_pos rfl, ib1_ok (Or.inr rfl), i_o2_some, if_neg (by decide), iov_ok (by omega) (by omega), if_neg (by decide), ib1_ok (Or.inl rfl), i_o2_some]
  dsimp only
  rw [e0, i_o2_some, if_neg (show ¬ c < 0 by omega), if_neg (show ¬ 255 < c by omega), ib1_ok (Or.inr rfl), i_o2_some, if_neg (by decide)]
  rw [if_neg (show ¬ (0 : Int) < 0 by decide), iov_ok (by omega) (by omega), if_neg (show ¬ zn < zn by omega), if_pos hz, ick_ok c0 c1]
  rw [c_fnd (by omega) zn.toNat N 0 (by omega) (by omega) (by decide)]
  rfl
theorem ic_sg : i_c 1035 0 = 40 ∧ i_c 1035 1 = 41 ∧ i_c 1035 2 = 60 ∧ i_c 1035 3 = 61 ∧ i_c 1035 4 = 43 ∧ i_c 1035 5 = 45 ∧ i_c 1035 6 = 42 ∧ i_c 1035 7 = 59 ∧ i_c 1034 1 = 0 := by
  simp only [i_c_def]
  decide +kernel
theorem fnd_sg : (fndI (i_c 1035) c 8 0 < 0) ↔ ¬ isSg c := by
  obtain ⟨e0, e1, e2, e3, e4, e5, e6, e7, -⟩ := ic_sg
  have h : fndI (i_c 1035) c 8 0 = if (40 : Int) = c then 0 else if (41 : Int) = c then 1 else if (60 : Int) = c then 2 else if (61 : Int) = c then 3 else if (43 : Int) = c then 4 else if (45 : Int) = c then 5 else if (42 : Int) = c then 6 else if (59 : Int) = c then 7 else -1 := by
    simp only [fndI, Int.reduceAdd, e0, e1, e2, e3, e4, e5, e6, e7]
  rw [h]
  unfold isSg
  constructor
  · intro q z
    omega
  · intro q
    rw [if_neg (by omega), if_neg (by omega), if_neg (by omega), if_neg (by omega), if_neg (by omega), if_neg (by omega), if_neg (by omega), if_neg (by omega)]
    decide
theorem c_runEnd (h1 : s.1 1 1 = n) (h2 : s.1 2 = F) (n1 : n ≤ 1000) : ∀ (r fuel : Nat) (e : Int), 0 ≤ e → e + r = n → r < fuel → f98_at5 N fuel lo hi e s = some (tR F lo hi n e, s)
  | 0, fuel, e, e0, er, hf => by
    obtain ⟨fuel, rfl⟩ : ∃ g, fuel = g + 1 := ⟨fuel - 1, by omega⟩
    unfold f98_at5
    rw [h1, if_pos (by omega), tR_no (by omega)]
  | r + 1, fuel, e, e0, er, hf => by
    obtain ⟨fuel, rfl⟩ : ∃ g, fuel = g + 1 := ⟨fuel - 1, by omega⟩
    unfold f98_at5
    rw [h1, if_neg (by omega), ick_ok (by omega) (by omega), h2]
    by_cases g1 : F e < lo
    · rw [if_pos g1, tR_no (by omega)]
    rw [if_neg g1, ick_ok (by omega) (by omega)]
    by_cases g2 : hi < F e
    · rw [if_pos g2, tR_no (by omega)]
    rw [if_neg g2, iov_ok (by omega) (by omega), tR_in (by omega) (by omega)]
    exact c_runEnd h1 h2 n1 r fuel (e + 1) (by omega) (by omega) (by omega)
theorem c_num_lp {mm : Nat} (h4 : G 4 = st + mm) (hd : ∀ j : Int, st ≤ j → j < st + mm → 48 ≤ F j ∧ F j ≤ 57) (m4 : mm ≤ 4) (h2 : s.1 2 = F) (s0 : 0 ≤ st) (s1 : st + mm ≤ 1000) : ∀ (r fuel i : Nat), i + r = mm → r < fuel → f99_at19 N fuel (st + i) (ic s 1 (zup G 5 (wvl F 10 48 st i))) = some (ic s 1 (zup G 5 (wvl F 10 48 st mm)))
  | 0, fuel, i, e, hf => by
    obtain ⟨fuel, rfl⟩ : ∃ g, fuel = g + 1 := ⟨fuel - 1, by omega⟩
    unfold f99_at19
    have : i = mm := by omega
    subst this
    rw [ic_at, zup_ne (by decide), h4, if_pos (by omega)]
  | r + 1, fuel, i, e, hf => by
    obtain ⟨fuel, rfl⟩ : ∃ g, fuel = g + 1 := ⟨fuel - 1, by omega⟩
    unfold f99_at19
    have w1 := wd_rg (F := F) (st := st) i (fun j a b => hd j a (by omega))
    have w2 := p10 i (by omega)
    have w3 := hd (st + i) (by omega) (by omega)
    have e1 : wvl F 10 48 st (i + 1) = wvl F 10 48 st i * 10 + F (st + i) - 48 := by
      show 10 * wvl F 10 48 st i + (F (st + i) - 48) = _
      omega
    rw [ic_at, zup_ne (by decide), h4, if_neg (by omega), zup_same, ic_ne (by decide), h2]
    dsimp only
    rw [iov_ok (by omega) (by omega), ick_ok (by omega) (by omega), iov_ok (by omega) (by omega), iov_ok (by omega) (by omega), iov_ok (by omega) (by omega), iw_ic, ic_at, ic_ic, zup_zup, ← e1]
    have := c_num_lp h4 hd m4 h2 s0 s1 r fuel (i + 1) (by omega) (by omega)
    rw [show st + ((i + 1 : Nat) : Int) = st + (i : Int) + 1 by omega] at this
    exact this
/-- the class stands at what begins at st -/
def atC (F : Int → Int) (n st : Int) (G : Int → Int) : Prop := G 1 = n ∧ G 2 = tK F n st ∧ G 3 = st ∧ G 4 = tE F n st ∧ (tK F n st = 3 → G 5 = tV F n st)
theorem c_adv41 (hN : 5000 ≤ N) (h1 : s.1 1 1 = n) (h2 : s.1 2 = F) (n1 : n ≤ 1000) (s0 : 0 ≤ st) (s1 : st ≤ n) (hc : st < n → 0 ≤ F st ∧ F st < 128) :
    ∃ G, f97_at41 N st s = some (ic s 1 G) ∧ atC F n st G ∧ G 6 = s.1 1 6 ∧ G 7 = s.1 1 7 := by
  unfold f97_at41
  dsimp only
  rw [iw_ic, ic_at, ic_ne (by decide), zup_ne (by decide), h1, h2]
  by_cases g : st < n
  rotate_left
  · rw [if_neg g]
    simp only [iw_ic, ic_at, ic_ic]
    rw [zup_ne (show (1 : Int) ≠ 2 by decide), zup_ne (show (1 : Int) ≠ 3 by decide), h1]
    have ek : tK F n st = 0 := tK_0.mpr (by omega)
    have ee : tE F n st = n := if_neg g
    refine ⟨_, rfl, ⟨?_, ?_, ?_, ?_, ?_⟩, ?_, ?_⟩
    · rw [zup_ne (by decide), zup_ne (by decide), zup_ne (by decide)]; exact h1
    · rw [zup_ne (by decide), zup_same, ek]
    · rw [zup_ne (by decide), zup_ne (by decide), zup_same]
    · rw [zup_same, ee]
    · intro q; omega
    · rw [zup_ne (by decide), zup_ne (by decide), zup_ne (by decide)]
    · rw [zup_ne (by decide), zup_ne (by decide), zup_ne (by decide)]
  obtain ⟨c0, c1⟩ := hc g
  rw [if_pos g, ick_ok s0 (by omega)]
  have run : ∀ lo hi : Int, f98 N lo hi (ic s 1 (zup (s.1 1) 3 st)) = some (tR F lo hi n st, ic s 1 (zup (s.1 1) 3 st)) := fun lo hi => by
    unfold f98
    dsimp only
    rw [ic_at, zup_same]
    exact c_runEnd (by rw [ic_at, zup_ne (by decide)]; exact h1) (by rw [ic_ne (by decide)]; exact h2) n1 (n - st).toNat N st s0 (by omega) (by omega)
  by_cases a1 : 97 ≤ F st ∧ F st ≤ 122
  · rw [if_neg (by omega), if_neg (by omega), run, i_o2_some, iw_ic, ic_at, ic_ic, ic_at, zup_same, zup_ne (by decide), zup_same]
    have er := tR_rg (F := F) (lo := 97) (hi := 122) s1
    have ee : tE F n st = tR F 97 122 n st := by unfold tE; rw [if_pos g, if_pos a1]
    rw [iov_ok (by omega) (by omega)]
    have fin : ∀ z : Int, tK F n st = z → z ≠ 3 → ∃ G, some (iw (ic s 1 (zup (zup (s.1 1) 3 st) 4 (tR F 97 122 n st))) 1 2 z) = some (ic s 1 G) ∧ atC F n st G ∧ G 6 = s.1 1 6 ∧ G 7 = s.1 1 7 := fun z hz h3 => by
      rw [iw_ic, ic_at, ic_ic]
      refine ⟨_, rfl, ⟨?_, ?_, ?_, ?_, ?_⟩, ?_, ?_⟩
      · rw [zup_ne (by decide), zup_ne (by decide), zup_ne (by decide)]; exact h1
      · rw [zup_same, hz]
      · rw [zup_ne (by decide), zup_ne (by decide), zup_same]
      · rw [zup_ne (by decide), zup_same, ee]
      · intro q; omega
      · rw [zup_ne (by decide), zup_ne (by decide), zup_ne (by decide)]
      · rw [zup_ne (by decide), zup_ne (by decide), zup_ne (by decide)]
    have ek : tK F n st = if tR F 97 122 n st - st ≤ 8 then 2 else 1 := by unfold tK; rw [if_pos g, if_pos a1]
    by_cases q : tR F 97 122 n st - st ≤ 8
    · rw [if_neg (by omega)]
      exact fin 2 (by rw [ek, if_pos q]) (by decide)
    · rw [if_pos (by omega)]
      exact fin 1 (by rw [ek, if_neg q]) (by decide)
  have t125 : f97_at125 N st (F st) (ic s 1 (zup (s.1 1) 3 st)) = (if F st < 97 then f97_at125 N st (F st) (ic s 1 (zup (s.1 1) 3 st)) else f97_at125 N st (F st) (ic s 1 (zup (s.1 1) 3 st))) := by split <;> rfl
  suffices hh : ∃ G, f97_at125 N st (F st) (ic s 1 (zup (s.1 1) 3 st)) = some (ic s 1 G) ∧ atC F n st G ∧ G 6 = s.1 1 6 ∧ G 7 = s.1 1 7 by
    obtain ⟨G, h⟩ := hh
    refine ⟨G, ?_, h.2⟩
    by_cases q : F st < 97
    · rw [if_pos q]; exact h.1
    · rw [if_neg q, if_pos (by omega)]; exact h.1
  clear t125
  unfold f97_at125
  by_cases a2 : 48 ≤ F st ∧ F st ≤ 57
  · rw [if_neg (by omega), if_neg (by omega), run, i_o2_some, iw_ic, ic_at, ic_ic]
    dsimp only
    rw [ic_at, zup_same, zup_ne (by decide), zup_same]
    have er := tR_rg (F := F) (lo := 48) (hi := 57) s1
    have ee : tE F n st = tR F 48 57 n st := by unfold tE; rw [if_pos g, if_neg a1, if_pos a2]
    have ek : tK F n st = if tR F 48 57 n st - st ≤ 4 then 3 else 1 := by unfold tK; rw [if_pos g, if_neg a1, if_pos a2]
    rw [iov_ok (by omega) (by omega)]
    unfold f97_at168
    by_cases q : tR F 48 57 n st - st ≤ 4
    · rw [if_neg (by omega)]
      rw [if_pos q] at ek
      dsimp only
      rw [iw_ic, ic_at, ic_ic]
      obtain ⟨-, hd, -, -⟩ := tK_3 ek
      have e0 : wvl F 10 48 st 0 = 0 := rfl
      have es : st + ((tE F n st - st).toNat : Int) = tE F n st := by omega
      have lp := c_num_lp (N := N) (s := s) (F := F) (st := st) (mm := (tE F n st - st).toNat) (G := zup (zup (zup (s.1 1) 3 st) 4 (tR F 48 57 n st)) 2 3) (by rw [es, zup_ne (by decide), zup_same, ee]) (fun j a b => hd j a (by omega)) (by omega) h2 s0 (by omega) (tE F n st - st).toNat N 0 (by omega) (by omega)
      have e9 : f99 N (ic s 1 (zup (zup (zup (s.1 1) 3 st) 4 (tR F 48 57 n st)) 2 3)) = some (ic s 1 (zup (zup (zup (zup (s.1 1) 3 st) 4 (tR F 48 57 n st)) 2 3) 5 (wvl F 10 48 st (tE F n st - st).toNat))) := by
        unfold f99
        dsimp only
        rw [if_pos (by rw [ic_at, zup_same]), iw_ic, ic_at, ic_ic, ic_at, zup_ne (by decide), zup_ne (by decide), zup_ne (by decide), zup_same]
        rw [e0, show st + ((0 : Nat) : Int) = st by omega] at lp
        exact lp
      rw [e9]
      refine ⟨_, rfl, ⟨?_, ?_, ?_, ?_, ?_⟩, ?_, ?_⟩
      · rw [zup_ne (by decide), zup_ne (by decide), zup_ne (by decide), zup_ne (by decide)]; exact h1
      · rw [zup_ne (by decide), zup_same, ek]
      · rw [zup_ne (by decide), zup_ne (by decide), zup_ne (by decide), zup_same]
      · rw [zup_ne (by decide), zup_ne (by decide), zup_same, ee]
      · intro _
        rw [zup_same]
        unfold tV
        rw [if_neg (by omega), if_pos ek]
      · rw [zup_ne (by decide), zup_ne (by decide), zup_ne (by decide), zup_ne (by decide)]
      · rw [zup_ne (by decide), zup_ne (by decide), zup_ne (by decide), zup_ne (by decide)]
    · rw [if_pos (by omega)]
      rw [if_neg q] at ek
      dsimp only
      rw [iw_ic, ic_at, ic_ic]
      unfold f99
      rw [if_neg (by rw [ic_at, zup_same]; decide)]
      refine ⟨_, rfl, ⟨?_, ?_, ?_, ?_, ?_⟩, ?_, ?_⟩
      · rw [zup_ne (by decide), zup_ne (by decide), zup_ne (by decide)]; exact h1
      · rw [zup_same, ek]
      · rw [zup_ne (by decide), zup_ne (by decide), zup_same]
      · rw [zup_ne (by decide), zup_same, ee]
      · intro q; omega
      · rw [zup_ne (by decide), zup_ne (by decide), zup_ne (by decide)]
      · rw [zup_ne (by decide), zup_ne (by decide), zup_ne (by decide)]
  suffices hh : ∃ G, f97_at178 N st (F st) (ic s 1 (zup (s.1 1) 3 st)) = some (ic s 1 G) ∧ atC F n st G ∧ G 6 = s.1 1 6 ∧ G 7 = s.1 1 7 by
    obtain ⟨G, h⟩ := hh
    refine ⟨G, ?_, h.2⟩
    by_cases q : F st < 48
    · rw [if_pos q]; exact h.1
    · rw [if_neg q, if_pos (by omega)]; exact h.1
  unfold f97_at178
  have ee : tE F n st = st + 1 := by unfold tE; rw [if_pos g, if_neg a1, if_neg a2]
  have ek : tK F n st = if isSg (F st) then 4 else 1 := by unfold tK; rw [if_pos g, if_neg a1, if_neg a2]
  rw [iov_ok (by omega) (by omega)]
  dsimp only
  rw [c_indexOf hN ic_sg.2.2.2.2.2.2.2.2 (by decide) (by decide) c0 c1, i_o2_some]
  have e8 : ((8 : Int)).toNat = 8 := rfl
  rw [e8]
  have fin : ∀ z : Int, tK F n st = z → z ≠ 3 → ∃ G, some (iw (iw (ic s 1 (zup (s.1 1) 3 st)) 1 4 (st + 1)) 1 2 z) = some (ic s 1 G) ∧ atC F n st G ∧ G 6 = s.1 1 6 ∧ G 7 = s.1 1 7 := fun z hz h3 => by
    rw [iw_ic, iw_ic, ic_at, ic_ic, ic_at, ic_ic]
    refine ⟨_, rfl, ⟨?_, ?_, ?_, ?_, ?_⟩, ?_, ?_⟩
    · rw [zup_ne (by decide), zup_ne (by decide), zup_ne (by decide)]; exact h1
    · rw [zup_same, hz]
    · rw [zup_ne (by decide), zup_ne (by decide), zup_same]
    · rw [zup_ne (by decide), zup_same, ee]
    · intro q; omega
    · rw [zup_ne (by decide), zup_ne (by decide), zup_ne (by decide)]
    · rw [zup_ne (by decide), zup_ne (by decide), zup_ne (by decide)]
  by_cases q : isSg (F st)
  · rw [if_neg (fun z => fnd_sg.mp z q)]
    exact fin 4 (by rw [ek, if_pos q]) (by decide)
  · rw [if_pos (fnd_sg.mpr q)]
    exact fin 1 (by rw [ek, if_neg q]) (by decide)
theorem c_skip (h1 : s.1 1 1 = n) (h2 : s.1 2 = F) (n1 : n ≤ 1000) : ∀ (r fuel : Nat) (e : Int), 0 ≤ e → e + r = n → r < fuel → f97_at5 N fuel e s = f97_at41 N (tS F n e) s
  | 0, fuel, e, e0, er, hf => by
    obtain ⟨fuel, rfl⟩ : ∃ g, fuel = g + 1 := ⟨fuel - 1, by omega⟩
    unfold f97_at5
    rw [h1, if_pos (by omega), tS_no (by omega)]
  | r + 1, fuel, e, e0, er, hf => by
    obtain ⟨fuel, rfl⟩ : ∃ g, fuel = g + 1 := ⟨fuel - 1, by omega⟩
    unfold f97_at5
    rw [h1, if_neg (by omega), ick_ok (by omega) (by omega), h2]
    by_cases g1 : F e = 10
    · rw [if_pos g1, iov_ok (by omega) (by omega), tS_in (by omega) (Or.inl g1)]
      exact c_skip h1 h2 n1 r fuel (e + 1) (by omega) (by omega) (by omega)
    rw [if_neg g1, ick_ok (by omega) (by omega)]
    by_cases g2 : F e = 32
    · rw [if_pos g2, iov_ok (by omega) (by omega), tS_in (by omega) (Or.inr g2)]
      exact c_skip h1 h2 n1 r fuel (e + 1) (by omega) (by omega) (by omega)
    rw [if_neg g2, tS_no (fun _ => by omega)]
/-- what a tape holds -/
def tpF (F : Int → Int) (n : Int) : Prop := (0 ≤ n ∧ n ≤ 1000) ∧ ∀ j, 0 ≤ j → j < n → F j = 10 ∨ (32 ≤ F j ∧ F j ≤ 126)
theorem c_adv (hN : 5000 ≤ N) (h1 : s.1 1 1 = n) (h2 : s.1 2 = F) (hT : tpF F n) (h4 : s.1 1 4 = e) (e0 : 0 ≤ e) (e1 : e ≤ n) :
    ∃ G, f97 N s = some (ic s 1 G) ∧ atC F n (tS F n e) G ∧ G 6 = s.1 1 6 ∧ G 7 = s.1 1 7 := by
  have er := tS_rg (F := F) e1
  unfold f97
  dsimp only
  rw [h4, c_skip h1 h2 hT.1.2 (n - e).toNat N e e0 (by omega) (by have := hT.1; omega)]
  exact c_adv41 hN h1 h2 hT.1.2 (by omega) er.2 (fun g => by have := hT.2 _ (by omega) g; omega)
end CTAPE

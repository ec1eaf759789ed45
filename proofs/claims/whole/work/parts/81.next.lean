/-! Promise 18: next answered alike. -/
section NEXT
variable {N : Nat} {s v u : gI} {k x a : Int} {M : Option (Int × (Int × Int × Int))}
def cdM (M : Option (Int × (Int × Int × Int))) : Int := match M with
  | none => -1
  | some b => b.2.1 * 1024 + b.2.2.1 * 64 + b.2.2.2
def vlM (K : Int) (M : Option (Int × (Int × Int × Int))) : Int := match M with
  | none => 0
  | some b => b.1 + K
def okCh (M : Option (Int × (Int × Int × Int))) : Prop := ∀ b, M = some b → (0 ≤ b.2.1 ∧ b.2.1 < 4) ∧ (0 ≤ b.2.2.1 ∧ b.2.2.1 < 8) ∧ (0 ≤ b.2.2.2 ∧ b.2.2.2 < 64) ∧ (-1000000 ≤ b.1 ∧ b.1 ≤ 1000000)
def wH (s : gI) : Int := wIn (s.1 7) (s.1 20) (cQ s).2.2.2.1
theorem mean_gn (hs : CS s) {T : Nat} {q c : Int} (hT : T < (cQ s).2.2.2.1) (hp : s.1 7 T = 64) : meanV (cQ s) (s.1 7) T c (s.1 16 q) (s.1 20) = gnOf s q T c + 80 * wH s := by
  have := mean_gain (cell := c) (arm := s.1 16 q) hs hT hp
  have e : gnOf s q T c = sumN (fun z => wgt (s.1 16 q) z * gnV (s.1 20) (TZ (cQ s) (s.1 7) T c z) (HZ (cQ s) (s.1 7) T c z) T) 9 := rfl
  unfold wH
  omega
theorem m_cells_lp {f : Int → Int → Int → Int → Int → gI → Option (Int × gI)} (hN : 5000 ≤ N) (hs : RS s) {P T : Nat} (hP : (P : Int) < s.1 15 0) (hT : T < (cQ s).2.2.2.1) (hp : s.1 7 T = 64) : ∀ (r fuel : Nat) (c : Int) (M : Option (Int × (Int × Int × Int))) (v : gI), r < fuel → 0 ≤ c → c + r = 8 * s.1 12 1 → trl 588 s v → okCh M →
    ∃ v2, f268_at73 N f fuel a (cdM M) (vlM (80 * wH s) M) P T c v = f a (cdM (flC (s.1 12 0) (gnOf s P) (pay P) T r c M)) (vlM (80 * wH s) (flC (s.1 12 0) (gnOf s P) (pay P) T r c M)) P (T + 1) v2 ∧ trl 588 s v2 ∧ okCh (flC (s.1 12 0) (gnOf s P) (pay P) T r c M) := by
  have hP4 := hs.P4
  have hw := hs.1.1
  obtain ⟨⟨hW0, hW⟩, ⟨hD0, hD⟩, hn0, -⟩ := id hw
  have en : (cQ s).2.2.2.1 = (s.1 15 3).toNat := rfl
  have e0 : s.1 69 0 = s.1 12 0 := hs.2.2.1.1.symm
  have e1 : s.1 69 1 = s.1 12 1 := hs.2.2.1.2.1.symm
  have e8 := hs.2.2.2.1
  have rwH := wIn_rg (p := s.1 7) (wo := s.1 20) (n := (cQ s).2.2.2.1) (by omega) hs.1.2.2.2.2
  have eH : wH s = wIn (s.1 7) (s.1 20) (cQ s).2.2.2.1 := rfl
  intro r
  induction r with
  | zero =>
    intro fuel c M v hf c0 e hv hM
    obtain ⟨fuel, rfl⟩ : ∃ g, fuel = g + 1 := ⟨fuel - 1, by omega⟩
    refine ⟨v, ?_, hv, hM⟩
    unfold f268_at73
    rw [m_deep, i_o2_some, hv.ne (by decide), e1, iov_ok (by omega) (by omega), if_pos (by omega), iov_ok (by omega) (by omega)]
    rfl
  | succ r ih =>
    intro fuel c M v hf c0 e hv hM
    obtain ⟨fuel, rfl⟩ : ∃ g, fuel = g + 1 := ⟨fuel - 1, by omega⟩
    have h78 : v.1 78 T = 64 := by
      rw [hv.at (by omega)]
      have := e8 T (by omega) (by omega)
      rw [sh_at, Int.zero_add] at this
      rw [this, hp]
    unfold f268_at73
    rw [m_deep, i_o2_some, hv.ne (by decide), e1, iov_ok (by omega) (by omega), if_neg (by omega), ick_ok (by omega) (by omega), if_pos h78, idv_ok (by omega) (by decide), m_wide, i_o2_some, hv.ne (by decide), e0]
    unfold flC
    by_cases g : c % 8 < s.1 12 0
    rotate_left
    · rw [if_pos (by omega), iov_ok (by omega) (by omega), if_neg g]
      exact ih fuel (c + 1) M v (by omega) (by omega) (by omega) hv hM
    rw [if_neg (by omega), if_pos g]
    obtain ⟨v1, m1, m2⟩ := m_meanOf (N := N) (s := s) (u := v) (p := s.1 7) (a := 0) (b := 588) (per := P) (m := T) (cell := c) hN hs.ry hs.1.2.2.1 e8 (by decide) (by decide) (by decide) (by decide) (Or.inl (by decide)) hP hT (by omega) (by omega) hv
    rw [mean_gn hs.1 hT hp] at m1
    rw [m1, i_o2_some]
    have gg := gnOf_rg (q := P) (c := c) hs.1 ⟨(by omega : (0 : Int) ≤ T), by omega⟩ ⟨by omega, by omega⟩
    have es := gnOf_split (s := s) (q := P) (t := T) (c := c)
    have new : okCh (some (gnOf s P T c, pay P T c)) := fun b hb => by
      have hb := Option.some.inj hb
      subst hb
      exact ⟨⟨by show (0 : Int) ≤ P; omega, by show (P : Int) < 4; omega⟩, ⟨by show (0 : Int) ≤ T; omega, by show (T : Int) < 8; omega⟩, ⟨by show 0 ≤ c; omega, by show c < 64; omega⟩, by show -1000000 ≤ gnOf s P T c; omega, by show gnOf s P T c ≤ 1000000; omega⟩
    have yes : ∃ v2, f268_at135 N (f268_at73 N f fuel) a (cdM M) (vlM (80 * wH s) M) P T c (gnOf s P T c + 80 * wH s) v1 = f a (cdM (flC (s.1 12 0) (gnOf s P) (pay P) T r (c + 1) (some (gnOf s P T c, pay P T c)))) (vlM (80 * wH s) (flC (s.1 12 0) (gnOf s P) (pay P) T r (c + 1) (some (gnOf s P T c, pay P T c)))) P (T + 1) v2 ∧ trl 588 s v2 ∧ okCh (flC (s.1 12 0) (gnOf s P) (pay P) T r (c + 1) (some (gnOf s P T c, pay P T c))) := by
      unfold f268_at135 f268_at140 f268_at166
      rw [if_neg (by decide), iov_ok (by omega) (by omega), iov_ok (by omega) (by omega), iov_ok (by omega) (by omega), iov_ok (by omega) (by omega), if_neg (by decide), iov_ok (by omega) (by omega)]
      exact ih fuel (c + 1) (some (gnOf s P T c, pay P T c)) v1 (by omega) (by omega) (by omega) m2 new
    cases hMM : M with
    | none =>
      have ec : cdM none = -1 := rfl
      have eu : up1 none (gnOf s P T c) (pay P T c) = some (gnOf s P T c, pay P T c) := rfl
      rw [hMM, ec] at yes
      rw [ec, if_pos (by decide), eu]
      exact yes
    | some b =>
      obtain ⟨b1, b2, b3, b4⟩ := hM b hMM
      have ec : cdM (some b) = b.2.1 * 1024 + b.2.2.1 * 64 + b.2.2.2 := rfl
      have ev : vlM (80 * wH s) (some b) = b.1 + 80 * wH s := rfl
      rw [hMM] at yes
      by_cases g2 : gnOf s P T c ≤ b.1
      · have eu : up1 (some b) (gnOf s P T c) (pay P T c) = some b := if_pos g2
        rw [if_neg (by rw [ec]; omega), if_pos (by rw [ev]; omega), eu]
        unfold f268_at140 f268_at166
        rw [if_pos rfl, if_pos rfl, iov_ok (by omega) (by omega)]
        exact ih fuel (c + 1) (some b) v1 (by omega) (by omega) (by omega) m2 (by rw [← hMM]; exact hM)
      · have eu : up1 (some b) (gnOf s P T c) (pay P T c) = some (gnOf s P T c, pay P T c) := if_neg g2
        rw [if_neg (by rw [ec]; omega), if_neg (by rw [ev]; omega), eu]
        exact yes
theorem m_things_lp {f : Int → Int → Int → Int → gI → Option (Int × gI)} (hN : 5000 ≤ N) (hs : RS s) {P : Nat} (hP : (P : Int) < s.1 15 0) : ∀ (r fuel T : Nat) (M : Option (Int × (Int × Int × Int))) (v : gI), r < fuel → T + r = (cQ s).2.2.2.1 → trl 588 s v → okCh M →
    ∃ v2, f268_at61 N f fuel a (cdM M) (vlM (80 * wH s) M) P T v = f a (cdM (flT (s.1 12 0) (s.1 12 1) (s.1 7) (gnOf s P) (pay P) r T M)) (vlM (80 * wH s) (flT (s.1 12 0) (s.1 12 1) (s.1 7) (gnOf s P) (pay P) r T M)) (P + 1) v2 ∧ trl 588 s v2 ∧ okCh (flT (s.1 12 0) (s.1 12 1) (s.1 7) (gnOf s P) (pay P) r T M) := by
  have hP4 := hs.P4
  have hw := hs.1.1
  obtain ⟨⟨hW0, hW⟩, ⟨hD0, hD⟩, hn0, -⟩ := id hw
  have en : (cQ s).2.2.2.1 = (s.1 15 3).toNat := rfl
  have e1 : s.1 69 1 = s.1 12 1 := hs.2.2.1.2.1.symm
  have e3 : s.1 71 1 = s.1 15 3 := hs.2.2.2.2.2.2.1
  have e8 := hs.2.2.2.1
  intro r
  induction r with
  | zero =>
    intro fuel T M v hf e hv hM
    obtain ⟨fuel, rfl⟩ : ∃ g, fuel = g + 1 := ⟨fuel - 1, by omega⟩
    refine ⟨v, ?_, hv, hM⟩
    unfold f268_at61
    rw [m_things, i_o2_some, hv.ne (by decide), e3, if_pos (by omega), iov_ok (by omega) (by omega)]
    rfl
  | succ r ih =>
    intro fuel T M v hf e hv hM
    obtain ⟨fuel, rfl⟩ : ∃ g, fuel = g + 1 := ⟨fuel - 1, by omega⟩
    have c : ((T + 1 : Nat) : Int) = (T : Int) + 1 := by omega
    have h78 : v.1 78 T = s.1 7 T := by
      rw [hv.at (by omega)]
      have := e8 T (by omega) (by omega)
      rw [sh_at, Int.zero_add] at this
      exact this
    unfold f268_at61 flT
    rw [m_things, i_o2_some, hv.ne (by decide), e3, if_neg (by omega)]
    by_cases g : s.1 7 T = 64
    · obtain ⟨v1, k1, k2, k3⟩ := m_cells_lp (N := N) (f := f268_at61 N f fuel) (a := a) hN hs hP (by omega : T < (cQ s).2.2.2.1) g (8 * s.1 12 1).toNat N 0 M v (by omega) (by decide) (by omega) hv hM
      rw [k1, if_pos g, ← c]
      exact ih fuel (T + 1) _ v1 (by omega) (by omega) k2 k3
    · obtain ⟨F, rfl⟩ : ∃ F, N = F + 1 := ⟨N - 1, by omega⟩
      have e73 : f268_at73 (F + 1) (f268_at61 (F + 1) f fuel) (F + 1) a (cdM M) (vlM (80 * wH s) M) P T 0 v = f268_at61 (F + 1) f fuel a (cdM M) (vlM (80 * wH s) M) P (T + 1) v := by
        unfold f268_at73
        rw [m_deep, i_o2_some, hv.ne (by decide), e1, iov_ok (by omega) (by omega), if_neg (by omega), ick_ok (by omega) (by omega), if_neg (by rw [h78]; exact g), iov_ok (by omega) (by omega)]
      rw [e73, if_neg g, ← c]
      exact ih fuel (T + 1) M v (by omega) (by omega) hv hM
theorem chA_fl (q : Int) (M : Option (Int × (Int × Int × Int))) : flT (s.1 12 0) (s.1 12 1) (s.1 7) (gnOf s q) (pay q) (s.1 15 3).toNat 0 M = joi M (chA s q) := by
  have := flT_joi (W := s.1 12 0) (D := s.1 12 1) (p := s.1 7) (G := gnOf s q) (x := pay q) (s.1 15 3).toNat 0 M none
  rw [joi_none] at this
  exact this
theorem m_people_lp (hN : 5000 ≤ N) (hs : RS s) : ∀ (r fuel P : Nat) (v : gI), r < fuel → (P : Int) + r = s.1 15 0 → trl 588 s v → okCh (joP (chA s) P) → ∃ v2, trl 588 s v2 ∧ okCh (joP (chA s) (s.1 15 0).toNat) ∧
    f268_at49 N fuel a (cdM (joP (chA s) P)) (vlM (80 * wH s) (joP (chA s) P)) P v = (if a = 0 then i_o2 (f261 N 0 v2) fun i4 s3 => iov (80 * i4) <| iov (vlM (80 * wH s) (joP (chA s) (s.1 15 0).toNat) - 80 * i4) <| some (vlM (80 * wH s) (joP (chA s) (s.1 15 0).toNat) - 80 * i4, s3)
      else if a = 1 then idv (cdM (joP (chA s) (s.1 15 0).toNat)) 1024 <| some (cdM (joP (chA s) (s.1 15 0).toNat) / 1024, v2)
      else if a = 2 then idv (cdM (joP (chA s) (s.1 15 0).toNat)) 64 <| idv (cdM (joP (chA s) (s.1 15 0).toNat) / 64) 16 <| some (cdM (joP (chA s) (s.1 15 0).toNat) / 64 % 16, v2)
      else idv (cdM (joP (chA s) (s.1 15 0).toNat)) 64 <| some (cdM (joP (chA s) (s.1 15 0).toNat) % 64, v2)) := by
  have hP := hs.2.2.2.2.2.1
  have e2 : s.1 71 0 = s.1 15 0 := hs.2.2.2.2.1
  have hn := cW_n hs.1.1
  have en : (cQ s).2.2.2.1 = (s.1 15 3).toNat := rfl
  intro r
  induction r with
  | zero =>
    intro fuel P v hf e hv hM
    obtain ⟨fuel, rfl⟩ : ∃ g, fuel = g + 1 := ⟨fuel - 1, by omega⟩
    have eP : (s.1 15 0).toNat = P := by omega
    refine ⟨v, hv, by rw [eP]; exact hM, ?_⟩
    unfold f268_at49
    rw [m_people, i_o2_some, hv.ne (by decide), e2, if_pos (by omega), eP]
  | succ r ih =>
    intro fuel P v hf e hv hM
    obtain ⟨fuel, rfl⟩ : ∃ g, fuel = g + 1 := ⟨fuel - 1, by omega⟩
    have c : ((P + 1 : Nat) : Int) = (P : Int) + 1 := by omega
    obtain ⟨v1, k1, k2, k3⟩ := m_things_lp (N := N) (f := f268_at49 N fuel) (a := a) hN hs (by omega : (P : Int) < s.1 15 0) (cQ s).2.2.2.1 N 0 (joP (chA s) P) v (by omega) (by omega) hv hM
    have ej : flT (s.1 12 0) (s.1 12 1) (s.1 7) (gnOf s P) (pay P) (cQ s).2.2.2.1 ((0 : Nat) : Int) (joP (chA s) P) = joP (chA s) (P + 1) := by
      rw [en]
      exact chA_fl (P : Int) _
    rw [ej] at k1 k3
    obtain ⟨v2, l1, l2, l3⟩ := ih fuel (P + 1) v1 (by omega) (by omega) k2 k3
    refine ⟨v2, l1, l2, ?_⟩
    unfold f268_at49
    rw [m_people, i_o2_some, hv.ne (by decide), e2, if_neg (by omega)]
    have k1' : f268_at61 N (f268_at49 N fuel) N a (cdM (joP (chA s) P)) (vlM (80 * wH s) (joP (chA s) P)) P 0 v = _ := k1
    rw [k1', ← c]
    exact l3
/-- whether there is anyone, and anything in hand -/
def mayN (s : gI) : Prop := 0 < s.1 15 0 ∧ 0 < inH (s.1 7) (s.1 15 3).toNat
theorem inH_any {p : Int → Int} : ∀ n : Nat, 0 < inH p n → ∃ j : Nat, j < n ∧ p j = 64
  | 0, h => absurd (show (0 : Int) < 0 from h) (by decide)
  | n + 1, h => by
    have e : inH p (n + 1) = inH p n + (if p n = 64 then 1 else 0) := rfl
    by_cases g : p n = 64
    · exact ⟨n, by omega, g⟩
    · rw [e, if_neg g, Int.add_zero] at h
      obtain ⟨j, h1, h2⟩ := inH_any n h
      exact ⟨j, by omega, h2⟩
theorem c_mayN (hN : 5000 ≤ N) (hw : cOK s) : (mayN s → f170 N s = some (1, s)) ∧ (¬ mayN s → f170 N s = some (0, s)) := by
  have l := c_manyAt (N := N) (s := s) hN hw (w := 64)
  rw [inH_tol] at l
  unfold f170 mayN
  by_cases h : s.1 15 0 ≤ 0
  · rw [if_pos h, ib1_ok (Or.inl rfl)]
    exact ⟨fun q => by omega, fun _ => rfl⟩
  rw [if_neg h, l, i_o2_some]
  by_cases h2 : inH (s.1 7) (s.1 15 3).toNat ≤ 0
  · rw [if_pos h2, ib1_ok (Or.inl rfl)]
    exact ⟨fun q => by omega, fun _ => rfl⟩
  · rw [if_neg h2, ib1_ok (Or.inr rfl)]
    exact ⟨fun _ => rfl, fun q => absurd ⟨by omega, by omega⟩ q⟩
theorem q_next (hN : 5000 ≤ N) (hI : INV k s) (ha : 0 ≤ a ∧ a ≤ 3) (hm : mayN s) : OKc k s (f150 N a) (f268 N a) := by
  have hs := hI.1
  have hw := hI.1.1.1
  have hP4 := hI.1.2.2.2.2.2.1
  have hn := cW_n hw
  have en : (cQ s).2.2.2.1 = (s.1 15 3).toNat := rfl
  obtain ⟨vc, b, c1, c2, c3, c4, c5, c6, c7⟩ := c_next (N := N) (s := s) hN hs.1 ⟨by have := hm.1; omega, hP4.2⟩ (inH_any _ hm.2)
  have cfin : f150 N a s = some (if a = 0 then b.1 else if a = 1 then b.2.1 else if a = 2 then b.2.2.1 else b.2.2.2, vc) := by
    unfold f150
    rw [if_neg (by omega), if_neg (by omega), (c_mayN hN hw).1 hm, i_o2_some, if_neg (by decide), c1, i_o1_some, c4, c5, c6, c7]
    by_cases g0 : a = 0
    · rw [if_pos g0, if_pos g0]
    rw [if_neg g0, if_neg g0]
    by_cases g1 : a = 1
    · rw [if_pos g1, if_pos g1]
    rw [if_neg g1, if_neg g1]
    by_cases g2 : a = 2
    · rw [if_pos g2, if_pos g2]
    · rw [if_neg g2, if_neg g2]
  have qc : sameQ s vc := ⟨fun a ha => c2.1 a (by omega), by rw [c2.1 1 (by omega)], by rw [c2.1 63 (by omega)], by rw [c2.1 63 (by omega)], fun j _ => by rw [c2.1 78 (by omega)], by rw [c2.2]⟩
  have q1 : sameQ s (iw vc 63 0 0) := qc.tr sameQ_thrown
  have hI1 := sameQ_inv q1 hI
  have hs1 := hI1.1
  have e7 : (iw vc 63 0 0).1 7 = s.1 7 := q1.1 7 (by omega)
  have e12 : (iw vc 63 0 0).1 12 = s.1 12 := q1.1 12 (by omega)
  have e15 : (iw vc 63 0 0).1 15 = s.1 15 := q1.1 15 (by omega)
  have e16 : (iw vc 63 0 0).1 16 = s.1 16 := q1.1 16 (by omega)
  have e20 : (iw vc 63 0 0).1 20 = s.1 20 := q1.1 20 (by omega)
  have eQ := sameQ_cQ q1
  have eg : gnOf (iw vc 63 0 0) = gnOf s := by
    funext q t c
    unfold gnOf gT
    rw [eQ, e7, e16, e20]
  have ech : chA (iw vc 63 0 0) = chA s := by
    funext j
    unfold chA
    rw [e12, e7, e15, eg]
  have ewH : wH (iw vc 63 0 0) = wH s := by
    unfold wH
    rw [e7, e20, eQ]
  obtain ⟨v2, m1, m2, m3⟩ := m_people_lp (N := N) (s := iw vc 63 0 0) (a := a) hN hs1 (s.1 15 0).toNat N 0 (iw vc 63 0 0) (by omega) (by rw [e15]; omega) trl.rf (fun b hb => by cases hb)
  rw [ech, e15, ewH, c3] at m3
  rw [ech, e15, c3] at m2
  obtain ⟨b1, b2, b3, b4⟩ := m2 b rfl
  have e71 : vc.1 71 0 = s.1 15 0 := by
    rw [c2.1 71 (by omega)]
    exact (INV_eq hI).2.2.1
  have h78 : ∀ j, (iw vc 63 0 0).1 78 j = s.1 78 j := fun j => by rw [iw_ne (by decide), c2.1 78 (by omega)]
  have mh := m_inHand (N := N) (s := vc) hN (sameQ_inv qc hI).1.2.1 (b := 0) (by decide) (by decide)
  have ei : inH (sh 0 (vc.1 78)) (vc.1 71 1).toNat = inH (s.1 7) (s.1 15 3).toNat := by
    rw [c2.1 71 (by omega), (INV_eq hI).2.2.2.1]
    refine inH_congr fun j hj => ?_
    rw [sh_at, Int.zero_add, c2.1 78 (by omega)]
    exact (INV_eq hI).2.2.2.2 j (by omega) (by omega)
  rw [ei] at mh
  have e8v : eq8 (sh 0 (v2.1 78)) (s.1 7) := fun j j0 j1 => by
    rw [sh_at, Int.zero_add, m1.at (by omega), h78]
    exact (INV_eq hI).2.2.2.2 j j0 j1
  have mw := m_worthR (N := N) (s := iw vc 63 0 0) (u := v2) (T := s.1 7) (b := 0) hN hs1.ry (by decide) (by decide) (fun a ha => m1.ne ha) e8v
  rw [e20, eQ] at mw
  have mw : f261 N 0 v2 = some (wH s, v2) := mw
  have rwH := wIn_rg (p := s.1 7) (wo := s.1 20) (n := (cQ s).2.2.2.1) (by omega) hs.1.2.2.2.2
  have eH : wH s = wIn (s.1 7) (s.1 20) (cQ s).2.2.2.1 := rfl
  have ecd : cdM (some b) = b.2.1 * 1024 + b.2.2.1 * 64 + b.2.2.2 := rfl
  have evl : vlM (80 * wH s) (some b) = b.1 + 80 * wH s := rfl
  refine OKc.q hI (x := if a = 0 then b.1 else if a = 1 then b.2.1 else if a = 2 then b.2.2.1 else b.2.2.2) (s1 := vc) (s2 := v2) cfin ?_ (q1.tr (sameQ_trl (by decide) m1))
  unfold f268
  rw [m_within, i_o2_some, if_pos ha, if_neg (by decide), m_people, i_o2_some, e71, if_neg (by have := hm.1; omega), mh, i_o2_some, if_neg (by have := hm.2; omega)]
  unfold f268_at30
  dsimp only
  rw [iw_at, zup_same, if_pos (by decide)]
  have m3' : f268_at49 N N a (-1) 0 0 (iw vc 63 0 0) = _ := m3
  rw [m3', mw, i_o2_some, ecd, evl]
  by_cases g0 : a = 0
  · rw [if_pos g0, if_pos g0, iov_ok (by omega) (by omega), iov_ok (by omega) (by omega), show b.1 + 80 * wH s - 80 * wH s = b.1 by omega]
  rw [if_neg g0, if_neg g0]
  by_cases g1 : a = 1
  · rw [if_pos g1, if_pos g1, idv_ok (by omega) (by decide), show (b.2.1 * 1024 + b.2.2.1 * 64 + b.2.2.2) / 1024 = b.2.1 by omega]
  rw [if_neg g1, if_neg g1]
  by_cases g2 : a = 2
  · rw [if_pos g2, if_pos g2, idv_ok (by omega) (by decide), idv_ok (by omega) (by decide), show (b.2.1 * 1024 + b.2.2.1 * 64 + b.2.2.2) / 64 % 16 = b.2.2.1 by omega]
  · rw [if_neg g2, if_neg g2, idv_ok (by omega) (by decide), show (b.2.1 * 1024 + b.2.2.1 * 64 + b.2.2.2) % 64 = b.2.2.2 by omega]
theorem q_nextNo (hN : 5000 ≤ N) (hI : INV k s) (h : ¬ ((0 ≤ a ∧ a ≤ 3) ∧ mayN s)) : f150 N a s = none ∧ ((0 ≤ a ∧ a ≤ 3) → f170 N s = some (0, s)) ∧ f268 N a s = some (0, iw s 63 0 1) := by
  have hw := hI.1.1.1
  have cm := c_mayN (N := N) (s := s) hN hw
  have hn := cW_n hw
  have en : (cQ s).2.2.2.1 = (s.1 15 3).toNat := rfl
  have mh := m_inHand (N := N) (s := s) hN hI.1.2.1 (b := 0) (by decide) (by decide)
  have ei : inH (sh 0 (s.1 78)) (s.1 71 1).toNat = inH (s.1 7) (s.1 15 3).toNat := by
    rw [(INV_eq hI).2.2.2.1]
    refine inH_congr fun j hj => ?_
    rw [sh_at, Int.zero_add]
    exact (INV_eq hI).2.2.2.2 j (by omega) (by omega)
  rw [ei] at mh
  have thr : f268_at29 N a s = some (0, iw s 63 0 1) := by
    unfold f268_at29 f268_at30
    dsimp only
    rw [iw_at, zup_same, if_neg (by decide)]
  refine ⟨?_, fun ha => cm.2 (fun hm => h ⟨ha, hm⟩), ?_⟩
  · unfold f150 f150_at16
    by_cases g : a < 0
    · rw [if_pos g]
    rw [if_neg g]
    by_cases g2 : 3 < a
    · rw [if_pos g2]
    rw [if_neg g2, cm.2 (fun hm => h ⟨by omega, hm⟩), i_o2_some, if_pos rfl]
  · unfold f268
    rw [m_within, i_o2_some]
    by_cases ha : 0 ≤ a ∧ a ≤ 3
    rotate_left
    · rw [if_neg ha, if_pos rfl]
      exact thr
    rw [if_pos ha, if_neg (by decide), m_people, i_o2_some, (INV_eq hI).2.2.1]
    by_cases hp : s.1 15 0 ≤ 0
    · rw [if_pos hp]
      exact thr
    rw [if_neg hp, mh, i_o2_some, if_pos (by
      by_cases q : inH (s.1 7) (s.1 15 3).toNat ≤ 0
      · exact q
      · exact absurd ⟨ha, by omega, by omega⟩ h)]
    exact thr
end NEXT

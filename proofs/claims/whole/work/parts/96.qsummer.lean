/-! Promise 30: summer answered alike. -/
section QSUMMER
variable {N : Nat} {s v u : gI} {k x a d m rn : Int} {p M : Int → Int}
/-- the reference amid a summer -/
def mm (u : gI) (M : Int → Int) (rn : Int) (v : gI) : Prop := (∀ b : Nat, b ≠ 76 → b ≠ 77 → b ≠ 78 → v.1 b = u.1 b) ∧ v.1 78 = unsh 588 M ∧ (∀ b : Nat, b ≠ 63 → v.2 b = u.2 b) ∧ v.2 63 27 = rn
theorem mm_rn {r2 : Int} (h : mm u M rn v) : mm u M r2 (iwl v 63 27 r2) := by
  obtain ⟨h1, h2, h3, h4⟩ := h
  refine ⟨h1, h2, fun b hb => ?_, ?_⟩
  · rw [iwl_ne hb]; exact h3 b hb
  · rw [iwl_at, zup_same]
theorem mm_Q (h : mm u M rn v) : mQ v = mQ u := by
  unfold mQ
  rw [h.1 69 (by decide) (by decide) (by decide), h.1 71 (by decide) (by decide) (by decide)]
theorem mm_OK (h : mm u M rn v) (hw : mOK u) : mOK v := by
  unfold mOK
  rw [h.1 69 (by decide) (by decide) (by decide), h.1 71 (by decide) (by decide) (by decide)]
  exact hw
theorem mm_sh (h : mm u M rn v) : sh 588 (v.1 78) = M := by rw [h.2.1, sh_unsh]
theorem mm_at {j : Int} (h : mm u M rn v) : v.1 78 (588 + j) = M j := by
  have := congrFun (mm_sh h) j
  rwa [sh_at] at this
theorem mm_pst {M2 : Int → Int} (h : mm u M rn v) : mm u M2 rn (pst v 588 M2) := by
  refine ⟨fun b b6 b7 b8 => ?_, pst_78, h.2.2.1, h.2.2.2⟩
  unfold pst
  rw [ic_ne b8]
  exact h.1 b b6 b7 b8
theorem m_draw {n : Int} (r0 : 0 ≤ rn) (r1 : rn < 2147483648) (hr : v.2 63 27 = rn) (n1 : 1 ≤ n) (n2 : n ≤ 900) : f288 N n v = some (rnD rn n, iwl v 63 27 (rnX rn)) := by
  have rg := rnD_rg (r := rn) n1
  have rx := rnX_rg (r := rn)
  have ex : (rn * 1103515245 + 12345) % 2147483648 = rnX rn := rfl
  have ed : rnX rn / 65536 % n = rnD rn n := rfl
  unfold f288
  rw [hr, iol_ok (by omega) (by omega), iol_ok (by omega) (by omega), idv_ok (by omega) (by decide), ex]
  dsimp only
  rw [iwl_at, zup_same, idv_ok (by omega) (by decide), idv_ok (by omega) (by omega), ed, bmodF rg.1 (by omega)]
theorem m_slip {T c q z arm : Int} {V : gI} (hN : 5000 ≤ N) (hw : mOK V) (q0 : 0 ≤ q ∧ q < 4) (t0 : 0 ≤ T ∧ T < 8) (ha : V.1 71 (10 + q) = arm) (a0 : 0 ≤ arm) (a1 : arm ≤ 10) (z0 : 0 ≤ z) (z1 : z < 80) (c0 : 0 ≤ c) (cx : c % V.1 69 0 < 8) (cx0 : 0 ≤ c % V.1 69 0) (cy0 : 0 ≤ c / V.1 69 0) (cy : c / V.1 69 0 < 8) :
    f289_at32 N N T c z q 0 V = some (pst V 588 (thrown (mQ V) (zup (sh 588 (V.1 78)) (8 + T) q) T (c % V.1 69 0 + sX (slZ arm z)) (c / V.1 69 0 + sY (slZ arm z)))) := by
  have ew : ∀ j : Int, f260 N q j V = some (wgt arm j, V) := fun j => by
    have := m_weightOf (N := N) (s := V) (i := q) (z := j) q0.1 q0.2 (by rw [ha]; exact ⟨a0, a1⟩)
    rw [ha] at this
    exact this
  have fin : ∀ {fuel : Nat} (j zz : Int), 0 ≤ j → j ≤ 8 → zz < wgt arm j → f289_at32 N (fuel + 1) T c zz q j V = some (pst V 588 (thrown (mQ V) (zup (sh 588 (V.1 78)) (8 + T) q) T (c % V.1 69 0 + sX j) (c / V.1 69 0 + sY j))) := fun j zz j0 j1 hz => by
    unfold f289_at32
    rw [ew, i_o2_some, if_pos hz, m_wide, i_o2_some, idv_ok c0 (by have := hw.1; omega), m_wide, i_o2_some, idv_ok c0 (by have := hw.1; omega), m_throwsAt hN hw (by decide) (by decide) t0.1 t0.2 ⟨cx0, cx⟩ ⟨cy0, cy⟩ j0 j1, i_o1_some]
  obtain ⟨F, rfl⟩ : ∃ F, N = F + 1 := ⟨N - 1, by omega⟩
  by_cases g : z < 8 * arm
  · have ez : slZ arm z = 0 := if_pos g
    rw [ez]
    exact fin 0 z (by decide) (by decide) (by unfold wgt; rw [if_pos rfl]; exact g)
  have a9 : arm < 10 := by omega
  have ez : slZ arm z = 1 + (z - 8 * arm) / (10 - arm) := (if_neg g).trans (if_neg (by omega))
  have lp : ∀ (n : Nat) (fuel : Nat) (j zz : Int), n < fuel → 1 ≤ j → j + n ≤ 8 → 0 ≤ zz → zz / (10 - arm) = n → zz < 80 → f289_at32 (F + 1) fuel T c zz q j V = some (pst V 588 (thrown (mQ V) (zup (sh 588 (V.1 78)) (8 + T) q) T (c % V.1 69 0 + sX (j + n)) (c / V.1 69 0 + sY (j + n)))) := by
    intro n
    induction n with
    | zero =>
      intro fuel j zz hf j1 jn z0 hz z8
      obtain ⟨fuel, rfl⟩ : ∃ g, fuel = g + 1 := ⟨fuel - 1, by omega⟩
      have hlt : zz < 10 - arm := by
        have := Int.emod_add_mul_ediv zz (10 - arm)
        have l := Int.emod_lt_of_pos zz (show 0 < 10 - arm by omega)
        rw [hz] at this
        have e0 : (10 - arm) * ((0 : Nat) : Int) = 0 := Int.mul_zero _
        rw [e0] at this
        omega
      have := fin (fuel := fuel) j zz (by omega) (by omega) (by unfold wgt; rw [if_neg (by omega)]; exact hlt)
      have e0 : j + ((0 : Nat) : Int) = j := Int.add_zero j
      rw [e0]
      exact this
    | succ n ih =>
      intro fuel j zz hf j1 jn z0 hz z8
      obtain ⟨fuel, rfl⟩ : ∃ g, fuel = g + 1 := ⟨fuel - 1, by omega⟩
      have hge : 10 - arm ≤ zz := by
        by_cases h : zz < 10 - arm
        · rw [Int.ediv_eq_zero_of_lt z0 h] at hz
          omega
        · omega
      have hz2 : (zz - (10 - arm)) / (10 - arm) = n := by
        have := Int.add_mul_ediv_right zz (-1) (show (10 - arm) ≠ 0 by omega)
        rw [hz] at this
        have e : zz + -1 * (10 - arm) = zz - (10 - arm) := by omega
        rw [e] at this
        omega
      have wj : wgt arm j = 10 - arm := if_neg (by omega)
      unfold f289_at32
      rw [ew, i_o2_some, wj, if_neg (by omega), ew, i_o2_some, wj, iov_ok (by omega) (by omega)]
      dsimp only
      rw [iov_ok (by omega) (by omega), ih fuel (j + 1) (zz - (10 - arm)) (by omega) (by omega) (by omega) (by omega) hz2 (by omega), show j + 1 + (n : Int) = j + ((n + 1 : Nat) : Int) by omega]
  have q1 : 0 ≤ (z - 8 * arm) / (10 - arm) := Int.ediv_nonneg (by omega) (by omega)
  have q2 : (z - 8 * arm) / (10 - arm) < 8 := Int.ediv_lt_of_lt_mul (by omega) (by omega)
  obtain ⟨n, hn⟩ := Int.eq_ofNat_of_zero_le q1
  have w0 : wgt arm 0 = 8 * arm := if_pos rfl
  rw [ez]
  unfold f289_at32
  rw [ew, i_o2_some, w0, if_neg g, ew, i_o2_some, w0, iov_ok (by omega) (by omega)]
  dsimp only
  rw [iov_ok (by omega) (by omega), Int.zero_add, hn]
  exact lp n F 1 (z - 8 * arm) (by omega) (by decide) (by omega) (by omega) hn (by omega)
/-- what class and reference share of roof and yard -/
def shr (s u : gI) : Prop := (cOK s) ∧ (mOK u) ∧ (eqQ (cQ s) (mQ u)) ∧ (u.1 69 0 = s.1 12 0) ∧ (u.1 69 1 = s.1 12 1) ∧ (u.1 71 1 = s.1 15 3) ∧ (1 ≤ s.1 15 3) ∧ (∀ i, 0 ≤ i → i < 4 → 0 ≤ s.1 16 i ∧ s.1 16 i ≤ 10) ∧ (∀ i, 0 ≤ i → i < s.1 15 0 → u.1 71 (10 + i) = s.1 16 i) ∧ (s.1 15 0 ≤ 4) ∧ (∀ t, 0 ≤ t → t < s.1 15 3 → u.1 71 (14 + 3 * t + 1) = s.1 19 t ∧ 0 ≤ s.1 19 t ∧ s.1 19 t < s.1 15 0) ∧ (∀ t : Nat, t < (mQ u).2.2.2.1 → 0 ≤ u.1 71 (14 + 3 * t) ∧ u.1 71 (14 + 3 * t) ≤ 3) ∧ (u.1 71 7 = s.1 15 16) ∧ (0 ≤ s.1 15 16 ∧ s.1 15 16 ≤ 6) ∧ (∀ t : Nat, t < (s.1 15 3).toNat → mwo u t = s.1 20 t) ∧ (mWo u) ∧ (u.1 71 = s.1 71) ∧ (u.1 72 = s.1 72) ∧ (u.1 73 = s.1 73) ∧ (lawR s 0 25) ∧ (lawR s 1 28)
theorem shr.ok (h : shr s u) : cOK s := h.1
theorem shr.mok (h : shr s u) : mOK u := h.2.1
theorem shr.eq (h : shr s u) : eqQ (cQ s) (mQ u) := h.2.2.1
theorem shr.e0 (h : shr s u) : u.1 69 0 = s.1 12 0 := h.2.2.2.1
theorem shr.e1 (h : shr s u) : u.1 69 1 = s.1 12 1 := h.2.2.2.2.1
theorem shr.e3 (h : shr s u) : u.1 71 1 = s.1 15 3 := h.2.2.2.2.2.1
theorem shr.h1 (h : shr s u) : 1 ≤ s.1 15 3 := h.2.2.2.2.2.2.1
theorem shr.har (h : shr s u) : ∀ i, 0 ≤ i → i < 4 → 0 ≤ s.1 16 i ∧ s.1 16 i ≤ 10 := h.2.2.2.2.2.2.2.1
theorem shr.earm (h : shr s u) : ∀ i, 0 ≤ i → i < s.1 15 0 → u.1 71 (10 + i) = s.1 16 i := h.2.2.2.2.2.2.2.2.1
theorem shr.hP (h : shr s u) : s.1 15 0 ≤ 4 := h.2.2.2.2.2.2.2.2.2.1
theorem shr.hown (h : shr s u) : ∀ t, 0 ≤ t → t < s.1 15 3 → u.1 71 (14 + 3 * t + 1) = s.1 19 t ∧ 0 ≤ s.1 19 t ∧ s.1 19 t < s.1 15 0 := h.2.2.2.2.2.2.2.2.2.2.1
theorem shr.hkd (h : shr s u) : ∀ t : Nat, t < (mQ u).2.2.2.1 → 0 ≤ u.1 71 (14 + 3 * t) ∧ u.1 71 (14 + 3 * t) ≤ 3 := h.2.2.2.2.2.2.2.2.2.2.2.1
theorem shr.e16 (h : shr s u) : u.1 71 7 = s.1 15 16 := h.2.2.2.2.2.2.2.2.2.2.2.2.1
theorem shr.h16 (h : shr s u) : 0 ≤ s.1 15 16 ∧ s.1 15 16 ≤ 6 := h.2.2.2.2.2.2.2.2.2.2.2.2.2.1
theorem shr.ewo (h : shr s u) : ∀ t : Nat, t < (s.1 15 3).toNat → mwo u t = s.1 20 t := h.2.2.2.2.2.2.2.2.2.2.2.2.2.2.1
theorem shr.mwo' (h : shr s u) : mWo u := h.2.2.2.2.2.2.2.2.2.2.2.2.2.2.2.1
theorem shr.e71 (h : shr s u) : u.1 71 = s.1 71 := h.2.2.2.2.2.2.2.2.2.2.2.2.2.2.2.2.1
theorem shr.e72 (h : shr s u) : u.1 72 = s.1 72 := h.2.2.2.2.2.2.2.2.2.2.2.2.2.2.2.2.2.1
theorem shr.e73 (h : shr s u) : u.1 73 = s.1 73 := h.2.2.2.2.2.2.2.2.2.2.2.2.2.2.2.2.2.2.1
theorem shr.l0 (h : shr s u) : lawR s 0 25 := h.2.2.2.2.2.2.2.2.2.2.2.2.2.2.2.2.2.2.2.1
theorem shr.l1 (h : shr s u) : lawR s 1 28 := h.2.2.2.2.2.2.2.2.2.2.2.2.2.2.2.2.2.2.2.2
theorem m_suT {f : Int → Int → Int → gI → Option (Int × gI)} {n i : Int} (hN : 5000 ≤ N) (S : shr s u) (h : mm u M rn v) (he : eqR p d m M) (hV : VV (cQ s) p) (r0 : 0 ≤ rn) (r1 : rn < 2147483648) :
    ∃ v2 M2, mm u M2 (suT s p rn).2 v2 ∧ eqR (suT s p rn).1 d m M2 ∧ (∀ j, j < 0 → M2 j = M j) ∧ (i_o2 (f221 N v) fun i2 s1 => i_o2 (f288 N i2 s1) fun i4 s3 => iov (588 + i4) <| ick (588 + i4) 700 <| if s3.1 78 (588 + i4) = 64 then i_o1 (f289 N i4 s3) fun s5 => f290_at101 N f n a i s5 else f290_at101 N f n a i s3) = f290_at101 N f n a i v2 := by
  obtain ⟨⟨hW0, hW⟩, ⟨hD0, hD⟩, hn0, -⟩ := id S.ok
  have h1 := S.h1
  have en : (cQ s).2.2.2.1 = (s.1 15 3).toNat := rfl
  have hn := cW_n S.ok
  have v71 := h.1 71 (by decide) (by decide) (by decide)
  have rt := rnD_rg (r := rn) h1
  have d1 := m_draw (N := N) (v := v) r0 r1 h.2.2.2 h1 (by omega)
  have hs1 := mm_rn (r2 := rnX rn) h
  rw [m_things, i_o2_some, v71, S.e3, d1, i_o2_some, iov_ok (by omega) (by omega), ick_ok (by omega) (by omega), mm_at hs1, ← he.1 _ rt.1 (by omega)]
  by_cases g : p (rnD rn (s.1 15 3)) = 64
  rotate_left
  · have e : suT s p rn = (p, rnX rn) := if_neg g
    rw [if_neg g, e]
    exact ⟨_, M, hs1, he, fun _ _ => rfl, rfl⟩
  have e : suT s p rn = (thrown (cQ s) p (rnD rn (s.1 15 3)) (rnD (rnX rn) (s.1 12 0 * s.1 12 1) % s.1 12 0 + sX (slZ (s.1 16 (s.1 19 (rnD rn (s.1 15 3)))) (rnD (rnX (rnX rn)) 80))) (rnD (rnX rn) (s.1 12 0 * s.1 12 1) / s.1 12 0 + sY (slZ (s.1 16 (s.1 19 (rnD rn (s.1 15 3)))) (rnD (rnX (rnX rn)) 80))), rnX (rnX (rnX rn))) := if_pos g
  rw [if_pos g, e]
  obtain ⟨T, hT⟩ := Int.eq_ofNat_of_zero_le rt.1
  rw [hT] at g rt ⊢
  obtain ⟨⟨A0, A1⟩, A2⟩ := area (c := rnD (rnX rn) (s.1 12 0 * s.1 12 1)) ⟨hW0, hW⟩ ⟨hD0, hD⟩
  have rc := rnD_rg (r := rnX rn) (n := s.1 12 0 * s.1 12 1) (by omega)
  obtain ⟨⟨c0, c1⟩, c2, c3⟩ := A2 rc.1 rc.2
  have rx1 := rnX_rg (r := rn)
  have rx2 := rnX_rg (r := rnX rn)
  have rz := rnD_rg (r := rnX (rnX rn)) (n := 80) (by decide)
  obtain ⟨ow0, ow1, ow2⟩ := S.hown T (by omega) (by omega)
  have arr := S.har (s.1 19 T) ow1 (by have := S.hP; omega)
  have d2 := m_draw (N := N) (v := iwl v 63 27 (rnX rn)) rx1.1 rx1.2 hs1.2.2.2 (n := s.1 12 0 * s.1 12 1) (by omega) (by omega)
  have hs2 := mm_rn (r2 := rnX (rnX rn)) hs1
  have d3 := m_draw (N := N) (v := iwl (iwl v 63 27 (rnX rn)) 63 27 (rnX (rnX rn))) rx2.1 rx2.2 hs2.2.2.2 (n := 80) (by decide) (by decide)
  have hs3 := mm_rn (r2 := rnX (rnX (rnX rn))) hs2
  generalize hv3 : iwl (iwl (iwl v 63 27 (rnX rn)) 63 27 (rnX (rnX rn))) 63 27 (rnX (rnX (rnX rn))) = v3 at d3 hs3
  have b69 : (iwl v 63 27 (rnX rn)).1 69 = u.1 69 := hs1.1 69 (by decide) (by decide) (by decide)
  have a69 : v3.1 69 = u.1 69 := hs3.1 69 (by decide) (by decide) (by decide)
  have a71 : v3.1 71 = u.1 71 := hs3.1 71 (by decide) (by decide) (by decide)
  have ls := m_slip (N := N) (V := v3) (T := T) (c := rnD (rnX rn) (s.1 12 0 * s.1 12 1)) (q := s.1 19 T) (z := rnD (rnX (rnX rn)) 80) (arm := s.1 16 (s.1 19 T)) hN (mm_OK hs3 S.mok) ⟨ow1, by have := S.hP; omega⟩ ⟨by omega, by omega⟩ (by rw [a71]; exact S.earm _ ow1 ow2) arr.1 arr.2 rz.1 (by omega) rc.1 (by rw [a69, S.e0]; omega) (by rw [a69, S.e0]; exact c0) (by rw [a69, S.e0]; exact c2) (by rw [a69, S.e0]; omega)
  rw [a69, S.e0, mm_sh hs3, mm_Q hs3] at ls
  have lf : f289 N T (iwl v 63 27 (rnX rn)) = some (pst v3 588 (thrown (mQ u) (zup M (8 + T) (s.1 19 T)) T (rnD (rnX rn) (s.1 12 0 * s.1 12 1) % s.1 12 0 + sX (slZ (s.1 16 (s.1 19 T)) (rnD (rnX (rnX rn)) 80))) (rnD (rnX rn) (s.1 12 0 * s.1 12 1) / s.1 12 0 + sY (slZ (s.1 16 (s.1 19 T)) (rnD (rnX (rnX rn)) 80))))) := by
    unfold f289
    rw [m_wide, i_o2_some, m_deep, i_o2_some, b69, S.e0, S.e1, iov_ok (by omega) (by omega), d2, i_o2_some, d3, i_o2_some, m_thingOf (by omega) (by omega) (by decide) (by decide), i_o2_some, a71, ow0]
    exact ls
  refine ⟨_, _, mm_pst hs3, ⟨?_, ?_, ?_⟩, fun j hj => ?_, by rw [lf, i_o1_some]⟩
  · rw [thrown_eqQ S.eq hW hD (show T < (cQ s).2.2.2.1 by omega) hV]
    exact thrown_congr (by rw [← S.eq.2.2.1]; exact hn) ((eq8.far he.1.sy (by omega)).sy) (by omega) (by omega) _ _
  · rw [thrown_out (by rw [← S.eq.2.2.1]; exact hn) ⟨by omega, by omega⟩ (Or.inr (by decide)), zup_ne (by omega)]
    exact he.2.1
  · rw [thrown_out (by rw [← S.eq.2.2.1]; exact hn) ⟨by omega, by omega⟩ (Or.inr (by decide)), zup_ne (by omega)]
    exact he.2.2
  · rw [thrown_out (by rw [← S.eq.2.2.1]; exact hn) ⟨by omega, by omega⟩ (Or.inl hj), zup_ne (by omega)]
theorem m_suG {f : Int → Int → Int → gI → Option (Int × gI)} {n i : Int} (hN : 5000 ≤ N) (S : shr s u) (h : mm u M rn v) (he : eqR p d m M) (hV : VV (cQ s) p) (r0 : 0 ≤ rn) (r1 : rn < 2147483648) (i0 : 0 ≤ i) :
    ∃ v2 M2, mm u M2 (suG s i p rn).2 v2 ∧ eqR (suG s i p rn).1 d m M2 ∧ (∀ j, j < 0 → M2 j = M j) ∧ f290_at101 N f n a i v = f290_at122 N f n a i v2 := by
  have hn := cW_n S.ok
  unfold f290_at101
  rw [idv_ok i0 (by decide)]
  by_cases g : i % 10 = 0
  · have e : suG s i p rn = (gust (cQ s) (rnD rn 4) (cQ s).2.2.2.1 0 p, rnX rn) := if_pos g
    have rw4 := rnD_rg (r := rn) (n := 4) (by decide)
    have d1 := m_draw (N := N) (v := v) r0 r1 h.2.2.2 (n := 4) (by decide) (by decide)
    have hs1 := mm_rn (r2 := rnX rn) h
    have hVm : VV (mQ u) M := VV_eq S.eq he.1 hn hV
    have lg := m_gust (N := N) (u := iwl v 63 27 (rnX rn)) (b := 588) (w := rnD rn 4) (p := M) hN (mm_OK hs1 S.mok) (fun t ht => by
      rw [mm_Q hs1] at ht
      rw [hs1.1 71 (by decide) (by decide) (by decide)]
      exact S.hkd t ht) (by decide) (by decide) rw4.1 (by omega) (by rw [mm_Q hs1]; exact hVm)
    have ps : pst (iwl v 63 27 (rnX rn)) 588 M = iwl v 63 27 (rnX rn) := by
      have := pst_self (s := iwl v 63 27 (rnX rn)) (b := 588)
      rwa [mm_sh hs1] at this
    rw [ps, mm_Q hs1] at lg
    have ge := (gust_eq (w := rnD rn 4) S.eq S.ok.1.2 S.ok.2.1.2 hn (cQ s).2.2.2.1 0 p M (by omega) hV he.1).1
    have z0 : ((0 : Nat) : Int) = 0 := rfl
    rw [z0, S.eq.2.2.1] at ge
    rw [if_pos g, d1, i_o2_some, lg, i_o2_some, e]
    refine ⟨_, _, mm_pst hs1, ⟨?_, ?_, ?_⟩, fun j hj => ?_, rfl⟩
    · show eq8 (gust (cQ s) (rnD rn 4) (cQ s).2.2.2.1 0 p) _
      rw [S.eq.2.2.1]
      exact ge
    · rw [gust_ne _ _ _ (Or.inr (by rw [← S.eq.2.2.1]; omega))]; exact he.2.1
    · rw [gust_ne _ _ _ (Or.inr (by rw [← S.eq.2.2.1]; omega))]; exact he.2.2
    · rw [gust_ne _ _ _ (Or.inl hj)]
  · have e : suG s i p rn = (p, rn) := if_neg g
    rw [if_neg g, e]
    exact ⟨v, M, h, he, fun _ _ => rfl, rfl⟩
theorem m_suD (hN : 5000 ≤ N) (S : shr s u) (h : mm u M rn v) (he : eqR p d m M) (hV : VV (cQ s) p) (d0 : 0 ≤ d) (d1 : d ≤ 1000000) (m0 : 0 ≤ m) (m1 : m ≤ 2000000000) :
    ∃ v2 M2, f255 N 588 v = some v2 ∧ mm u M2 rn v2 ∧ eqR (dyP s p d) (d + 1) (m + dyC s p d + dyT s p d) M2 ∧ ∀ j, j < 0 → M2 j = M j := by
  have hn := cW_n S.ok
  have en : (cQ s).2.2.2.1 = (s.1 15 3).toNat := rfl
  have v71 := h.1 71 (by decide) (by decide) (by decide)
  have v72 := h.1 72 (by decide) (by decide) (by decide)
  have v73 := h.1 73 (by decide) (by decide) (by decide)
  have hp := pr_self (u := v) (b := 588)
  rw [mm_sh h] at hp
  obtain ⟨v2, k1, k2⟩ := m_day (N := N) (s := s) (u := v) (v := v) (b := 588) (M := M) hN (mm_OK h S.mok) (by unfold mWo; rw [v71]; exact S.mwo') (by decide) (by decide) (by rw [v71]; exact S.e71) (by rw [v72]; exact S.e72) (by rw [v73]; exact S.e73) (by rw [v71]; exact S.e3) (by rw [v71]; exact S.e16) S.h16 (fun t ht => by
    have := S.ewo t ht
    unfold mwo at this ⊢
    rw [v71]
    exact this) S.l0 S.l1 (by rw [mm_Q h]; exact VV_eq S.eq he.1 hn hV) hp (by rw [he.2.1]; exact ⟨d0, d1⟩) (by rw [he.2.2]; exact ⟨m0, m1⟩)
  refine ⟨v2, dyR s M, k1, ⟨fun b b6 b7 b8 => ?_, k2.2.2, fun b hb => ?_, ?_⟩, dy_eqR he (by omega), fun j hj => ?_⟩
  · rw [k2.1 b b6 b7 b8]; exact h.1 b b6 b7 b8
  · rw [k2.2.1]; exact h.2.2.1 b hb
  · rw [k2.2.1]; exact h.2.2.2
  · unfold dyR
    rw [zup_ne (by omega), zup_ne (by omega), dyP_ne (Or.inl hj) S.ok.2.2.1.1]
theorem m_sum_lp {n : Int} (hN : 5000 ≤ N) (S : shr s u) (hn : n ≤ 60) : ∀ (r fuel : Nat) (i : Int) (v : gI) (M p : Int → Int) (d m rn : Int), r < fuel → 1 ≤ i → i + r = n + 1 → mm u M rn v → eqR p d m M → VV (cQ s) p → 0 ≤ d → d + r ≤ 900000 → 0 ≤ m → m + 198 * r ≤ 1900000000 → 0 ≤ rn → rn < 2147483648 →
    ∃ v2 M2 rn2, f290_at63 N fuel n a i v = f290_at141 N N a 0 0 v2 ∧ mm u M2 rn2 v2 ∧ eqR (suI s r i p d m rn).1 (suI s r i p d m rn).2.1 (suI s r i p d m rn).2.2 M2 ∧ ∀ j, j < 0 → M2 j = M j := by
  have hw := S.ok
  have h1 := S.h1
  intro r
  induction r with
  | zero =>
    intro fuel i v M p d m rn hf i1 e h he hV d0 d1 m0 m1 r0 r1
    obtain ⟨fuel, rfl⟩ : ∃ g, fuel = g + 1 := ⟨fuel - 1, by omega⟩
    refine ⟨v, M, rn, ?_, h, he, fun _ _ => rfl⟩
    unfold f290_at63
    rw [if_pos (by omega)]
  | succ r ih =>
    intro fuel i v M p d m rn hf i1 e h he hV d0 d1 m0 m1 r0 r1
    obtain ⟨fuel, rfl⟩ : ∃ g, fuel = g + 1 := ⟨fuel - 1, by omega⟩
    obtain ⟨va, Ma, a1, a2, a3, a4⟩ := m_suT (N := N) (a := a) (f := f290_at63 N fuel) (n := n) (i := i) hN S h he hV r0 r1
    have ra := suT_rg (s := s) (p := p) r0 r1
    obtain ⟨vb, Mb, b1, b2, b3, b4⟩ := m_suG (N := N) (a := a) (f := f290_at63 N fuel) (n := n) (i := i) hN S a1 a2 (VV_suT hw h1 hV) ra.1 ra.2 (by omega)
    have eP : suP s i p rn = suG s i (suT s p rn).1 (suT s p rn).2 := rfl
    rw [← eP] at b1 b2
    obtain ⟨vc, Mc, c1, c2, c3, c4⟩ := m_suD (N := N) hN S b1 b2 (VV_suP hw h1 hV) d0 (by omega) m0 (by omega)
    have rc := dyC_rg (s := s) (p := (suP s i p rn).1) (d := d)
    have rt := dyT_rg (s := s) (p := (suP s i p rn).1) (d := d)
    have rp := suP_rg (s := s) (p := p) (i := i) r0 r1
    obtain ⟨v2, M2, rn2, k1, k2, k3, k4⟩ := ih fuel (i + 1) vc Mc _ _ _ _ (by omega) (by omega) (by omega) c2 c3 (VV_dyP (VV_suP hw h1 hV)) (by omega) (by omega) (by omega) (by omega) rp.1 rp.2
    refine ⟨v2, M2, rn2, ?_, k2, k3, fun j hj => by rw [k4 j hj, c4 j hj, b3 j hj, a3 j hj]⟩
    unfold f290_at63
    rw [if_neg (by omega), a4, b4]
    unfold f290_at122
    rw [c1, i_o1_some, iov_ok (by omega) (by omega)]
    exact k1
theorem cnt_all : ∀ n : Nat, cntL p n + inH p n + cOv p n = n
  | 0 => rfl
  | n + 1 => by
    have ih := cnt_all n
    have e1 : inH p (n + 1) = inH p n + (if p n = 64 then 1 else 0) := rfl
    have e2 : cOv p (n + 1) = cOv p n + (if p n = 65 then 1 else 0) := rfl
    rw [cntL_S, e1, e2]
    by_cases g : p n = 64
    · rw [if_pos g, if_pos g, if_neg (by omega)]; omega
    · rw [if_neg g, if_neg g]
      by_cases g2 : p n = 65
      · rw [if_pos g2, if_pos g2]; omega
      · rw [if_neg g2, if_neg g2]; omega
theorem m_end_lp (hN : 5000 ≤ N) (hw : mOK v) (ha : 0 ≤ a ∧ a ≤ 3) (hM : sh 588 (v.1 78) = M) (hr : -2147483648 ≤ v.1 78 605 - v.1 78 17 ∧ v.1 78 605 - v.1 78 17 ≤ 2147483647) : ∀ (r fuel i : Nat), (i : Int) + r = v.1 71 1 → r < fuel → f290_at141 N fuel a (cOv M i) i v = some (if a = 0 then inH M (v.1 71 1).toNat else if a = 1 then cOv M (v.1 71 1).toNat else if a = 2 then cntL M (v.1 71 1).toNat else v.1 78 605 - v.1 78 17, v) := by
  have hn := hw.2.2
  intro r
  induction r with
  | zero =>
    intro fuel i e hf
    obtain ⟨fuel, rfl⟩ : ∃ g, fuel = g + 1 := ⟨fuel - 1, by omega⟩
    have ei : (v.1 71 1).toNat = i := by omega
    have mh := m_inHand (N := N) (s := v) hN hw (b := 588) (by decide) (by decide)
    rw [hM, ei] at mh
    have ca := cnt_all (p := M) i
    have rH := inH_rg (p := M) i
    have rL := cntL_rg (p := M) i
    have rO : 0 ≤ cOv M i ∧ cOv M i ≤ i := c01 (g := fun k : Nat => if M k = 65 then 1 else 0) (fun k => by split; exact Or.inr rfl; exact Or.inl rfl) i
    unfold f290_at141
    rw [m_things, i_o2_some, if_pos (by omega), mh, i_o2_some, ei]
    by_cases g0 : a = 0
    · rw [if_pos g0, if_pos g0]
    rw [if_neg g0, if_neg g0]
    by_cases g1 : a = 1
    · rw [if_pos g1, if_pos g1]
    rw [if_neg g1, if_neg g1]
    by_cases g2 : a = 2
    · rw [if_pos g2, if_pos g2, m_things, i_o2_some, iov_ok (by omega) (by omega), iov_ok (by omega) (by omega), show v.1 71 1 - inH M i - cOv M i = cntL M i by omega]
    · rw [if_neg g2, if_neg g2, ick_ok (by omega) (by omega), ick_ok (by omega) (by omega), iov_ok (by omega) (by omega)]
  | succ r ih =>
    intro fuel i e hf
    obtain ⟨fuel, rfl⟩ : ∃ g, fuel = g + 1 := ⟨fuel - 1, by omega⟩
    have c1 : ((i + 1 : Nat) : Int) = (i : Int) + 1 := by omega
    have ih := ih fuel (i + 1) (by omega) (by omega)
    have e2 : cOv M (i + 1) = cOv M i + (if M i = 65 then 1 else 0) := rfl
    have rO : 0 ≤ cOv M i ∧ cOv M i ≤ i := c01 (g := fun k : Nat => if M k = 65 then 1 else 0) (fun k => by split; exact Or.inr rfl; exact Or.inl rfl) i
    have eM : v.1 78 (588 + i) = M i := by rw [← hM]; rfl
    unfold f290_at141 f290_at173
    rw [m_things, i_o2_some, if_neg (by omega), iov_ok (by omega) (by omega), ick_ok (by omega) (by omega), eM]
    by_cases g : M i = 65
    · rw [e2, if_pos g, c1] at ih
      rw [if_pos g, iov_ok (by omega) (by omega), iov_ok (by omega) (by omega)]
      exact ih
    · rw [e2, if_neg g, c1] at ih
      rw [if_neg g, iov_ok (by omega) (by omega), iov_ok (by omega) (by omega)]
      exact ih
end QSUMMER

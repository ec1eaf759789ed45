/-! Promise 30: summers drawn; the class. -/
section SUMMER
variable {N : Nat} {s v u : gI} {k x a d m rn : Int} {p M : Int → Int}
def rnX (r : Int) : Int := (r * 1103515245 + 12345) % 2147483648
def rnD (r n : Int) : Int := rnX r / 65536 % n
theorem rnX_rg {r : Int} : 0 ≤ rnX r ∧ rnX r < 2147483648 := by
  unfold rnX
  omega
theorem rnD_rg {r n : Int} (hn : 1 ≤ n) : 0 ≤ rnD r n ∧ rnD r n < n := ⟨Int.emod_nonneg _ (by omega), Int.emod_lt_of_pos _ (by omega)⟩
/-- which slip a drawn number stands for -/
def slZ (arm z : Int) : Int := if z < 8 * arm then 0 else if 10 ≤ arm then 0 else 1 + (z - 8 * arm) / (10 - arm)
theorem slZ_rg {arm z : Int} (a0 : 0 ≤ arm) (a1 : arm ≤ 10) (z0 : 0 ≤ z) (z1 : z < 80) : 0 ≤ slZ arm z ∧ slZ arm z ≤ 8 := by
  unfold slZ
  by_cases h : z < 8 * arm
  · rw [if_pos h]; omega
  rw [if_neg h]
  by_cases h2 : 10 ≤ arm
  · rw [if_pos h2]; omega
  rw [if_neg h2]
  have e1 : 0 ≤ (z - 8 * arm) / (10 - arm) := Int.ediv_nonneg (by omega) (by omega)
  have e2 : (z - 8 * arm) / (10 - arm) < 8 := Int.ediv_lt_of_lt_mul (by omega) (by omega)
  omega
theorem area {W D c : Int} (hW : 2 ≤ W ∧ W ≤ 8) (hD : 2 ≤ D ∧ D ≤ 8) : (4 ≤ W * D ∧ W * D ≤ 64) ∧ (0 ≤ c → c < W * D → (0 ≤ c % W ∧ c % W < W) ∧ (0 ≤ c / W ∧ c / W < D)) := by
  refine ⟨⟨?_, ?_⟩, fun h0 h1 => ⟨⟨Int.emod_nonneg _ (by omega), Int.emod_lt_of_pos _ (by omega)⟩, Int.ediv_nonneg h0 (by omega), Int.ediv_lt_of_lt_mul (by omega) (by rw [Int.mul_comm]; exact h1)⟩⟩
  · have := Int.mul_le_mul hW.1 hD.1 (by decide) (by omega)
    omega
  · have := Int.mul_le_mul hW.2 hD.2 (by omega) (by decide)
    omega
/-- the day's throw -/
def suT (s : gI) (p : Int → Int) (rn : Int) : (Int → Int) × Int :=
  if p (rnD rn (s.1 15 3)) = 64 then (thrown (cQ s) p (rnD rn (s.1 15 3)) (rnD (rnX rn) (s.1 12 0 * s.1 12 1) % s.1 12 0 + sX (slZ (s.1 16 (s.1 19 (rnD rn (s.1 15 3)))) (rnD (rnX (rnX rn)) 80))) (rnD (rnX rn) (s.1 12 0 * s.1 12 1) / s.1 12 0 + sY (slZ (s.1 16 (s.1 19 (rnD rn (s.1 15 3)))) (rnD (rnX (rnX rn)) 80))), rnX (rnX (rnX rn)))
  else (p, rnX rn)
/-- each tenth day's gale -/
def suG (s : gI) (i : Int) (p : Int → Int) (rn : Int) : (Int → Int) × Int := if i % 10 = 0 then (gust (cQ s) (rnD rn 4) (cQ s).2.2.2.1 0 p, rnX rn) else (p, rn)
def suP (s : gI) (i : Int) (p : Int → Int) (rn : Int) : (Int → Int) × Int := suG s i (suT s p rn).1 (suT s p rn).2
def suI (s : gI) : Nat → Int → (Int → Int) → Int → Int → Int → (Int → Int) × Int × Int
  | 0, _, p, d, m, _ => (p, d, m)
  | r + 1, i, p, d, m, rn => suI s r (i + 1) (dyP s (suP s i p rn).1 d) (d + 1) (m + dyC s (suP s i p rn).1 d + dyT s (suP s i p rn).1 d) (suP s i p rn).2
theorem suT_rg : 0 ≤ rn → rn < 2147483648 → 0 ≤ (suT s p rn).2 ∧ (suT s p rn).2 < 2147483648 := fun _ _ => by
  unfold suT
  split
  · exact rnX_rg
  · exact rnX_rg
theorem suP_rg {i : Int} : 0 ≤ rn → rn < 2147483648 → 0 ≤ (suP s i p rn).2 ∧ (suP s i p rn).2 < 2147483648 := fun h0 h1 => by
  unfold suP suG
  split
  · exact rnX_rg
  · exact suT_rg h0 h1
theorem VV_suT (hw : cOK s) (h1 : 1 ≤ s.1 15 3) (hV : VV (cQ s) p) : VV (cQ s) (suT s p rn).1 := by
  have rt := rnD_rg (r := rn) h1
  obtain ⟨t, ht⟩ := Int.eq_ofNat_of_zero_le rt.1
  have en : (cQ s).2.2.2.1 = (s.1 15 3).toNat := rfl
  unfold suT
  split
  · rw [ht]
    exact VV_thrown hw.1.2 hw.2.1.2 (by omega) hV _ _
  · exact hV
theorem VV_suP {i : Int} (hw : cOK s) (h1 : 1 ≤ s.1 15 3) (hV : VV (cQ s) p) : VV (cQ s) (suP s i p rn).1 := by
  unfold suP suG
  split
  · exact VV_gust hw.1.2 hw.2.1.2 _ 0 _ (by omega) (VV_suT hw h1 hV)
  · exact VV_suT hw h1 hV
theorem suT_ne (hw : cOK s) (h1 : 1 ≤ s.1 15 3) {j : Int} (hj : j < 0 ∨ s.1 15 3 ≤ j) : (suT s p rn).1 j = p j := by
  have rt := rnD_rg (r := rn) h1
  obtain ⟨t, ht⟩ := Int.eq_ofNat_of_zero_le rt.1
  have en : (cQ s).2.2.2.1 = (s.1 15 3).toNat := rfl
  have hn := cW_n hw
  unfold suT
  split
  · rw [ht]
    by_cases g : j < 0
    · exact thrown_out hn (by omega) (Or.inl g)
    · exact thr_n (by omega) (by omega)
  · rfl
theorem suP_ne {i : Int} (hw : cOK s) (h1 : 1 ≤ s.1 15 3) {j : Int} (hj : j < 0 ∨ s.1 15 3 ≤ j) : (suP s i p rn).1 j = p j := by
  have en : (cQ s).2.2.2.1 = (s.1 15 3).toNat := rfl
  unfold suP suG
  split
  · show gust _ _ _ _ _ j = _
    rw [gust_ne _ _ _ (by omega), suT_ne hw h1 hj]
  · exact suT_ne hw h1 hj
theorem suI_sp (hw : cOK s) (h1 : 1 ≤ s.1 15 3) : ∀ (r : Nat) (i : Int) (p : Int → Int) (d m rn : Int), VV (cQ s) p → VV (cQ s) (suI s r i p d m rn).1 ∧ (∀ j, (j < 0 ∨ s.1 15 3 ≤ j) → (suI s r i p d m rn).1 j = p j) ∧ (suI s r i p d m rn).2.1 = d + r ∧ m ≤ (suI s r i p d m rn).2.2 ∧ (suI s r i p d m rn).2.2 ≤ m + 198 * r
  | 0, _, p, d, m, _, hV => ⟨hV, fun _ _ => rfl, (Int.add_zero d).symm, Int.le_refl _, by show m ≤ m + 198 * 0; omega⟩
  | r + 1, i, p, d, m, rn, hV => by
    obtain ⟨a1, a2, a3, a4, a5⟩ := suI_sp hw h1 r (i + 1) (dyP s (suP s i p rn).1 d) (d + 1) (m + dyC s (suP s i p rn).1 d + dyT s (suP s i p rn).1 d) (suP s i p rn).2 (VV_dyP (VV_suP hw h1 hV))
    have := dyC_rg (s := s) (p := (suP s i p rn).1) (d := d)
    have := dyT_rg (s := s) (p := (suP s i p rn).1) (d := d)
    unfold suI
    refine ⟨a1, fun j hj => ?_, by omega, by omega, by omega⟩
    rw [a2 j hj, dyP_ne hj hw.2.2.1.1, suP_ne hw h1 hj]
/-- the class amid a summer -/
def sm (s : gI) (p : Int → Int) (d m rn : Int) (v : gI) : Prop := (∀ b : Nat, b ≠ 6 → b ≠ 7 → b ≠ 8 → b ≠ 9 → b ≠ 27 → b ≠ 30 → v.1 b = s.1 b) ∧ v.1 7 = p ∧ v.1 9 = whof (cQ s) p (s.1 9) ∧ (∀ j, (j < 0 ∨ 8 ≤ j) → v.1 8 j = s.1 8 j) ∧ v.1 6 = zup (zup (s.1 6) 4 d) 5 m ∧ (∀ b : Nat, b ≠ 11 → v.2 b = s.2 b) ∧ v.2 11 4 = rn
theorem sm_Q (h : sm s p d m rn v) : cQ v = cQ s := by
  unfold cQ
  rw [h.1 12 (by decide) (by decide) (by decide) (by decide) (by decide) (by decide), h.1 13 (by decide) (by decide) (by decide) (by decide) (by decide) (by decide), h.1 15 (by decide) (by decide) (by decide) (by decide) (by decide) (by decide), h.1 18 (by decide) (by decide) (by decide) (by decide) (by decide) (by decide)]
theorem sm_OK (h : sm s p d m rn v) (hw : cOK s) : cOK v := by
  unfold cOK
  rw [h.1 12 (by decide) (by decide) (by decide) (by decide) (by decide) (by decide), h.1 13 (by decide) (by decide) (by decide) (by decide) (by decide) (by decide), h.1 15 (by decide) (by decide) (by decide) (by decide) (by decide) (by decide)]
  exact hw
theorem sm_cst (h : sm s p d m rn v) : cst v p = v := by
  refine gI_ext (fun b => ?_) rfl
  by_cases h9 : b = 9
  · subst h9
    rw [cst_9, sm_Q h, h.2.2.1, whof_whof]
  by_cases h7 : b = 7
  · subst h7
    rw [cst_7, h.2.1]
  · rw [cst_ne h7 h9]
theorem sm_put {q : Int → Int} (h : sm s p d m rn v) : sm s q d m rn (cst v q) := by
  refine ⟨fun b b6 b7 b8 b9 b27 b30 => ?_, cst_7, ?_, fun j hj => ?_, ?_, h.2.2.2.2.2.1, h.2.2.2.2.2.2⟩
  · rw [cst_ne b7 b9]; exact h.1 b b6 b7 b8 b9 b27 b30
  · rw [cst_9, sm_Q h, h.2.2.1, whof_whof]
  · rw [cst_ne (by decide) (by decide)]; exact h.2.2.2.1 j hj
  · rw [cst_ne (by decide) (by decide)]; exact h.2.2.2.2.1
theorem sm_rn {r2 : Int} (h : sm s p d m rn v) : sm s p d m r2 (iwl v 11 4 r2) := by
  obtain ⟨h1, h2, h3, h4, h5, h6, h7⟩ := h
  refine ⟨h1, h2, h3, h4, h5, fun b hb => ?_, ?_⟩
  · rw [iwl_ne hb]; exact h6 b hb
  · rw [iwl_at, zup_same]
theorem sm_thr {t z : Int} (h : sm s p d m rn v) (t0 : 0 ≤ t ∧ t < 8) : sm s p d m rn (iw v 8 t z) := by
  obtain ⟨h1, h2, h3, h4, h5, h6, h7⟩ := h
  refine ⟨fun b b6 b7 b8 b9 b27 b30 => ?_, ?_, ?_, fun j hj => ?_, ?_, h6, h7⟩
  · rw [iw_ne b8]; exact h1 b b6 b7 b8 b9 b27 b30
  · rw [iw_ne (by decide)]; exact h2
  · rw [iw_ne (by decide)]; exact h3
  · rw [iw_at, zup_ne (by omega)]; exact h4 j hj
  · rw [iw_ne (by decide)]; exact h5
theorem c_draw {n : Int} (r0 : 0 ≤ rn) (r1 : rn < 2147483648) (hr : v.2 11 4 = rn) (n1 : 1 ≤ n) (n2 : n ≤ 900) : f76 N n v = some (rnD rn n, iwl v 11 4 (rnX rn)) := by
  have rg := rnD_rg (r := rn) n1
  have rx := rnX_rg (r := rn)
  have ex : (rn * 1103515245 + 12345) % 2147483648 = rnX rn := rfl
  have ed : rnX rn / 65536 % n = rnD rn n := rfl
  unfold f76
  rw [hr, iol_ok (by omega) (by omega), iol_ok (by omega) (by omega), idv_ok (by omega) (by decide), ex]
  dsimp only
  rw [if_neg (by omega), iwl_at, zup_same, idv_ok (by omega) (by decide), idv_ok (by omega) (by omega), ed, bmodF rg.1 (by omega)]
theorem c_suT {α : Type} (hN : 5000 ≤ N) (hw : cOK s) (h1 : 1 ≤ s.1 15 3) (har : ∀ i, 0 ≤ i → i < 4 → 0 ≤ s.1 16 i ∧ s.1 16 i ≤ 10) (hP : s.1 15 0 ≤ 4) (hown : ∀ t, 0 ≤ t → t < s.1 15 3 → 0 ≤ s.1 19 t ∧ s.1 19 t < s.1 15 0) (h : sm s p d m rn v) (hV : VV (cQ s) p) (r0 : 0 ≤ rn) (r1 : rn < 2147483648) (K : gI → Option α) :
    ∃ v2, sm s (suT s p rn).1 d m (suT s p rn).2 v2 ∧ (i_o2 (f76 N (v.1 15 3) v) fun i2 s1 => ick i2 8 <| if s1.1 7 i2 = 64 then i_o1 (f75 N i2 s1) K else K s1) = K v2 := by
  obtain ⟨⟨hW0, hW⟩, ⟨hD0, hD⟩, hn0, -⟩ := id hw
  have en : (cQ s).2.2.2.1 = (s.1 15 3).toNat := rfl
  have e15 := h.1 15 (by decide) (by decide) (by decide) (by decide) (by decide) (by decide)
  have rt := rnD_rg (r := rn) h1
  have d1 := c_draw (N := N) (v := v) r0 r1 h.2.2.2.2.2.2 h1 (by omega)
  have hs1 := sm_rn (r2 := rnX rn) h
  rw [e15, d1, i_o2_some, ick_ok rt.1 (by omega), hs1.2.1]
  by_cases g : p (rnD rn (s.1 15 3)) = 64
  rotate_left
  · have e : suT s p rn = (p, rnX rn) := if_neg g
    rw [if_neg g, e]
    exact ⟨_, hs1, rfl⟩
  have e : suT s p rn = (thrown (cQ s) p (rnD rn (s.1 15 3)) (rnD (rnX rn) (s.1 12 0 * s.1 12 1) % s.1 12 0 + sX (slZ (s.1 16 (s.1 19 (rnD rn (s.1 15 3)))) (rnD (rnX (rnX rn)) 80))) (rnD (rnX rn) (s.1 12 0 * s.1 12 1) / s.1 12 0 + sY (slZ (s.1 16 (s.1 19 (rnD rn (s.1 15 3)))) (rnD (rnX (rnX rn)) 80))), rnX (rnX (rnX rn))) := if_pos g
  rw [if_pos g, e]
  obtain ⟨T, hT⟩ := Int.eq_ofNat_of_zero_le rt.1
  rw [hT] at g rt ⊢
  obtain ⟨⟨A0, A1⟩, A2⟩ := area (c := rnD (rnX rn) (s.1 12 0 * s.1 12 1)) ⟨hW0, hW⟩ ⟨hD0, hD⟩
  have rc := rnD_rg (r := rnX rn) (n := s.1 12 0 * s.1 12 1) (by omega)
  obtain ⟨⟨c0, c1⟩, c2, c3⟩ := A2 rc.1 rc.2
  have rx1 := rnX_rg (r := rn)
  have rx2 := rnX_rg (r := rnX rn)
  have rz := rnD_rg (r := rnX (rnX rn)) (n := 80) (by decide)
  have ow := hown T (by omega) (by omega)
  have arr := har (s.1 19 T) ow.1 (by omega)
  have d2 := c_draw (N := N) (v := iwl v 11 4 (rnX rn)) rx1.1 rx1.2 hs1.2.2.2.2.2.2 (n := s.1 12 0 * s.1 12 1) (by omega) (by omega)
  have hs2 := sm_rn (r2 := rnX (rnX rn)) hs1
  have d3 := c_draw (N := N) (v := iwl (iwl v 11 4 (rnX rn)) 11 4 (rnX (rnX rn))) rx2.1 rx2.2 hs2.2.2.2.2.2.2 (n := 80) (by decide) (by decide)
  have hs3 := sm_rn (r2 := rnX (rnX (rnX rn))) hs2
  have rs := slZ_rg arr.1 arr.2 rz.1 rz.2
  have rX := sX_rg rs.1 rs.2
  have rY := sY_rg rs.1 rs.2
  generalize hv3 : iwl (iwl (iwl v 11 4 (rnX rn)) 11 4 (rnX (rnX rn))) 11 4 (rnX (rnX (rnX rn))) = v3 at d3 hs3
  have hs4 := sm_thr (t := T) (z := s.1 19 T) hs3 ⟨by omega, by omega⟩
  have b12 : (iwl v 11 4 (rnX rn)).1 12 = s.1 12 := hs1.1 12 (by decide) (by decide) (by decide) (by decide) (by decide) (by decide)
  have a12 : v3.1 12 = s.1 12 := hs3.1 12 (by decide) (by decide) (by decide) (by decide) (by decide) (by decide)
  have a16 : v3.1 16 = s.1 16 := hs3.1 16 (by decide) (by decide) (by decide) (by decide) (by decide) (by decide)
  have a19 : v3.1 19 = s.1 19 := hs3.1 19 (by decide) (by decide) (by decide) (by decide) (by decide) (by decide)
  have ld := c_land (N := N) (s := iw v3 8 T (s.1 19 T)) (p := p) (m := T) (x := rnD (rnX rn) (s.1 12 0 * s.1 12 1) % s.1 12 0 + sX (slZ (s.1 16 (s.1 19 T)) (rnD (rnX (rnX rn)) 80))) (y := rnD (rnX rn) (s.1 12 0 * s.1 12 1) / s.1 12 0 + sY (slZ (s.1 16 (s.1 19 T)) (rnD (rnX (rnX rn)) 80))) hN (sm_OK hs4 hw) (by rw [sm_Q hs4]; exact hV) (by rw [sm_Q hs4]; omega) g (by omega) (by omega)
  rw [sm_cst hs4, sm_Q hs4] at ld
  have fin : f75_at82 N T (rnD (rnX rn) (s.1 12 0 * s.1 12 1)) (slZ (s.1 16 (s.1 19 T)) (rnD (rnX (rnX rn)) 80)) v3 = some (cst (iw v3 8 T (s.1 19 T)) (thrown (cQ s) p T (rnD (rnX rn) (s.1 12 0 * s.1 12 1) % s.1 12 0 + sX (slZ (s.1 16 (s.1 19 T)) (rnD (rnX (rnX rn)) 80))) (rnD (rnX rn) (s.1 12 0 * s.1 12 1) / s.1 12 0 + sY (slZ (s.1 16 (s.1 19 T)) (rnD (rnX (rnX rn)) 80))))) := by
    unfold f75_at82
    rw [ick_ok (by omega) (by omega), ick_ok (by omega) (by omega), a19]
    dsimp only
    rw [iw_ne (by decide), a12, idv_ok rc.1 (by omega), ick_ok (by omega) (by omega), i_slipX rs.1 rs.2, iov_ok (by omega) (by omega), idv_ok rc.1 (by omega), ick_ok (by omega) (by omega), i_slipY rs.1 rs.2, iov_ok (by omega) (by omega), ld, i_o2_some]
  refine ⟨_, sm_put hs4, ?_⟩
  have lf : f75 N T (iwl v 11 4 (rnX rn)) = some (cst (iw v3 8 T (s.1 19 T)) (thrown (cQ s) p T (rnD (rnX rn) (s.1 12 0 * s.1 12 1) % s.1 12 0 + sX (slZ (s.1 16 (s.1 19 T)) (rnD (rnX (rnX rn)) 80))) (rnD (rnX rn) (s.1 12 0 * s.1 12 1) / s.1 12 0 + sY (slZ (s.1 16 (s.1 19 T)) (rnD (rnX (rnX rn)) 80))))) := by
    unfold f75
    rw [b12, iov_ok (by omega) (by omega), d2, i_o2_some, d3, i_o2_some, ick_ok (by omega) (by omega), a19, ick_ok ow.1 (by omega), a16]
    dsimp only
    rw [iov_ok (by omega) (by omega), ← fin]
    generalize hz : rnD (rnX (rnX rn)) 80 = z at rz rs
    generalize harm : s.1 16 (s.1 19 T) = arm at arr rs
    by_cases g1 : z < 8 * arm
    · have ez : slZ arm z = 0 := if_pos g1
      rw [if_pos g1, ez]
    rw [if_neg g1]
    by_cases g2 : 10 ≤ arm
    · have ez : slZ arm z = 0 := (if_neg g1).trans (if_pos g2)
      rw [if_pos g2, ez]
    · have ez : slZ arm z = 1 + (z - 8 * arm) / (10 - arm) := (if_neg g1).trans (if_neg g2)
      rw [ez] at rs
      rw [if_neg g2, iov_ok (by omega) (by omega), iov_ok (by omega) (by omega), iov_ok (by omega) (by omega), idv_ok (by omega) (by omega), iov_ok (by omega) (by omega), ez]
  rw [lf, i_o1_some]
theorem c_suG {f : Int → Int → gI → Option gI} {n i : Int} (hN : 5000 ≤ N) (hw : cOK s) (h : sm s p d m rn v) (hV : VV (cQ s) p) (r0 : 0 ≤ rn) (r1 : rn < 2147483648) (i0 : 0 ≤ i) :
    ∃ v2, sm s (suG s i p rn).1 d m (suG s i p rn).2 v2 ∧ f74_at47 N f n i v = f74_at64 N f n i v2 := by
  unfold f74_at47
  rw [idv_ok i0 (by decide)]
  by_cases g : i % 10 = 0
  · have e : suG s i p rn = (gust (cQ s) (rnD rn 4) (cQ s).2.2.2.1 0 p, rnX rn) := if_pos g
    have rw4 := rnD_rg (r := rn) (n := 4) (by decide)
    have d1 := c_draw (N := N) (v := v) r0 r1 h.2.2.2.2.2.2 (n := 4) (by decide) (by decide)
    have hs1 := sm_rn (r2 := rnX rn) h
    have lg := c_gust (N := N) (s := iwl v 11 4 (rnX rn)) (w := rnD rn 4) (p := p) hN (sm_OK hs1 hw) rw4.1 (by omega) (by rw [sm_Q hs1]; exact hV)
    rw [sm_cst hs1, sm_Q hs1] at lg
    rw [if_pos g, d1, i_o2_some, lg, i_o2_some, e]
    exact ⟨_, sm_put hs1, rfl⟩
  · have e : suG s i p rn = (p, rn) := if_neg g
    rw [if_neg g, e]
    exact ⟨v, h, rfl⟩
theorem dy_same (h15 : v.1 15 = s.1 15) (h20 : v.1 20 = s.1 20) (h25 : v.1 25 = s.1 25) (h26 : v.1 26 = s.1 26) (h28 : v.1 28 = s.1 28) (h29 : v.1 29 = s.1 29) : dyP v = dyP s ∧ dyC v = dyC s ∧ dyT v = dyT s := by
  have l0 : ∀ l w d, lawV v 25 l w d = lawV s 25 l w d := fun l w d => by
    unfold lawV
    rw [h25, show (25 + 1 : Nat) = 26 from rfl, h26]
  have l1 : ∀ l w d, lawV v 28 l w d = lawV s 28 l w d := fun l w d => by
    unfold lawV
    rw [h28, show (28 + 1 : Nat) = 29 from rfl, h29]
  refine ⟨funext fun p => funext fun d => ?_, funext fun p => funext fun d => ?_, funext fun p => funext fun d => ?_⟩
  · unfold dyP dyS
    rw [h15]
  · unfold dyC
    rw [h15, h20, l1]
  · unfold dyT dyS
    rw [h15, h20, l0]
theorem c_suD (hN : 5000 ≤ N) (hw : cOK s) (hwo : cWo s) (h16 : 0 ≤ s.1 15 16 ∧ s.1 15 16 ≤ 6) (r0 : lawR s 0 25) (r1 : lawR s 1 28) (h : sm s p d m rn v) (hV : VV (cQ s) p) (d0 : 0 ≤ d) (d1 : d ≤ 1000000) (m0 : 0 ≤ m) (m1 : m ≤ 2000000000) :
    ∃ v2, f62 N v = some v2 ∧ sm s (dyP s p d) (d + 1) (m + dyC s p d + dyT s p d) rn v2 := by
  have e : ∀ {b : Nat}, b ≠ 6 → b ≠ 7 → b ≠ 8 → b ≠ 9 → b ≠ 27 → b ≠ 30 → v.1 b = s.1 b := fun a1 a2 a3 a4 a5 a6 => h.1 _ a1 a2 a3 a4 a5 a6
  have e15 := h.1 15 (by decide) (by decide) (by decide) (by decide) (by decide) (by decide)
  have hsc : scOK v := by
    intro c c0 c1
    rw [h.2.2.1, h.2.1, e15]
    exact if_pos ⟨c0, c1⟩
  have hS := dcs_self hsc
  have v4 : v.1 6 4 = d := by rw [h.2.2.2.2.1, zup_ne (by decide), zup_same]
  have v5 : v.1 6 5 = m := by rw [h.2.2.2.2.1, zup_same]
  rw [h.2.1, v4, v5] at hS
  obtain ⟨y1, y2, y3⟩ := dy_same (v := v) (s := s) e15 (e (by decide) (by decide) (by decide) (by decide) (by decide) (by decide)) (e (by decide) (by decide) (by decide) (by decide) (by decide) (by decide)) (e (by decide) (by decide) (by decide) (by decide) (by decide) (by decide)) (e (by decide) (by decide) (by decide) (by decide) (by decide) (by decide)) (e (by decide) (by decide) (by decide) (by decide) (by decide) (by decide))
  obtain ⟨v2, k1, k2⟩ := c_day (N := N) (s := v) (v := v) hN (sm_OK h hw) (by unfold cWo; rw [e (by decide) (by decide) (by decide) (by decide) (by decide) (by decide)]; exact hwo) (by rw [e15]; exact h16) (lawR_eq r0 (e (by decide) (by decide) (by decide) (by decide) (by decide) (by decide)) (e (by decide) (by decide) (by decide) (by decide) (by decide) (by decide)) (e (by decide) (by decide) (by decide) (by decide) (by decide) (by decide)) (e (by decide) (by decide) (by decide) (by decide) (by decide) (by decide)) (e (by decide) (by decide) (by decide) (by decide) (by decide) (by decide))) (lawR_eq r1 (e (by decide) (by decide) (by decide) (by decide) (by decide) (by decide)) (e (by decide) (by decide) (by decide) (by decide) (by decide) (by decide)) (e (by decide) (by decide) (by decide) (by decide) (by decide) (by decide)) (e (by decide) (by decide) (by decide) (by decide) (by decide) (by decide)) (e (by decide) (by decide) (by decide) (by decide) (by decide) (by decide))) hS (by rw [sm_Q h]; exact hV) d0 d1 m0 m1
  rw [y1, y2, y3] at k2
  refine ⟨v2, k1, fun b b6 b7 b8 b9 b27 b30 => ?_, k2.2.2.1, ?_, fun j hj => ?_, ?_, fun b hb => ?_, ?_⟩
  · rw [k2.1 b b6 b7 b9 b27 b30]; exact h.1 b b6 b7 b8 b9 b27 b30
  · rw [k2.2.2.2.1, sm_Q h, h.2.2.1, whof_whof]
  · rw [k2.1 8 (by decide) (by decide) (by decide) (by decide) (by decide)]; exact h.2.2.2.1 j hj
  · rw [k2.2.2.2.2, h.2.2.2.2.1]
    funext j
    by_cases j5 : j = 5
    · subst j5; rw [zup_same, zup_same]
    rw [zup_ne j5, zup_ne j5]
    by_cases j4 : j = 4
    · subst j4; rw [zup_same, zup_same]
    rw [zup_ne j4, zup_ne j4, zup_ne j5, zup_ne j4]
  · rw [k2.2.1]; exact h.2.2.2.2.2.1 b hb
  · rw [k2.2.1]; exact h.2.2.2.2.2.2
theorem c_sum_lp {n : Int} (hN : 5000 ≤ N) (hw : cOK s) (hwo : cWo s) (h1 : 1 ≤ s.1 15 3) (har : ∀ i, 0 ≤ i → i < 4 → 0 ≤ s.1 16 i ∧ s.1 16 i ≤ 10) (hP : s.1 15 0 ≤ 4) (hown : ∀ t, 0 ≤ t → t < s.1 15 3 → 0 ≤ s.1 19 t ∧ s.1 19 t < s.1 15 0) (h16 : 0 ≤ s.1 15 16 ∧ s.1 15 16 ≤ 6) (l0 : lawR s 0 25) (l1 : lawR s 1 28) (hn : n ≤ 60) : ∀ (r fuel : Nat) (i : Int) (v : gI) (p : Int → Int) (d m rn : Int), r < fuel → 1 ≤ i → i + r = n + 1 → sm s p d m rn v → VV (cQ s) p → 0 ≤ d → d + r ≤ 900000 → 0 ≤ m → m + 198 * r ≤ 1900000000 → 0 ≤ rn → rn < 2147483648 →
    ∃ v2 rn2, f74_at8 N fuel n i v = some v2 ∧ sm s (suI s r i p d m rn).1 (suI s r i p d m rn).2.1 (suI s r i p d m rn).2.2 rn2 v2 := by
  intro r
  induction r with
  | zero =>
    intro fuel i v p d m rn hf i1 e h hV d0 d1 m0 m1 r0 r1
    obtain ⟨fuel, rfl⟩ : ∃ g, fuel = g + 1 := ⟨fuel - 1, by omega⟩
    refine ⟨v, rn, ?_, h⟩
    unfold f74_at8
    rw [if_pos (by omega)]
  | succ r ih =>
    intro fuel i v p d m rn hf i1 e h hV d0 d1 m0 m1 r0 r1
    obtain ⟨fuel, rfl⟩ : ∃ g, fuel = g + 1 := ⟨fuel - 1, by omega⟩
    obtain ⟨va, a1, a2⟩ := c_suT (N := N) hN hw h1 har hP hown h hV r0 r1 (fun v => f74_at47 N (f74_at8 N fuel) n i v)
    have ra := suT_rg (s := s) (p := p) r0 r1
    obtain ⟨vb, b1, b2⟩ := c_suG (N := N) (f := f74_at8 N fuel) (n := n) (i := i) hN hw a1 (VV_suT hw h1 hV) ra.1 ra.2 (by omega)
    have eP : suP s i p rn = suG s i (suT s p rn).1 (suT s p rn).2 := rfl
    rw [← eP] at b1
    obtain ⟨vc, c1, c2⟩ := c_suD (N := N) hN hw hwo h16 l0 l1 b1 (VV_suP hw h1 hV) d0 (by omega) m0 (by omega)
    have rc := dyC_rg (s := s) (p := (suP s i p rn).1) (d := d)
    have rt := dyT_rg (s := s) (p := (suP s i p rn).1) (d := d)
    have rp := suP_rg (s := s) (p := p) (i := i) r0 r1
    obtain ⟨v2, rn2, k1, k2⟩ := ih fuel (i + 1) vc _ _ _ _ (by omega) (by omega) (by omega) c2 (VV_dyP (VV_suP hw h1 hV)) (by omega) (by omega) (by omega) (by omega) rp.1 rp.2
    refine ⟨v2, rn2, ?_, k2⟩
    unfold f74_at8
    rw [if_neg (by omega)]
    have a2' : (i_o2 (f76 N (v.1 15 3) v) fun i2 s1 => ick i2 8 <| if s1.1 7 i2 = 64 then i_o1 (f75 N i2 s1) (fun v => f74_at47 N (f74_at8 N fuel) n i v) else f74_at47 N (f74_at8 N fuel) n i s1) = f74_at47 N (f74_at8 N fuel) n i va := a2
    rw [a2', b2]
    unfold f74_at64
    rw [c1, i_o1_some, iov_ok (by omega) (by omega)]
    exact k1
end SUMMER

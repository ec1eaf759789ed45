/-! The law's loop once more, what is ours kept in mind. (Partly written by a program of mine.) -/
section ZLOOP
variable {F : yl_F} {X : gX} {L0 B : Nat} {s : gI} {k : Int} {i : Int32} {u5 u6 : Option Value}
theorem yl_loop2 {B0 : Nat} (hl : F.2.1.stackTraces = false) (hR : 2048 ≤ F.2.2.2.1.frames ∧ 601024 ≤ F.2.2.2.1.cells ∧ 7293034 ≤ F.2.2.2.1.slots ∧ 84000 ≤ F.2.2.2.1.locals) (hL : L0 ≤ 3584)
    (hend : ∀ (X2 : gX) (s2 : gI) (i2 : Int32) (w5 w6 : Option Value), yl_H (yl_S F 0) X2 100 → X2.2.2.2.2.1 = B0 → yl_G (yl_S F 0) X2 1504 (yl_L i2 w5 w6) [] (cM L0 (s2, g_rho))) : ∀ (r j : Nat) (X : gX) (s : gI) (u5 u6 : Option Value), yl_H (yl_S F 0) X 100 → X.2.2.2.2.1 = B0 → zl_Z X F.2.2.2.2.1 F.2.2.2.2.1.heap → yl_u u5 → yl_u u6 → okM (s, g_rho) → INV (j : Int) s → L0 < 7 * (j + r) + 7 → 7 * j ≤ L0 + 7 →
      yl_G (yl_S F r) X 23 (yl_L (Int32.ofNat (7 * j)) u5 u6) [] (cM L0 (s, g_rho)) := by
  intro r
  induction r with
  | zero =>
    intro j X s u5 u6 H hB hZ h5 h6 hM hI hj hj2
    exact yl_out H ((yl_le hL (by omega)).mpr (by omega)) (hend X s _ _ _ H hB)
  | succ r ih =>
    intro j X s u5 u6 H hB hZ h5 h6 hM hI hj hj2
    have H : yl_H (yl_S F (r + 1)) X 100 := H
    by_cases hd : L0 < 7 * j + 7
    · refine yl_out H ((yl_le hL (by omega)).mpr (by omega)) ?_
      have := yl_mono (n := r + 1) (hend X s (Int32.ofNat (7 * j)) u5 u6 H hB)
      rw [Nat.zero_add] at this
      exact this
    have hk : (0 : Int) ≤ (j : Int) := by omega
    have hk2 : (j : Int) ≤ 5000 := by omega
    have hi := yl_inN (n := 7 * j) hL (by omega)
    have ej : Int32.ofNat (7 * j) + Int32.ofNat 7 = Int32.ofNat (7 * (j + 1)) := by
      rw [← Int32.ofNat_add]
      rfl
    have fin : ∀ (X2 : gX) (s2 : gI) (w5 w6 : Option Value), yl_H (yl_S F 0) X2 100 → X2.2.2.2.2 = X.2.2.2.2 → yl_u w5 → yl_u w6 → INV ((j : Int) + 1) s2 → okM (s2, g_rho) → yl_G (yl_S F r) X2 1498 (yl_L (Int32.ofNat (7 * j)) w5 w6) [] (cM L0 (s2, g_rho)) := by
      intro X2 s2 w5 w6 H2 hX2 h52 h62 hI2 hM2
      refine yl_foot (st := []) H2 ?_
      rw [ej]
      have eA : g_A X2 = g_A X := by
        have e1 : X2.2.2.2.2.1 = X.2.2.2.2.1 := congrArg Prod.fst hX2
        funext q
        show (X2.2.2.2.2.1 ≤ q) = (X.2.2.2.2.1 ≤ q)
        rw [e1]
      refine ih (j + 1) X2 s2 w5 w6 H2 ((congrArg Prod.fst hX2).trans hB) ?_ h52 h62 hM2 ?_ (by omega) (by omega)
      · unfold zl_Z
        rw [eA]
        exact hZ
      · have e2 : ((j + 1 : Nat) : Int) = (j : Int) + 1 := by omega
        rw [e2]
        exact hI2
    have finp : ∀ (s2 : gI), INV ((j : Int) + 1) s2 → okM (s2, g_rho) → yl_G (yl_S F (r + 1)) X 1498 (yl_L (Int32.ofNat (7 * j)) u5 u6) [] (cM L0 (s2, g_rho)) := fun s2 a b => yl_mono (n := 1) (fin X s2 u5 u6 H rfl h5 h6 a b)
    have finx : ∀ (X2 : gX) (s2 : gI), yl_H (yl_S F (r + 1)) X2 100 → X2.2.2.2.2 = X.2.2.2.2 → INV ((j : Int) + 1) s2 → okM (s2, g_rho) → yl_G (yl_S F (r + 1)) X2 1498 (yl_L (Int32.ofNat (7 * j)) u5 u6) [] (cM L0 (s2, g_rho)) := fun X2 s2 a b c d => yl_mono (n := 1) (fin X2 s2 u5 u6 a b h5 h6 c d)
    have finw : ∀ (s2 : gI) (w5 w6 : Option Value), yl_u w5 → yl_u w6 → INV ((j : Int) + 1) s2 → okM (s2, g_rho) → yl_G (yl_S F r) X 1498 (yl_L (Int32.ofNat (7 * j)) w5 w6) [] (cM L0 (s2, g_rho)) := fun s2 w5 w6 a b c d => fin X s2 w5 w6 H rfl a b c d
    refine yl_scr (fun hx => ?_) rfl
    refine yl_head H hx hi (fun h => hd ((yl_le hL (by omega)).mp h)) (fun n _ => ?_)
    match n with
    | ⟨0, _⟩ => exact yl_at gl_180 (yl_d180 H hx hi hM hI finp)
    | ⟨1, _⟩ => exact yl_at gl_327 (yl_d327 H h5 h6 hM hk hI finx)
    | ⟨2, _⟩ => exact yl_at gl_340 (yl_d340 H h5 h6 hM hk hI finx)
    | ⟨3, _⟩ => exact yl_at gl_353 (yl_d353 H hx hi hM hk hk2 hI finp)
    | ⟨4, _⟩ => exact yl_at gl_402 (yl_d402 H hx hi hM hk hk2 hI finp)
    | ⟨5, _⟩ => exact yl_at gl_439 (yl_d439 H hx hi hM hk hk2 hI finp)
    | ⟨6, _⟩ => exact yl_at gl_464 (yl_d464 H hx hi hM hk hk2 hI finp)
    | ⟨7, _⟩ => exact yl_at gl_537 (yl_d537 H hx hi hM hk hk2 hI finp)
    | ⟨8, _⟩ => exact yl_at gl_562 (yl_d562 H hx hi hM hk hk2 hI finp)
    | ⟨9, _⟩ => exact yl_at gl_575 (yl_d575 H hx hi hM hk hk2 hI finp)
    | ⟨10, _⟩ => exact yl_at gl_600 (yl_d600 H hx hi hM hk hk2 hI finp)
    | ⟨11, _⟩ => exact yl_at gl_625 (yl_d625 H hx hi hM hk hk2 hI finp)
    | ⟨12, _⟩ => exact yl_at gl_650 (yl_d650 H hx hi hM hk hk2 hI finp)
    | ⟨13, _⟩ => exact yl_at gl_663 (yl_d663 H hx hi hM hk hk2 hI finp)
    | ⟨14, _⟩ => exact yl_at gl_700 (yl_d700 H hx hi hM hk hk2 hI finp)
    | ⟨15, _⟩ => exact yl_at gl_773 (yl_d773 hl H hZ hR hx hi hM hk hk2 hI finw)
    | ⟨16, _⟩ => exact yl_at gl_865 (yl_d865 hl H hZ hR hx hi hM hk hk2 hI finw)
    | ⟨17, _⟩ => exact yl_at gl_921 (yl_d921 H hx hi hM hk hk2 hI finp)
    | ⟨18, _⟩ => exact yl_at gl_946 (yl_d946 H hx hi hM hk hk2 hI finp)
    | ⟨19, _⟩ => exact yl_at gl_983 (yl_d983 H hx hi hM hk hk2 hI finp)
    | ⟨20, _⟩ => exact yl_at gl_1020 (yl_d1020 H hx hi hM hk hk2 hI finp)
    | ⟨21, _⟩ => exact yl_at gl_1045 (yl_d1045 hl H hZ hR hx hi hM hk hk2 hI finw)
    | ⟨22, _⟩ => exact yl_at gl_1101 (yl_d1101 H hx hi hM hk hk2 hI finp)
    | ⟨23, _⟩ => exact yl_at gl_1138 (yl_d1138 H hx hi hM hk hk2 hI finp)
    | ⟨24, _⟩ => exact yl_at gl_1211 (yl_d1211 H hx hi hM hk hk2 hI finp)
    | ⟨25, _⟩ => exact yl_at gl_1236 (yl_d1236 H hx hi hM hk hk2 hI finp)
    | ⟨26, _⟩ => exact yl_at gl_1273 (yl_d1273 H hx hi hM hk hk2 hI finp)
    | ⟨27, _⟩ => exact yl_at gl_1310 (yl_d1310 H hx hi hM hk hk2 hI finp)
    | ⟨28, _⟩ => exact yl_at gl_1371 (yl_d1371 H hx hi hM hk hk2 hI finp)
    | ⟨29, _⟩ => exact yl_at gl_1420 (yl_d1420 H hx hi hM hI finp)
    | ⟨30, _⟩ => exact yl_at gl_1473 (yl_d1473 H hx hi hM hk hk2 hI finp)
    | ⟨31, _⟩ => exact finp s (INV_mono (by omega) hI) hM
    | ⟨n + 32, h⟩ => exact absurd h (by omega)
end ZLOOP

/-! What is tried and taken back: hold and release of the class. -/
section HOLD
variable {N : Nat} {s u : gI} {k : Int} {P : Int → Int}
theorem c_load2 {r : Nat} {zn row : Int} (hN : 5000 ≤ N) (hr : r ≠ 6 ∧ r ≠ 7 ∧ r ≠ 8 ∧ r ≠ 9) (h0 : 0 ≤ row) (h1 : 26 * row + 26 ≤ zn) (h2 : zn ≤ 1000) (hp : ∀ j : Nat, j < 8 → 0 ≤ s.1 r (26 * row + j) ∧ s.1 r (26 * row + j) < 192) :
    ∃ G, f91 N r zn row s = some (ic (ic (ic (ic s 7 (zcpy (s.1 r) (s.1 7) (26 * row) 0 8)) 8 (zcpy (s.1 r) (s.1 8) (26 * row + 8) 0 8)) 6 (zup (zup (s.1 6) 4 (s.1 r (26 * row + 24))) 5 (s.1 r (26 * row + 25)))) 9 G) ∧
      (∀ c, 0 ≤ c → c < 64 → G c = occ2 (zcpy (s.1 r) (s.1 7) (26 * row) 0 8) c 8) ∧ ∀ c, (c < 0 ∨ 64 ≤ c) → G c = s.1 9 c := by
  obtain ⟨r6, r7, r8, r9⟩ := hr
  have e26 : row * 26 = 26 * row := by omega
  unfold f91
  simp (disch := omega) only [ick_ok, iov_ok, iol_ok, idv_ok, ich_ok, icp_ok, i_o2_some, i_o1_some]
  rw [e26]
  simp only [icw_ic, iw_ic, ic_ic, ic_at, ic_ne r6, ic_ne r7, ic_ne r8, ic_ne (show (8 : Nat) ≠ 7 by decide), ic_ne (show (6 : Nat) ≠ 8 by decide), ic_ne (show (6 : Nat) ≠ 7 by decide)]
  generalize hP : zcpy (s.1 r) (s.1 7) (26 * row) 0 8 = P
  generalize hT : zcpy (s.1 r) (s.1 8) (26 * row + 8) 0 8 = T
  generalize hD : zup (zup (s.1 6) 4 (s.1 r (26 * row + 24))) 5 (s.1 r (26 * row + 25)) = D
  have hPj : ∀ j, 0 ≤ j → j < 8 → P j = s.1 r (26 * row + j) := fun j j0 j1 => by
    rw [← hP, zcpy_in (by omega) (by omega), show j - 0 = j by omega]
  obtain ⟨F, f1, f2, f3⟩ := c_fill (N := N) (s := ic (ic (ic s 7 P) 8 T) 6 D) (r := 9) (zn := 64) (x := -1) hN (by decide) (by decide)
  have e9 : (ic (ic (ic s 7 P) 8 T) 6 D).1 9 = s.1 9 := by rw [ic_ne (by decide), ic_ne (by decide), ic_ne (by decide)]
  have e7 : (ic (ic (ic s 7 P) 8 T) 6 D).1 7 = P := by rw [ic_ne (by decide), ic_ne (by decide), ic_at]
  obtain ⟨G, g1, g2, g3⟩ := c_who_lp (N := N) (s := ic (ic (ic s 7 P) 8 T) 6 D) (r := r) (zn := zn) (p := P) e7 (fun j hj => by rw [hPj j (by omega) (by omega)]; exact hp j hj) 8 0 N F (by decide) (by omega) (fun c c0 c1 => by rw [f2 c c0 c1]; rfl)
  refine ⟨G, ?_, g2, fun c hc => by rw [g3 c hc, f3 c hc, e9]⟩
  rw [f1, i_o1_some]
  exact g1
/-- what stands while something is tried -/
def held (s : gI) : gI := ic s 31 (savG s (s.1 31) 0)
theorem held_ne {a : Nat} (h : a ≠ 31) : (held s).1 a = s.1 a := ic_ne h
theorem held_sameQ : sameQ s (held s) :=
  ⟨fun a ha => held_ne (by omega), by rw [held_ne (by decide)], by rw [held_ne (by decide)], by rw [held_ne (by decide)], fun j _ => by rw [held_ne (by decide)], rfl⟩
theorem c_hold : f47 N s = some (held s) := by
  unfold f47
  rw [c_save (by decide) (by decide) (by decide) (by decide), i_o1_some]
  rfl
theorem c_release (hN : 5000 ≤ N) (hI : INV k s) (hP : ∀ j, (j < 0 ∨ 8 ≤ j) → P j = s.1 7 j) : f48 N (cst (held s) P) = some (held s) := by
  have hw := hI.1.1.1
  have sc := hI.1.1.2.1
  have hV := hI.1.1.2.2.1
  have i2 := hI.2.1
  have hn0 := hw.2.2.1
  have en : (cQ s).2.2.2.1 = (s.1 15 3).toNat := rfl
  have u31 : (cst (held s) P).1 31 = savG s (s.1 31) 0 := by rw [cst_ne (by decide) (by decide)]; exact ic_at
  have une : ∀ a : Nat, a ≠ 7 → a ≠ 9 → a ≠ 31 → (cst (held s) P).1 a = s.1 a := fun a a1 a2 a3 => by rw [cst_ne a1 a2, held_ne a3]
  have sv7 : ∀ j, 0 ≤ j → j < 8 → savG s (s.1 31) 0 (26 * 0 + j) = s.1 7 j := fun j a b => sav_7 (i := 0) a b
  have pl : ∀ j : Nat, j < 8 → 0 ≤ s.1 7 j ∧ s.1 7 j < 192 := fun j hj => by
    by_cases hj2 : (j : Int) < s.1 15 3
    · have := okq_rg (hV j (by omega))
      omega
    · have := i2.2.2.2.2.2.1 j (by omega) (by omega)
      omega
  obtain ⟨G, g1, g2, g3⟩ := c_load2 (N := N) (s := cst (held s) P) (r := 31) (zn := 26) (row := 0) hN (by decide) (by decide) (by decide) (by decide) (fun j hj => by
    rw [u31, sv7 j (by omega) (by omega)]
    exact pl j hj)
  rw [u31] at g1 g2
  have e7 : zcpy (savG s (s.1 31) 0) ((cst (held s) P).1 7) (26 * 0) 0 8 = s.1 7 := funext fun j => by
    by_cases h : 0 ≤ j ∧ j < 8
    · rw [zcpy_in (by omega) (by omega), show j - 0 = j by omega, sv7 j h.1 h.2]
    · rw [zcpy_out (by omega), cst_7]; exact hP j (by omega)
  have e8 : zcpy (savG s (s.1 31) 0) ((cst (held s) P).1 8) (26 * 0 + 8) 0 8 = s.1 8 := funext fun j => by
    by_cases h : 0 ≤ j ∧ j < 8
    · rw [zcpy_in (by omega) (by omega), show j - 0 = j by omega]; exact sav_8 (i := 0) h.1 h.2
    · rw [zcpy_out (by omega), une 8 (by decide) (by decide) (by decide)]
  have e6 : zup (zup ((cst (held s) P).1 6) 4 (savG s (s.1 31) 0 (26 * 0 + 24))) 5 (savG s (s.1 31) 0 (26 * 0 + 25)) = s.1 6 := by
    have a : savG s (s.1 31) 0 (26 * 0 + 24) = s.1 6 4 := sav_24 (i := 0)
    have b : savG s (s.1 31) 0 (26 * 0 + 25) = s.1 6 5 := sav_25 (i := 0)
    rw [a, b, une 6 (by decide) (by decide) (by decide), zup_eq rfl, zup_eq rfl]
  rw [e7] at g1 g2
  rw [e8, e6] at g1
  have e9 : G = s.1 9 := funext fun c => by
    by_cases h : 0 ≤ c ∧ c < 64
    · rw [g2 c h.1 h.2, sc c h.1 h.2]
      refine occ2_ext 8 (by omega) fun j j0 j1 => ?_
      have := i2.2.2.2.2.2.1 j (by omega) (by omega)
      rw [this, co_64]
      omega
    · rw [g3 c (by omega), cst_9]
      unfold whof
      rw [if_neg h, held_ne (by decide)]
  unfold f48
  rw [g1, i_o1_some, e9]
  have : ic (ic (ic (ic (cst (held s) P) 7 (s.1 7)) 8 (s.1 8)) 6 (s.1 6)) 9 (s.1 9) = held s := gI_ext (fun b => by
    by_cases h9 : b = 9
    · subst h9; rw [ic_at, held_ne (by decide)]
    rw [ic_ne h9]
    by_cases h6 : b = 6
    · subst h6; rw [ic_at, held_ne (by decide)]
    rw [ic_ne h6]
    by_cases h8 : b = 8
    · subst h8; rw [ic_at, held_ne (by decide)]
    rw [ic_ne h8]
    by_cases h7 : b = 7
    · subst h7; rw [ic_at, held_ne (by decide)]
    rw [ic_ne h7, cst_ne h7 h9]) rfl
  rw [this]
theorem held_held : held (held s) = held s := by
  have e1 : ∀ (g : Int → Int) (i : Int), savG (held s) g i = savG s g i := fun g i => by
    unfold savG
    rw [held_ne (a := 10) (by decide), held_ne (a := 8) (by decide), held_ne (a := 7) (by decide), held_ne (a := 6) (by decide)]
  have e2 : ∀ g : Int → Int, savG s (savG s g 0) 0 = savG s g 0 := fun g => by
    funext j
    have same : ∀ g1 g2 : Int → Int, 0 ≤ j → j < 26 → savG s g1 0 j = savG s g2 0 j := fun g1 g2 j0 j1 => by
      rcases (by omega : j < 8 ∨ (8 ≤ j ∧ j < 16) ∨ (16 ≤ j ∧ j < 24) ∨ j = 24 ∨ j = 25) with h | h | h | h | h
      · have a := sav_7 (s := s) (g := g1) (i := 0) j0 h
        have b := sav_7 (s := s) (g := g2) (i := 0) j0 h
        rw [Int.zero_add] at a b
        rw [a, b]
      · have a := sav_8 (s := s) (g := g1) (i := 0) (j := j - 8) (by omega) (by omega)
        have b := sav_8 (s := s) (g := g2) (i := 0) (j := j - 8) (by omega) (by omega)
        rw [show (0 : Int) + 8 + (j - 8) = j by omega] at a b
        rw [a, b]
      · have a := sav_10 (s := s) (g := g1) (i := 0) (j := j - 16) (by omega) (by omega)
        have b := sav_10 (s := s) (g := g2) (i := 0) (j := j - 16) (by omega) (by omega)
        rw [show (0 : Int) + 16 + (j - 16) = j by omega] at a b
        rw [a, b]
      · subst h
        have a := sav_24 (s := s) (g := g1) (i := 0)
        have b := sav_24 (s := s) (g := g2) (i := 0)
        rw [Int.zero_add] at a b
        rw [a, b]
      · subst h
        have a := sav_25 (s := s) (g := g1) (i := 0)
        have b := sav_25 (s := s) (g := g2) (i := 0)
        rw [Int.zero_add] at a b
        rw [a, b]
    by_cases h : 0 ≤ j ∧ j < 26
    · exact same _ _ h.1 h.2
    · rw [sav_out (by omega)]
  have e3 : (held s).1 31 = savG s (s.1 31) 0 := ic_at
  have e4 : held (held s) = ic (held s) 31 (savG (held s) ((held s).1 31) 0) := rfl
  rw [e4, e1, e3, e2]
  exact ic_ic
end HOLD

/-! Rows of the past: saved and loaded by the class, kept by the reference. -/
section PAST
variable {N : Nat} {s u : gI} {k : Int}
theorem zcpy_in {f g : Int → Int} {a b n j : Int} (h0 : b ≤ j) (h1 : j < b + n) : zcpy f g a b n j = f (a + (j - b)) := if_pos ⟨h0, h1⟩
theorem zcpy_out {f g : Int → Int} {a b n j : Int} (h : j < b ∨ b + n ≤ j) : zcpy f g a b n j = g j := if_neg (by omega)
theorem icw_ic {a d : Nat} {x y n : Int} : icw s a d x y n = ic s d (zcpy (s.1 a) (s.1 d) x y n) := gI_ext (fun b => by
  by_cases h : b = d
  · subst h; rw [icw_at, ic_at]
  · rw [icw_ne h, ic_ne h]) rfl
/-- a row of the past that holds this scene -/
def savG (s : gI) (g : Int → Int) (i : Int) : Int → Int := zup (zup (zcpy (s.1 10) (zcpy (s.1 8) (zcpy (s.1 7) g 0 i 8) 0 (i + 8) 8) 0 (i + 16) 8) (i + 24) (s.1 6 4)) (i + 25) (s.1 6 5)
theorem c_save {r : Nat} {zn row : Int} (hr : r ≠ 6 ∧ r ≠ 7 ∧ r ≠ 8 ∧ r ≠ 10) (h0 : 0 ≤ row) (h1 : 26 * row + 26 ≤ zn) (h2 : zn ≤ 1000) : f90 N r zn row s = some (ic s r (savG s (s.1 r) (26 * row))) := by
  obtain ⟨r6, r7, r8, r10⟩ := hr
  unfold f90
  simp (disch := omega) only [ick_ok, iov_ok, iol_ok, idv_ok, ich_ok, icp_ok, i_o2_some, i_o1_some]
  simp only [icw_ic, iw_ic, ic_ic, ic_at, ic_ne (Ne.symm r6), ic_ne (Ne.symm r8), ic_ne (Ne.symm r10)]
  rw [show row * 26 = 26 * row by omega]
  rfl
theorem sav_7 {g : Int → Int} {i j : Int} (h0 : 0 ≤ j) (h1 : j < 8) : savG s g i (i + j) = s.1 7 j := by
  unfold savG
  rw [zup_ne (by omega), zup_ne (by omega), zcpy_out (by omega), zcpy_out (by omega), zcpy_in (by omega) (by omega), show 0 + (i + j - i) = j by omega]
theorem sav_8 {g : Int → Int} {i j : Int} (h0 : 0 ≤ j) (h1 : j < 8) : savG s g i (i + 8 + j) = s.1 8 j := by
  unfold savG
  rw [zup_ne (by omega), zup_ne (by omega), zcpy_out (by omega), zcpy_in (by omega) (by omega), show 0 + (i + 8 + j - (i + 8)) = j by omega]
theorem sav_10 {g : Int → Int} {i j : Int} (h0 : 0 ≤ j) (h1 : j < 8) : savG s g i (i + 16 + j) = s.1 10 j := by
  unfold savG
  rw [zup_ne (by omega), zup_ne (by omega), zcpy_in (by omega) (by omega), show 0 + (i + 16 + j - (i + 16)) = j by omega]
theorem sav_24 {g : Int → Int} {i : Int} : savG s g i (i + 24) = s.1 6 4 := by
  unfold savG
  rw [zup_ne (by omega), zup_same]
theorem sav_25 {g : Int → Int} {i : Int} : savG s g i (i + 25) = s.1 6 5 := by
  unfold savG
  rw [zup_same]
theorem sav_out {g : Int → Int} {i j : Int} (h : j < i ∨ i + 26 ≤ j) : savG s g i j = g j := by
  unfold savG
  rw [zup_ne (by omega), zup_ne (by omega), zcpy_out (by omega), zcpy_out (by omega), zcpy_out (by omega)]
/-- behind remember -/
def remS (s : gI) : gI := ic (ic s 42 (savG s (s.1 42) (26 * s.1 41 3))) 41 (zup (zup (s.1 41) 3 ((s.1 41 3 + 1) % 16)) 4 (if s.1 41 4 < 16 then s.1 41 4 + 1 else 16))
theorem c_remember (h3 : 0 ≤ s.1 41 3 ∧ s.1 41 3 < 16) (h4 : 0 ≤ s.1 41 4 ∧ s.1 41 4 ≤ 16) : f42 N s = some (remS s) := by
  unfold f42
  rw [c_save (by decide) h3.1 (by omega) (by decide), i_o1_some]
  simp only [ic_ne (show (41 : Nat) ≠ 42 by decide)]
  rw [iov_ok (by omega) (by omega), idv_ok (by omega) (by decide), iw_ic, ic_at, ic_ne (by decide), zup_ne (by decide), iov_ok (by omega) (by omega), iw_ic, ic_at, ic_ic]
  have e : (if s.1 41 4 + 1 < 16 then s.1 41 4 + 1 else 16) = (if s.1 41 4 < 16 then s.1 41 4 + 1 else 16) := by
    split <;> split <;> omega
  rw [e]
  rfl
theorem c_fill_lp {r : Nat} {zn x : Int} (hz : zn ≤ 100000) : ∀ (m fuel : Nat) (j : Int) (F : Int → Int), 0 ≤ j → j + m = zn → m < fuel → (∀ c, 0 ≤ c → c < j → F c = x) → ∃ G, f321_at5 N r zn fuel x j zn (ic s r F) = some (ic s r G) ∧ (∀ c, 0 ≤ c → c < zn → G c = x) ∧ ∀ c, (c < 0 ∨ zn ≤ c) → G c = F c := by
  intro m
  induction m with
  | zero =>
    intro fuel j F h0 h hf hF
    obtain ⟨fuel, rfl⟩ : ∃ g, fuel = g + 1 := ⟨fuel - 1, by omega⟩
    refine ⟨F, ?_, fun c c0 c1 => hF c c0 (by omega), fun _ _ => rfl⟩
    unfold f321_at5
    rw [if_pos (by omega)]
  | succ m ih =>
    intro fuel j F h0 h hf hF
    obtain ⟨fuel, rfl⟩ : ∃ g, fuel = g + 1 := ⟨fuel - 1, by omega⟩
    obtain ⟨G, g1, g2, g3⟩ := ih fuel (j + 1) (zup F j x) (by omega) (by omega) (by omega) (fun c c0 c1 => by
      by_cases hc : c = j
      · subst hc; exact zup_same _ _ _
      · rw [zup_ne hc]; exact hF c c0 (by omega))
    refine ⟨G, ?_, g2, fun c hc => ?_⟩
    · unfold f321_at5
      rw [if_neg (by omega), ick_ok h0 (by omega), iw_ic, ic_at, ic_ic, iov_ok (by omega) (by omega)]
      exact g1
    · rw [g3 c hc, zup_ne (by omega)]
theorem c_fill {r : Nat} {zn x : Int} (hN : 5000 ≤ N) (h0 : 0 ≤ zn) (h1 : zn ≤ 4000) : ∃ G, f321 N r zn x s = some (ic s r G) ∧ (∀ c, 0 ≤ c → c < zn → G c = x) ∧ ∀ c, (c < 0 ∨ zn ≤ c) → G c = s.1 r c := by
  obtain ⟨G, g1, g2, g3⟩ := c_fill_lp (N := N) (s := s) (r := r) (zn := zn) (x := x) (by omega) zn.toNat N 0 (s.1 r) (by omega) (by omega) (by omega) (fun c c0 c1 => by omega)
  refine ⟨G, ?_, g2, g3⟩
  unfold f321
  rw [iov_ok (by omega) (by omega)]
  rw [ic_self] at g1
  exact g1
theorem occ2_ext {p : Int → Int} {c : Int} {n : Nat} : ∀ m : Nat, n ≤ m → (∀ j : Nat, n ≤ j → j < m → co (p j) ≠ c) → occ2 p c m = occ2 p c n
  | 0, h, _ => by rw [show n = 0 by omega]
  | m + 1, h, hj => by
    by_cases e : n = m + 1
    · rw [e]
    · have ih := occ2_ext (p := p) (c := c) m (by omega) (fun j h0 h1 => hj j h0 (by omega))
      have e2 : occ2 p c (m + 1) = if co (p m) = c then (m : Int) else occ2 p c m := rfl
      rw [e2, if_neg (hj m (by omega) (by omega)), ih]
/-- who is where, found anew -/
theorem c_who_lp {r : Nat} {zn : Int} {p : Int → Int} (hp : s.1 7 = p) (hr : ∀ j : Nat, j < 8 → 0 ≤ p j ∧ p j < 192) : ∀ (m i fuel : Nat) (W : Int → Int), i + m = 8 → m < fuel → (∀ c, 0 ≤ c → c < 64 → W c = occ2 p c i) →
    ∃ G, f91_at63 N r zn fuel i (ic s 9 W) = some (ic s 9 G) ∧ (∀ c, 0 ≤ c → c < 64 → G c = occ2 p c 8) ∧ ∀ c, (c < 0 ∨ 64 ≤ c) → G c = W c := by
  intro m
  induction m with
  | zero =>
    intro i fuel W h hf hW
    obtain ⟨fuel, rfl⟩ : ∃ g, fuel = g + 1 := ⟨fuel - 1, by omega⟩
    refine ⟨W, ?_, fun c c0 c1 => by rw [hW c c0 c1, show i = 8 by omega], fun _ _ => rfl⟩
    unfold f91_at63
    rw [if_pos (by omega)]
  | succ m ih =>
    intro i fuel W h hf hW
    obtain ⟨fuel, rfl⟩ : ∃ g, fuel = g + 1 := ⟨fuel - 1, by omega⟩
    obtain ⟨p0, p1⟩ := hr i (by omega)
    have e1 : ((i : Int) + 1) = ((i + 1 : Nat) : Int) := by omega
    have rc := co_rg p0 p1
    unfold f91_at63
    rw [if_neg (by omega), ick_ok (by omega) (by omega), ic_ne (by decide), hp, c_cellOf p0 p1, i_o2_some]
    have e2 : ∀ c, occ2 p c (i + 1) = if co (p i) = c then (i : Int) else occ2 p c i := fun c => rfl
    by_cases hc : co (p i) = -1
    · obtain ⟨G, g1, g2, g3⟩ := ih (i + 1) fuel W (by omega) (by omega) (fun c c0 c1 => by rw [e2, if_neg (by omega)]; exact hW c c0 c1)
      refine ⟨G, ?_, g2, g3⟩
      rw [if_pos hc, iov_ok (by omega) (by omega), e1]
      exact g1
    · obtain ⟨G, g1, g2, g3⟩ := ih (i + 1) fuel (zup W (co (p i)) i) (by omega) (by omega) (fun c c0 c1 => by
        rw [e2]
        by_cases hcc : co (p i) = c
        · rw [if_pos hcc, ← hcc, zup_same]
        · rw [if_neg hcc, zup_ne (fun q => hcc q.symm)]; exact hW c c0 c1)
      refine ⟨G, ?_, g2, fun c hc2 => by rw [g3 c hc2, zup_ne (by omega)]⟩
      rw [if_neg hc, ick_ok (by omega) (by omega), iw_ic, ic_at, ic_ic, iov_ok (by omega) (by omega), e1]
      exact g1
/-- behind a load: places, throwers, day, paid are the row's, who is where is theirs -/
theorem c_load {r : Nat} {zn row : Int} (hN : 5000 ≤ N) (hr : r ≠ 6 ∧ r ≠ 7 ∧ r ≠ 8 ∧ r ≠ 9) (h0 : 0 ≤ row) (h1 : 26 * row + 26 ≤ zn) (h2 : zn ≤ 1000) (hp : ∀ j : Nat, j < 8 → 0 ≤ s.1 r (26 * row + j) ∧ s.1 r (26 * row + j) < 192) :
    ∃ v, f91 N r zn row s = some v ∧ (∀ a : Nat, a ≠ 6 → a ≠ 7 → a ≠ 8 → a ≠ 9 → v.1 a = s.1 a) ∧ v.2 = s.2 ∧ (∀ j, 0 ≤ j → j < 8 → v.1 7 j = s.1 r (26 * row + j)) ∧ (∀ j, (j < 0 ∨ 8 ≤ j) → v.1 7 j = s.1 7 j) ∧ (∀ j, 0 ≤ j → j < 8 → v.1 8 j = s.1 r (26 * row + 8 + j)) ∧
      v.1 6 4 = s.1 r (26 * row + 24) ∧ v.1 6 5 = s.1 r (26 * row + 25) ∧ (∀ c, 0 ≤ c → c < 64 → v.1 9 c = occ2 (v.1 7) c 8) ∧ ∀ c, (c < 0 ∨ 64 ≤ c) → v.1 9 c = s.1 9 c := by
  obtain ⟨r6, r7, r8, r9⟩ := hr
  have e26 : row * 26 = 26 * row := by omega
  unfold f91
  simp (disch := omega) only [ick_ok, iov_ok, iol_ok, idv_ok, ich_ok, icp_ok, i_o2_some, i_o1_some]
  rw [e26]
  simp only [icw_ic, iw_ic, ic_ic, ic_at, ic_ne r6, ic_ne r7, ic_ne r8, ic_ne (show (8 : Nat) ≠ 7 by decide), ic_ne (show (6 : Nat) ≠ 8 by decide), ic_ne (show (6 : Nat) ≠ 7 by decide)]
  generalize hP : zcpy (s.1 r) (s.1 7) (26 * row) 0 8 = P
  generalize hT : zcpy (s.1 r) (s.1 8) (26 * row + 8) 0 8 = T
  generalize hD : zup (zup (s.1 6) 4 (s.1 r (26 * row + 24))) 5 (s.1 r (26 * row + 25)) = D
  have hPj : ∀ j, 0 ≤ j → j < 8 → P j = s.1 r (26 * row + j) := fun j j0 j1 => by
    rw [← hP, zcpy_in (by omega) (by omega), show j - 0 = j by omega]
  obtain ⟨F, f1, f2, f3⟩ := c_fill (N := N) (s := ic (ic (ic s 7 P) 8 T) 6 D) (r := 9) (zn := 64) (x := -1) hN (by decide) (by decide)
  have e9 : (ic (ic (ic s 7 P) 8 T) 6 D).1 9 = s.1 9 := by rw [ic_ne (by decide), ic_ne (by decide), ic_ne (by decide)]
  have e7 : (ic (ic (ic s 7 P) 8 T) 6 D).1 7 = P := by rw [ic_ne (by decide), ic_ne (by decide), ic_at]
  obtain ⟨G, g1, g2, g3⟩ := c_who_lp (N := N) (s := ic (ic (ic s 7 P) 8 T) 6 D) (r := r) (zn := zn) (p := P) e7 (fun j hj => by rw [hPj j (by omega) (by omega)]; exact hp j hj) 8 0 N F (by decide) (by omega) (fun c c0 c1 => by rw [f2 c c0 c1]; rfl)
  refine ⟨ic (ic (ic (ic s 7 P) 8 T) 6 D) 9 G, ?_, ?_, rfl, ?_, ?_, ?_, ?_, ?_, ?_, ?_⟩
  · rw [f1, i_o1_some]
    exact g1
  · intro a a6 a7 a8 a9
    rw [ic_ne a9, ic_ne a6, ic_ne a8, ic_ne a7]
  · intro j j0 j1
    rw [ic_ne (by decide), e7]
    exact hPj j j0 j1
  · intro j hj
    rw [ic_ne (by decide), e7, ← hP, zcpy_out (by omega)]
  · intro j j0 j1
    rw [ic_ne (by decide), ic_ne (by decide), ic_at, ← hT, zcpy_in (by omega) (by omega), show j - 0 = j by omega]
  · rw [ic_ne (by decide), ic_at, ← hD, zup_ne (by decide), zup_same]
  · rw [ic_ne (by decide), ic_at, ← hD, zup_same]
  · intro c c0 c1
    rw [ic_at, ic_ne (by decide), e7]
    exact g2 c c0 c1
  · intro c hc
    rw [ic_at, g3 c hc, f3 c hc, e9]
/-- the reference keeps: main state behind the last row of undo, the oldest row gone where all are in use -/
theorem m_shift_lp (hN : 5000 ≤ N) : ∀ (m fuel : Nat) (j : Int) (F : Int → Int), 1 ≤ j → j + m = 16 → m < fuel → s.1 63 23 = 16 →
    ∃ G, f217_at11 N fuel j (ic s 78 F) = f217_at53 N (iw (ic s 78 G) 63 23 15) ∧ (∀ i c, j - 1 ≤ i → i < 15 → 0 ≤ c → c < 18 → G (28 * (5 + i) + c) = F (28 * (5 + (i + 1)) + c)) ∧ (∀ x, (x < 28 * (5 + (j - 1)) ∨ 560 ≤ x) → G x = F x) := by
  intro m
  induction m with
  | zero =>
    intro fuel j F h1 h hf h16
    obtain ⟨fuel, rfl⟩ : ∃ g, fuel = g + 1 := ⟨fuel - 1, by omega⟩
    refine ⟨F, ?_, fun i c i0 i1 => by omega, fun _ _ => rfl⟩
    unfold f217_at11
    rw [if_pos (by omega), ic_ne (by decide), h16]
    rfl
  | succ m ih =>
    intro fuel j F h1 h hf h16
    obtain ⟨fuel, rfl⟩ : ∃ g, fuel = g + 1 := ⟨fuel - 1, by omega⟩
    obtain ⟨G, g1, g2, g3⟩ := ih fuel (j + 1) (zcpy F F (28 * (5 + j)) (28 * (5 + j - 1)) 18) (by omega) (by omega) (by omega) h16
    refine ⟨G, ?_, ?_, ?_⟩
    · unfold f217_at11
      rw [if_neg (by omega)]
      simp (disch := omega) only [ick_ok, iov_ok, iol_ok, idv_ok, ich_ok, icp_ok, i_o2_some, i_o1_some]
      rw [m_copies hN (by omega) (by omega) (by decide) (by omega) (by omega) (by omega), i_o1_some, ic_at, ic_ic]
      exact g1
    · intro i c i0 i1 c0 c1
      by_cases hi : i = j - 1
      · subst hi
        rw [g3 _ (by omega), zcpy_in (by omega) (by omega)]
        congr 1; omega
      · rw [g2 i c (by omega) i1 c0 c1, zcpy_out (by omega)]
    · intro x hx
      rw [g3 x (by omega), zcpy_out (by omega)]
theorem m_keeps (hN : 5000 ≤ N) (h0 : 0 ≤ s.1 63 23 ∧ s.1 63 23 ≤ 16) :
    ∃ G, f217 N s = some (iw (ic s 78 G) 63 23 (if s.1 63 23 < 16 then s.1 63 23 + 1 else 16)) ∧ (∀ x, (x < 140 ∨ 588 ≤ x) → G x = s.1 78 x) ∧
      (∀ i c, 0 ≤ i → i < (if s.1 63 23 < 16 then s.1 63 23 else 15) → 0 ≤ c → c < 18 → G (28 * (5 + i) + c) = s.1 78 (28 * (5 + (if s.1 63 23 < 16 then i else i + 1)) + c)) ∧
      (∀ c, 0 ≤ c → c < 18 → G (28 * (5 + (if s.1 63 23 < 16 then s.1 63 23 else 15)) + c) = s.1 78 c) := by
  unfold f217
  by_cases h : s.1 63 23 = 16
  · have n16 : ¬ s.1 63 23 < 16 := by omega
    simp only [if_neg n16]
    rw [if_pos h]
    obtain ⟨G, g1, g2, g3⟩ := m_shift_lp (N := N) (s := s) hN 15 N 1 (s.1 78) (by decide) (by decide) (by omega) h
    rw [ic_self] at g1
    refine ⟨zcpy G G 0 (28 * (5 + 15)) 18, ?_, ?_, ?_, ?_⟩
    · rw [g1]
      unfold f217_at53
      rw [iw_at, zup_same, iov_ok (by decide) (by decide), iov_ok (by decide) (by decide), m_copies hN (by decide) (by decide) (by decide) (by decide) (by decide) (by decide), i_o1_some]
      simp only [iw_ne (show (78 : Nat) ≠ 63 by decide), ic_at, iw_ic, ic_ne (show (63 : Nat) ≠ 78 by decide), zup_same]
      rw [iov_ok (by decide) (by decide), ic_comm (by decide : (63 : Nat) ≠ 78), ic_ic, ic_ic, zup_zup, ic_ne (show (78 : Nat) ≠ 63 by decide), ic_at]
      rfl
    · intro x hx
      rw [zcpy_out (by omega), g3 x (by omega)]
    · intro i c i0 i1 c0 c1
      rw [zcpy_out (by omega), g2 i c (by omega) i1 c0 c1]
    · intro c c0 c1
      rw [zcpy_in (by omega) (by omega), g3 _ (by omega), show 0 + (28 * (5 + 15) + c - 28 * (5 + 15)) = c by omega]
  · have n16 : s.1 63 23 < 16 := by omega
    simp only [if_pos n16]
    rw [if_neg h]
    refine ⟨zcpy (s.1 78) (s.1 78) 0 (28 * (5 + s.1 63 23)) 18, ?_, ?_, ?_, ?_⟩
    · unfold f217_at53
      rw [iov_ok (by omega) (by omega), iov_ok (by omega) (by omega), m_copies hN (by decide) (by omega) (by decide) (by decide) (by omega) (by omega), i_o1_some, ic_ne (by decide), iov_ok (by omega) (by omega)]
    · intro x hx
      rw [zcpy_out (by omega)]
    · intro i c i0 i1 c0 c1
      rw [zcpy_out (by omega)]
    · intro c c0 c1
      rw [zcpy_in (by omega) (by omega), show 0 + (28 * (5 + s.1 63 23) + c - 28 * (5 + s.1 63 23)) = c by omega]
end PAST

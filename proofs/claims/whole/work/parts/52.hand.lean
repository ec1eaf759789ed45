/-! What is done by hand: a row of the past more, a new scene. -/
section HAND
variable {N : Nat} {s t : gI} {k : Int}
/-- the reference's rows behind keeps -/
def kepG (s : gI) (G : Int → Int) : Prop := (∀ x, (x < 140 ∨ 588 ≤ x) → G x = s.1 78 x) ∧
      (∀ i c, 0 ≤ i → i < (if s.1 63 23 < 16 then s.1 63 23 else 15) → 0 ≤ c → c < 18 → G (28 * (5 + i) + c) = s.1 78 (28 * (5 + (if s.1 63 23 < 16 then i else i + 1)) + c)) ∧
      (∀ c, 0 ≤ c → c < 18 → G (28 * (5 + (if s.1 63 23 < 16 then s.1 63 23 else 15)) + c) = s.1 78 c)
def stat (s t : gI) : Prop := (∀ a : Nat, (a = 2 ∨ a = 10 ∨ (12 ≤ a ∧ a ≤ 26) ∨ a = 28 ∨ a = 29 ∨ (44 ≤ a ∧ a ≤ 62) ∨ a = 43 ∨ a = 64 ∨ (69 ≤ a ∧ a ≤ 73) ∨ a = 79) → t.1 a = s.1 a) ∧ t.1 1 1 = s.1 1 1 ∧ t.1 63 2 = s.1 63 2 ∧ t.2 68 = s.2 68
/-- a sound scene told by class and reference -/
def scnV (k : Int) (s t : gI) : Prop := VV (cQ s) (t.1 7) ∧ scOK t ∧ (∀ j, 0 ≤ j → j < 8 → t.1 78 j = t.1 7 j) ∧ (∀ j, 0 ≤ j → j < 8 → t.1 78 (8 + j) = t.1 8 j) ∧ t.1 78 16 = t.1 6 4 ∧ t.1 78 17 = t.1 6 5 ∧ (∀ j, s.1 15 3 ≤ j → j < 8 → t.1 7 j = 64) ∧
  (0 ≤ t.1 6 4 ∧ t.1 6 4 ≤ 100 * k) ∧ (0 ≤ t.1 6 5 ∧ t.1 6 5 ≤ 19800 * k)
theorem stat_Q (h : stat s t) : cQ t = cQ s := by
  unfold cQ
  rw [h.1 12 (by omega), h.1 13 (by omega), h.1 15 (by omega), h.1 18 (by omega)]
theorem stat_mQ (h : stat s t) : mQ t = mQ s := by
  unfold mQ
  rw [h.1 69 (by omega), h.1 71 (by omega)]
/-- the parts of the invariant that a new scene leaves alone -/
theorem INV_scene {k2 : Int} (hI : INV k s) (h : stat s t) (hv : scnV k2 s t) (hseen : ∀ x, 0 ≤ x → x < 8 → t.1 78 (18 + x) = t.1 10 x) (h5 : I5 k2 t) : INV k2 t := by
  obtain ⟨⟨⟨hco, hsc, hV, har, hwo⟩, hmo, hq, h8, r5⟩, i2, i3, i4, i5, i6, i7, l0, l1⟩ := hI
  obtain ⟨v1, v2, v3, v4, v5, v6, v7, v8, v9⟩ := hv
  have e2 := h.1 2 (by omega)
  have e10 := h.1 10 (by omega)
  have e12 := h.1 12 (by omega)
  have e13 := h.1 13 (by omega)
  have e14 := h.1 14 (by omega)
  have e15 := h.1 15 (by omega)
  have e16 := h.1 16 (by omega)
  have e18 := h.1 18 (by omega)
  have e19 := h.1 19 (by omega)
  have e20 := h.1 20 (by omega)
  have e22 := h.1 22 (by omega)
  have e23 := h.1 23 (by omega)
  have e24 := h.1 24 (by omega)
  have e25 := h.1 25 (by omega)
  have e26 := h.1 26 (by omega)
  have e28 := h.1 28 (by omega)
  have e29 := h.1 29 (by omega)
  have e64 := h.1 64 (by omega)
  have e69 := h.1 69 (by omega)
  have e70 := h.1 70 (by omega)
  have e71 := h.1 71 (by omega)
  have e72 := h.1 72 (by omega)
  have e73 := h.1 73 (by omega)
  refine ⟨⟨⟨?_, v2, ?_, ?_, ?_⟩, ?_, ?_, ?_, ?_⟩, ?_, ?_, ?_, h5, ?_, ?_, ?_, ?_⟩
  · unfold cOK; rw [e12, e13, e15]; exact hco
  · rw [stat_Q h]; exact v1
  · rw [e16]; exact har
  · unfold cWo; rw [e20]; exact hwo
  · unfold mOK; rw [e69, e71]; exact hmo
  · rw [stat_Q h, stat_mQ h]; exact hq
  · intro j h0 h1
    rw [sh_at, Int.zero_add]
    exact v3 j h0 h1
  · unfold mWo; rw [e71, e15, e16, e20]; exact r5
  · unfold I2
    refine ⟨v4, v5, v6, hseen, ?_, by rw [e15]; exact v7, v8, v9⟩
    unfold seenV
    rw [e12, e10]
    exact i2.2.2.2.2.1
  · unfold I3; rw [e15, e18, e19, e22, e23, e24, e71]; exact i3
  · unfold I4; rw [e14]; exact i4
  · unfold I6; rw [e2, e64, h.2.1, h.2.2.1]; exact i6
  · unfold I7 spr; rw [e70, h.2.2.2, h.1 45 (by omega), h.1 46 (by omega), h.1 48 (by omega), h.1 50 (by omega), h.1 52 (by omega)]; exact i7
  · unfold lawR; rw [e71, e72, e73, e25, show (25 + 1 : Nat) = 26 from rfl, e26]; exact l0
  · unfold lawR; rw [e71, e72, e73, e28, show (28 + 1 : Nat) = 29 from rfl, e29]; exact l1
theorem stat_rowV (h : stat s t) {c : Nat} {r : Int} (hr : rowV k s c r) (he : ∀ j, 0 ≤ j → j < 26 → t.1 c (26 * r + j) = s.1 c (26 * r + j)) (hc : cOK s) : rowV k t c r := by
  obtain ⟨a1, a2, a3, a4⟩ := hr
  have e15 := h.1 15 (by omega)
  have hn := cW_n hc
  unfold rowV
  rw [stat_Q h, e15, he 24 (by decide) (by decide), he 25 (by decide) (by decide)]
  refine ⟨?_, ?_, a3, a4⟩
  · intro j hj
    have e : ∀ i : Nat, i < (cQ s).2.2.2.1 → sh (26 * r) (t.1 c) i = sh (26 * r) (s.1 c) i := fun i hi => by
      rw [sh_at, sh_at]
      exact he i (by omega) (by omega)
    rw [e j hj]
    exact okq_mono (fun i hi _ => e i hi) (a1 j hj)
  · intro j h0 h1
    have := hc.2.2.1
    rw [he j (by omega) (by omega)]
    exact a2 j h0 h1
theorem INV_hand (hI : INV k s) (h : stat s t) {G : Int → Int} (hG : kepG s G) (h42 : t.1 42 = (remS s).1 42) (h41 : t.1 41 = (remS s).1 41) (h63 : t.1 63 23 = (if s.1 63 23 < 16 then s.1 63 23 + 1 else 16))
    (h78 : ∀ j, 18 ≤ j → j < 588 → t.1 78 j = G j) (hk : 0 ≤ k) (hv : scnV (k + 1) s t) : INV (k + 1) t := by
  obtain ⟨g1, g2, g3⟩ := hG
  have hc := hI.1.1.1
  have i2 := hI.2.1
  obtain ⟨u1, u2, u3, u4, u5, u6⟩ := hI.2.2.2.2.1
  have r42 : (remS s).1 42 = savG s (s.1 42) (26 * s.1 41 3) := by
    unfold remS
    rw [ic_ne (by decide), ic_at]
  have r41 : (remS s).1 41 = zup (zup (s.1 41) 3 ((s.1 41 3 + 1) % 16)) 4 (if s.1 41 4 < 16 then s.1 41 4 + 1 else 16) := ic_at
  rw [r42] at h42
  rw [r41] at h41
  have f3 : t.1 41 3 = (s.1 41 3 + 1) % 16 := by rw [h41, zup_ne (by decide), zup_same]
  have f4 : t.1 41 4 = (if s.1 41 4 < 16 then s.1 41 4 + 1 else 16) := by rw [h41, zup_same]
  have f2 : t.1 41 2 = s.1 41 2 := by rw [h41, zup_ne (by decide), zup_ne (by decide)]
  refine INV_scene hI h hv ?_ ?_
  · intro x h0 h1
    rw [h78 _ (by omega) (by omega), g1 _ (by omega), h.1 10 (by omega)]
    exact i2.2.2.2.1 x h0 h1
  rw [u1] at h63 g2 g3
  -- the row that is new
  have newE : ∀ b : Int, (∀ c, 0 ≤ c → c < 18 → t.1 78 (b + c) = s.1 78 c) → rowE t 42 (s.1 41 3) b := by
    intro b hb
    refine ⟨fun j j0 j1 => ?_, ?_, ?_⟩
    · rw [hb j j0 (by omega), h42]
      by_cases hj : j < 8
      · rw [sav_7 j0 hj]
        have := hI.1.2.2.2.1 j j0 hj
        rwa [sh_at, Int.zero_add] at this
      · have e := sav_8 (s := s) (g := s.1 42) (i := 26 * s.1 41 3) (j := j - 8) (by omega) (by omega)
        rw [show 26 * s.1 41 3 + 8 + (j - 8) = 26 * s.1 41 3 + j by omega] at e
        have e2 := i2.1 (j - 8) (by omega) (by omega)
        rw [show 8 + (j - 8) = j by omega] at e2
        rw [e, e2]
    · rw [hb 16 (by decide) (by decide), h42, sav_24]; exact i2.2.1
    · rw [hb 17 (by decide) (by decide), h42, sav_25]; exact i2.2.2.1
  have newV : rowV (k + 1) t 42 (s.1 41 3) := by
    unfold rowV
    rw [stat_Q h, h.1 15 (by omega), h42, sav_24, sav_25]
    have e : ∀ i : Nat, i < (cQ s).2.2.2.1 → sh (26 * s.1 41 3) (savG s (s.1 42) (26 * s.1 41 3)) i = s.1 7 i := fun i hi => by
      have hn := cW_n hc
      rw [sh_at, sav_7 (by omega) (by omega)]
    refine ⟨fun j hj => ?_, fun j j0 j1 => ?_, ⟨i2.2.2.2.2.2.2.1.1, by have := i2.2.2.2.2.2.2.1.2; omega⟩, ⟨i2.2.2.2.2.2.2.2.1, by have := i2.2.2.2.2.2.2.2.2; omega⟩⟩
    · rw [e j hj]
      exact okq_mono (fun i hi _ => e i hi) (hI.1.1.2.2.1 j hj)
    · have := hc.2.2.1
      rw [sav_7 (by omega) j1]
      exact i2.2.2.2.2.2.1 j j0 j1
  -- the rows that were there
  have oldE : ∀ (r b b2 : Int), 0 ≤ r → r < 16 → r ≠ s.1 41 3 → (∀ c, 0 ≤ c → c < 18 → t.1 78 (b + c) = s.1 78 (b2 + c)) → rowE s 42 r b2 → rowE t 42 r b := by
    intro r b b2 r0 r1 hr hb he
    refine ⟨fun j j0 j1 => ?_, ?_, ?_⟩
    · rw [hb j j0 (by omega), h42, sav_out (by omega)]; exact he.1 j j0 j1
    · rw [hb 16 (by decide) (by decide), h42, sav_out (by omega)]; exact he.2.1
    · rw [hb 17 (by decide) (by decide), h42, sav_out (by omega)]; exact he.2.2
  have oldV : ∀ r : Int, 0 ≤ r → r < 16 → r ≠ s.1 41 3 → rowV k s 42 r → rowV (k + 1) t 42 r := by
    intro r r0 r1 hr hv
    exact rowV_mono (by omega) (stat_rowV h hv (fun j j0 j1 => by rw [h42, sav_out (by omega)]) hc)
  refine ⟨?_, ?_, ?_, ?_, ?_, ?_⟩
  · rw [h63, f4]
  · rw [f4]; split <;> omega
  · rw [f3]; omega
  · intro i i0 i1
    rw [f4] at i1
    rw [f3, f4]
    by_cases hs : s.1 41 4 < 16
    · simp only [if_pos hs] at i1 g2 g3 ⊢
      by_cases hi : i = s.1 41 4
      · subst hi
        rw [show ((s.1 41 3 + 1) % 16 + 16 - (s.1 41 4 + 1) + s.1 41 4) % 16 = s.1 41 3 by omega]
        exact ⟨newE _ (fun c c0 c1 => by rw [h78 _ (by omega) (by omega)]; exact g3 c c0 c1), newV⟩
      · rw [show ((s.1 41 3 + 1) % 16 + 16 - (s.1 41 4 + 1) + i) % 16 = (s.1 41 3 + 16 - s.1 41 4 + i) % 16 by omega]
        obtain ⟨a, b⟩ := u4 i i0 (by omega)
        exact ⟨oldE _ _ _ (by omega) (by omega) (by omega) (fun c c0 c1 => by rw [h78 _ (by omega) (by omega)]; exact g2 i c i0 (by omega) c0 c1) a, oldV _ (by omega) (by omega) (by omega) b⟩
    · simp only [if_neg hs] at i1 g2 g3 ⊢
      by_cases hi : i = 15
      · subst hi
        rw [show ((s.1 41 3 + 1) % 16 + 16 - 16 + 15) % 16 = s.1 41 3 by omega]
        exact ⟨newE _ (fun c c0 c1 => by rw [h78 _ (by omega) (by omega)]; exact g3 c c0 c1), newV⟩
      · rw [show ((s.1 41 3 + 1) % 16 + 16 - 16 + i) % 16 = (s.1 41 3 + 16 - s.1 41 4 + (i + 1)) % 16 by omega]
        obtain ⟨a, b⟩ := u4 (i + 1) (by omega) (by omega)
        exact ⟨oldE _ _ _ (by omega) (by omega) (by omega) (fun c c0 c1 => by rw [h78 _ (by omega) (by omega)]; exact g2 i c i0 (by omega) c0 c1) a, oldV _ (by omega) (by omega) (by omega) b⟩
  · rw [f2]; exact u5
  · intro m m0 m1
    rw [f2, h.1 79 (by omega)]
    obtain ⟨a, b, c⟩ := u6 m m0 m1
    refine ⟨a, b, fun hm => ?_⟩
    obtain ⟨d, e, f, g⟩ := c hm
    have e43 := h.1 43 (by omega)
    have m78 : ∀ x, 0 ≤ x → x < 28 → t.1 78 (28 * (1 + m) + x) = s.1 78 (28 * (1 + m) + x) := fun x x0 x1 => by rw [h78 _ (by omega) (by omega), g1 _ (by omega)]
    refine ⟨⟨fun j j0 j1 => ?_, ?_, ?_⟩, rowV_mono (by omega) (stat_rowV h e (fun j _ _ => by rw [e43]) hc), fun x x0 x1 => ?_, ?_⟩
    · rw [m78 j j0 (by omega), e43]; exact d.1 j j0 j1
    · rw [m78 16 (by decide) (by decide), e43]; exact d.2.1
    · rw [m78 17 (by decide) (by decide), e43]; exact d.2.2
    · have := m78 (18 + x) (by omega) (by omega)
      rw [← Int.add_assoc] at this
      rw [this, e43]
      exact f x x0 x1
    · unfold seenV at g ⊢
      rw [h.1 12 (by omega), e43]
      exact g
end HAND

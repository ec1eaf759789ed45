/-! What stands between two calls: class and reference tell one roof, one yard, one scene, one past, one tape. -/
def rowV (k : Int) (s : gI) (c : Nat) (r : Int) : Prop := VV (cQ s) (sh (26 * r) (s.1 c)) ∧ (∀ j, s.1 15 3 ≤ j → j < 8 → s.1 c (26 * r + j) = 64) ∧ (0 ≤ s.1 c (26 * r + 24) ∧ s.1 c (26 * r + 24) ≤ 100 * k) ∧ (0 ≤ s.1 c (26 * r + 25) ∧ s.1 c (26 * r + 25) ≤ 19800 * k)
/-- a row of the class' past and a state of the reference that tell the same, but what is SEEN -/
def rowE (s : gI) (c : Nat) (r b : Int) : Prop := (∀ j, 0 ≤ j → j < 16 → s.1 78 (b + j) = s.1 c (26 * r + j)) ∧ s.1 78 (b + 16) = s.1 c (26 * r + 24) ∧ s.1 78 (b + 17) = s.1 c (26 * r + 25)
def seenV (s : gI) (f : Int → Int) : Prop := (∀ x, 0 ≤ x → x < 8 → -2 ≤ f x ∧ f x ≤ 3) ∧ ∀ x, s.1 12 0 ≤ x → x < 8 → f x = -2
/-- the scene: who threw, the day, what is paid, what is SEEN -/
def I2 (k : Int) (s : gI) : Prop := (∀ j, 0 ≤ j → j < 8 → s.1 78 (8 + j) = s.1 8 j) ∧ s.1 78 16 = s.1 6 4 ∧ s.1 78 17 = s.1 6 5 ∧ (∀ x, 0 ≤ x → x < 8 → s.1 78 (18 + x) = s.1 10 x) ∧ seenV s (s.1 10) ∧
  (∀ j, s.1 15 3 ≤ j → j < 8 → s.1 7 j = 64) ∧ (0 ≤ s.1 6 4 ∧ s.1 6 4 ≤ 100 * k) ∧ (0 ≤ s.1 6 5 ∧ s.1 6 5 ≤ 19800 * k)
/-- the yard's other lines -/
def I3 (s : gI) : Prop := (∀ t, 0 ≤ t → t < 8 → 0 ≤ s.1 18 t ∧ s.1 18 t ≤ 3) ∧ (∀ t, 0 ≤ t → t < s.1 15 3 → s.1 71 (14 + 3 * t + 1) = s.1 19 t ∧ 0 ≤ s.1 19 t ∧ s.1 19 t < s.1 15 0) ∧
  s.1 71 2 = s.1 15 8 ∧ (0 ≤ s.1 15 8 ∧ s.1 15 8 ≤ 6) ∧ (∀ i, 0 ≤ i → i < s.1 15 8 → (0 ≤ s.1 71 (38 + 4 * i) ∧ s.1 71 (38 + 4 * i) ≤ 1) ∧ (0 ≤ s.1 71 (38 + 4 * i + 1) ∧ s.1 71 (38 + 4 * i + 1) ≤ 8) ∧
    s.1 22 i = (if s.1 71 (38 + 4 * i) = 0 then -(s.1 71 (38 + 4 * i + 1)) else s.1 71 (38 + 4 * i + 1)) ∧ s.1 71 (38 + 4 * i + 2) = s.1 23 i ∧ (1 ≤ s.1 23 i ∧ s.1 23 i ≤ 12) ∧ s.1 71 (38 + 4 * i + 3) = s.1 24 i ∧ (1 ≤ s.1 24 i ∧ s.1 24 i ≤ 99)) ∧
  s.1 71 3 = s.1 15 12 ∧ (-1 ≤ s.1 15 12 ∧ s.1 15 12 ≤ 12) ∧ s.1 71 4 = s.1 15 15 ∧ (-1 ≤ s.1 15 15 ∧ s.1 15 15 ≤ 8) ∧
  (0 ≤ s.1 15 15 → s.1 71 5 = s.1 15 13 ∧ (0 ≤ s.1 15 13 ∧ s.1 15 13 ≤ 7) ∧ s.1 71 6 = s.1 15 14 ∧ (0 ≤ s.1 15 14 ∧ s.1 15 14 ≤ 7)) ∧ s.1 71 7 = s.1 15 16 ∧ (0 ≤ s.1 15 16 ∧ s.1 15 16 ≤ 6)
def I4 (s : gI) : Prop := ∀ c, 0 ≤ c → c < 64 → s.1 14 c = -1
/-- what can be undone, the MARKS -/
def I5 (k : Int) (s : gI) : Prop := s.1 63 23 = s.1 41 4 ∧ (0 ≤ s.1 41 4 ∧ s.1 41 4 ≤ 16) ∧ (0 ≤ s.1 41 3 ∧ s.1 41 3 < 16) ∧
  (∀ i, 0 ≤ i → i < s.1 41 4 → rowE s 42 ((s.1 41 3 + 16 - s.1 41 4 + i) % 16) (28 * (5 + i)) ∧ rowV k s 42 ((s.1 41 3 + 16 - s.1 41 4 + i) % 16)) ∧
  (0 ≤ s.1 41 2 ∧ s.1 41 2 < 16) ∧ (∀ m, 0 ≤ m → m < 4 → (s.1 79 m = 0 ∨ s.1 79 m = 1) ∧ i_and (i_shr (s.1 41 2) m) 1 = s.1 79 m ∧
    (s.1 79 m = 1 → rowE s 43 m (28 * (1 + m)) ∧ rowV k s 43 m ∧ (∀ x, 0 ≤ x → x < 8 → s.1 78 (28 * (1 + m) + 18 + x) = s.1 43 (26 * m + 16 + x)) ∧ seenV s (sh (26 * m + 16) (s.1 43))))
def I6 (s : gI) : Prop := s.1 63 2 = s.1 1 1 ∧ (0 ≤ s.1 1 1 ∧ s.1 1 1 ≤ 1000) ∧ ∀ j, 0 ≤ j → j < s.1 1 1 → s.1 64 j = s.1 2 j ∧ (s.1 2 j = 10 ∨ (32 ≤ s.1 2 j ∧ s.1 2 j ≤ 126))
def wordsT : List Int := [1119812451, 2048, 37901290, 561, 43890888, 973934, 614923, 34200674, 793, 37957098, 19371, 1612493656, 33989651, 11726208, 1396930541, 279910111, 103131, 973919, 16660382464, 36634562, 19741, 1891, 573, 629094, 41299405, 204925, 932850, 25220]
def lettersT : List Int := [102, 100, 117, 108, 114, 109, 103, 112, 99]
/-- the ROOF and the YARD that the next are read into -/
def spr (s : gI) : Prop := (∀ c, 0 ≤ c → c < 64 → s.1 46 c = -1 ∧ 0 ≤ s.1 45 c ∧ s.1 45 c ≤ 8) ∧ (∀ i, 0 ≤ i → i < 4 → 0 ≤ s.1 48 i ∧ s.1 48 i ≤ 10) ∧ ∀ t, 0 ≤ t → t < 8 → (0 ≤ s.1 50 t ∧ s.1 50 t ≤ 3) ∧ 0 ≤ s.1 52 t ∧ s.1 52 t ≤ 99
def I7 (s : gI) : Prop := (∀ j : Nat, j < 28 → s.2 68 j = wordsT.getD j 0) ∧ (∀ j : Nat, j < 9 → s.1 70 j = lettersT.getD j 0) ∧ spr s
/-- a code of the class' laws and one of the reference's -/
def codeR (c op arg : Int) : Prop := (0 ≤ c ∧ c ≤ 9999 ∧ op = 1 ∧ arg = c) ∨ (10000 ≤ c ∧ c ≤ 10002 ∧ op = 2 ∧ arg = c - 10000) ∨ (c = 10003 ∧ op = 3) ∨ (c = 10004 ∧ op = 9) ∨ (c = 10005 ∧ op = 10) ∨ (c = 10006 ∧ op = 7) ∨ (c = 10007 ∧ op = 8) ∨ (c = 10008 ∧ op = 4) ∨ (c = 10009 ∧ op = 5) ∨ (c = 10010 ∧ op = 6)
/-- how many numbers wait behind so many codes -/
def depC (f : Int → Int) : Nat → Int
  | 0 => 0
  | i + 1 => if f i < 10003 then depC f i + 1 else if f i = 10003 then depC f i else depC f i - 1
def wfC (f : Int → Int) (n : Nat) : Prop := (∀ i : Nat, i < n → (f i < 10003 → depC f i < 64) ∧ (f i = 10003 → 1 ≤ depC f i) ∧ (10003 < f i → 2 ≤ depC f i)) ∧ 1 ≤ depC f n
def lawR (s : gI) (w : Int) (lc : Nat) : Prop :=
  (s.1 71 (8 + w) = -1 ∧ s.1 lc 2 = 1 ∧ s.1 (lc + 1) 0 = (if w = 0 then 10000 else 1)) ∨
  (0 ≤ s.1 71 (8 + w) ∧ 0 ≤ s.1 lc 2 ∧ s.1 lc 2 ≤ 1000 ∧ s.1 71 (8 + w) + s.1 lc 2 < 1100 ∧ s.1 72 (s.1 71 (8 + w) + s.1 lc 2) = 0 ∧
    (∀ i, 0 ≤ i → i < s.1 lc 2 → codeR (s.1 (lc + 1) i) (s.1 72 (s.1 71 (8 + w) + i)) (s.1 73 (s.1 71 (8 + w) + i))) ∧ wfC (s.1 (lc + 1)) (s.1 lc 2).toNat)
def INV (k : Int) (s : gI) : Prop := RS s ∧ I2 k s ∧ I3 s ∧ I4 s ∧ I5 k s ∧ I6 s ∧ I7 s ∧ lawR s 0 25 ∧ lawR s 1 28
/-- states that tell the same to whoever asks next -/
def sameQ (s v : gI) : Prop := (∀ a : Nat, (a = 2 ∨ (6 ≤ a ∧ a ≤ 10) ∨ (12 ≤ a ∧ a ≤ 26) ∨ a = 28 ∨ a = 29 ∨ (44 ≤ a ∧ a ≤ 62) ∨ (41 ≤ a ∧ a ≤ 43) ∨ a = 64 ∨ (69 ≤ a ∧ a ≤ 73) ∨ a = 79) → v.1 a = s.1 a) ∧ v.1 1 1 = s.1 1 1 ∧ v.1 63 2 = s.1 63 2 ∧ v.1 63 23 = s.1 63 23 ∧ (∀ j, j < 588 → v.1 78 j = s.1 78 j) ∧ v.2 68 = s.2 68
section INVS
variable {s v u : gI} {k : Int}
theorem sameQ.rf : sameQ s s := ⟨fun _ _ => rfl, rfl, rfl, rfl, fun _ _ => rfl, rfl⟩
theorem sameQ.tr (h1 : sameQ s v) (h2 : sameQ v u) : sameQ s u :=
  ⟨fun a ha => (h2.1 a ha).trans (h1.1 a ha), h2.2.1.trans h1.2.1, h2.2.2.1.trans h1.2.2.1, h2.2.2.2.1.trans h1.2.2.2.1, fun j hj => (h2.2.2.2.2.1 j hj).trans (h1.2.2.2.2.1 j hj), h2.2.2.2.2.2.trans h1.2.2.2.2.2⟩
theorem sameQ_cQ (h : sameQ s v) : cQ v = cQ s := by
  unfold cQ
  rw [h.1 12 (by omega), h.1 13 (by omega), h.1 15 (by omega), h.1 18 (by omega)]
theorem sameQ_mQ (h : sameQ s v) : mQ v = mQ s := by
  unfold mQ
  rw [h.1 69 (by omega), h.1 71 (by omega)]
theorem sameQ_rowV (h : sameQ s v) {c : Nat} (hc : c = 42 ∨ c = 43) {r : Int} (hr : rowV k s c r) : rowV k v c r := by
  unfold rowV at hr ⊢
  rw [sameQ_cQ h, h.1 c (by omega), h.1 15 (by omega)]
  exact hr
theorem sameQ_rowE (h : sameQ s v) {c : Nat} (hc : c = 42 ∨ c = 43) {r b : Int} (hb : b ≤ 560) (hr : rowE s c r b) : rowE v c r b := by
  unfold rowE at hr ⊢
  rw [h.1 c (by omega), h.2.2.2.2.1 (b + 16) (by omega), h.2.2.2.2.1 (b + 17) (by omega)]
  exact ⟨fun j h0 h1 => by rw [h.2.2.2.2.1 (b + j) (by omega)]; exact hr.1 j h0 h1, hr.2⟩
theorem sameQ_seenV (h : sameQ s v) {f : Int → Int} (hf : seenV s f) : seenV v f := by
  unfold seenV at hf ⊢
  rw [h.1 12 (by omega)]
  exact hf
theorem sameQ_inv (h : sameQ s v) (hI : INV k s) : INV k v := by
  obtain ⟨⟨⟨hco, hsc, hV, har, hwo⟩, hmo, hq, h8, r5⟩, i2, i3, i4, i5, i6, i7, l0, l1⟩ := hI
  have e6 := h.1 6 (by omega)
  have e7 := h.1 7 (by omega)
  have e8 := h.1 8 (by omega)
  have e9 := h.1 9 (by omega)
  have e10 := h.1 10 (by omega)
  have e12 := h.1 12 (by omega)
  have e13 := h.1 13 (by omega)
  have e14 := h.1 14 (by omega)
  have e15 := h.1 15 (by omega)
  have e16 := h.1 16 (by omega)
  have e18 := h.1 18 (by omega)
  have e19 := h.1 19 (by omega)
  have e20 := h.1 20 (by omega)
  have e22 := h.1 22 (by omega)
  have e23 := h.1 23 (by omega)
  have e24 := h.1 24 (by omega)
  have e25 := h.1 25 (by omega)
  have e26 := h.1 26 (by omega)
  have e28 := h.1 28 (by omega)
  have e29 := h.1 29 (by omega)
  have e41 := h.1 41 (by omega)
  have e42 := h.1 42 (by omega)
  have e43 := h.1 43 (by omega)
  have e2 := h.1 2 (by omega)
  have e64 := h.1 64 (by omega)
  have e69 := h.1 69 (by omega)
  have e70 := h.1 70 (by omega)
  have e71 := h.1 71 (by omega)
  have e72 := h.1 72 (by omega)
  have e73 := h.1 73 (by omega)
  have e79 := h.1 79 (by omega)
  obtain ⟨-, q1, q2, q3, q4, q5⟩ := id h
  refine ⟨⟨⟨?_, ?_, ?_, ?_, ?_⟩, ?_, ?_, ?_, ?_⟩, ?_, ?_, ?_, ?_, ?_, ?_, ?_, ?_⟩
  · unfold cOK; rw [e12, e13, e15]; exact hco
  · unfold scOK; rw [e9, e7, e15]; exact hsc
  · rw [sameQ_cQ h, e7]; exact hV
  · rw [e16]; exact har
  · unfold cWo; rw [e20]; exact hwo
  · unfold mOK; rw [e69, e71]; exact hmo
  · rw [sameQ_cQ h, sameQ_mQ h]; exact hq
  · intro j h0 h1
    rw [sh_at, q4 (0 + j) (by omega), e7]
    exact h8 j h0 h1
  · unfold mWo; rw [e71, e15, e16, e20]; exact r5
  · unfold I2
    rw [e8, e6, e10, e7, e15, q4 16 (by decide), q4 17 (by decide)]
    exact ⟨fun j h0 h1 => by rw [q4 (8 + j) (by omega)]; exact i2.1 j h0 h1, i2.2.1, i2.2.2.1, fun x h0 h1 => by rw [q4 (18 + x) (by omega)]; exact i2.2.2.2.1 x h0 h1, sameQ_seenV h i2.2.2.2.2.1, i2.2.2.2.2.2⟩
  · unfold I3; rw [e15, e18, e19, e22, e23, e24, e71]; exact i3
  · unfold I4; rw [e14]; exact i4
  · unfold I5
    rw [e41, e43, e79, q3]
    refine ⟨i5.1, i5.2.1, i5.2.2.1, fun i h0 h1 => ?_, i5.2.2.2.2.1, fun m h0 h1 => ?_⟩
    · obtain ⟨a, b⟩ := i5.2.2.2.1 i h0 h1
      have := i5.2.1.2
      exact ⟨sameQ_rowE h (Or.inl rfl) (by omega) a, sameQ_rowV h (Or.inl rfl) b⟩
    · obtain ⟨a, b, c⟩ := i5.2.2.2.2.2 m h0 h1
      refine ⟨a, b, fun hm => ?_⟩
      obtain ⟨d, e, f, g⟩ := c hm
      refine ⟨sameQ_rowE h (Or.inr rfl) (by omega) d, sameQ_rowV h (Or.inr rfl) e, fun x h2 h3 => ?_, sameQ_seenV h g⟩
      rw [q4 _ (by omega)]
      exact f x h2 h3
  · unfold I6; rw [e2, e64, q1, q2]; exact i6
  · unfold I7 spr; rw [e70, q5, h.1 45 (by omega), h.1 46 (by omega), h.1 48 (by omega), h.1 50 (by omega), h.1 52 (by omega)]; exact i7
  · unfold lawR; rw [e71, e72, e73, e25, show (25 + 1 : Nat) = 26 from rfl, e26]; exact l0
  · unfold lawR; rw [e71, e72, e73, e28, show (28 + 1 : Nat) = 29 from rfl, e29]; exact l1
end INVS

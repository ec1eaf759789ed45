/-! Promise 3: roof answered alike. -/
def swR (a : Nat) : Nat := if 12 ≤ a ∧ a ≤ 14 then a + 32 else if 44 ≤ a ∧ a ≤ 46 then a - 32 else a
def swY (a : Nat) : Nat := if 15 ≤ a ∧ a ≤ 30 then a + 32 else if 47 ≤ a ∧ a ≤ 62 then a - 32 else a
/-- cells under other numbers -/
def rn (π : Nat → Nat) (s : gI) : gI := (fun a => s.1 (π a), fun a => s.2 (π a))
/-- a call that may exchange what is in use for what is spare -/
def OKr (k : Int) (s : gI) (fc : gI → Option (Int × gI × (Nat → Nat → Nat))) (fm : gI → Option (Int × gI)) (π : Nat → Nat) (ρ1 : Nat → Nat → Nat) : Prop :=
  ∃ o v ρ u, fc s = some (o, v, ρ) ∧ ((ρ = g_rho ∧ fm v = some (o, u)) ∨ (ρ = ρ1 ∧ fm (rn π v) = some (o, u))) ∧ INV (k + 1) u
section QROOF
variable {N : Nat} {s v u : gI} {k : Int}
theorem lawR_vain {w : Int} {lc : Nat} (e1 : v.1 lc = s.1 lc) (e2 : v.1 (lc + 1) = s.1 (lc + 1)) (h71 : ∀ j, j < 70 → v.1 71 j = s.1 71 j) (h72 : ∀ j, j < 1100 → v.1 72 j = s.1 72 j) (h73 : ∀ j, j < 1100 → v.1 73 j = s.1 73 j) (hw : w < 60) (h : lawR s w lc) : lawR v w lc := by
  unfold lawR at h ⊢
  rw [e1, e2, h71 (8 + w) (by omega)]
  rcases h with h | ⟨a1, a2, a3, a4, a5, a6, a7⟩
  · exact Or.inl h
  · refine Or.inr ⟨a1, a2, a3, a4, by rw [h72 _ (by omega)]; exact a5, fun i i0 i1 => ?_, a7⟩
    rw [h72 _ (by omega), h73 _ (by omega)]
    exact a6 i i0 i1
/-- all told alike, whatever the tape, and whatever was read in vain -/
theorem INV_vain (hI : INV k s) (hc : ∀ a : Nat, (6 ≤ a ∧ a ≤ 10) ∨ (12 ≤ a ∧ a ≤ 26) ∨ a = 28 ∨ a = 29 ∨ (41 ≤ a ∧ a ≤ 43) ∨ a = 70 ∨ a = 79 → v.1 a = s.1 a) (h63 : v.1 63 23 = s.1 63 23) (h78 : ∀ j, j < 588 → v.1 78 j = s.1 78 j) (h69 : ∀ j, j < 70 → v.1 69 j = s.1 69 j) (h71 : ∀ j, j < 70 → v.1 71 j = s.1 71 j) (h72 : ∀ j, j < 1100 → v.1 72 j = s.1 72 j) (h73 : ∀ j, j < 1100 → v.1 73 j = s.1 73 j) (h68 : v.2 68 = s.2 68) (h6 : I6 v) (hs : spr v) : INV k v := by
  obtain ⟨⟨⟨hco, hsc, hV, har, hwo⟩, hmo, hq, h8, r5⟩, i2, i3, i4, i5, i6, i7, l0, l1⟩ := hI
  have e6 := hc 6 (by omega)
  have e7 := hc 7 (by omega)
  have e8 := hc 8 (by omega)
  have e9 := hc 9 (by omega)
  have e10 := hc 10 (by omega)
  have e12 := hc 12 (by omega)
  have e13 := hc 13 (by omega)
  have e14 := hc 14 (by omega)
  have e15 := hc 15 (by omega)
  have e16 := hc 16 (by omega)
  have e18 := hc 18 (by omega)
  have e19 := hc 19 (by omega)
  have e20 := hc 20 (by omega)
  have e22 := hc 22 (by omega)
  have e23 := hc 23 (by omega)
  have e24 := hc 24 (by omega)
  have e25 := hc 25 (by omega)
  have e26 := hc 26 (by omega)
  have e28 := hc 28 (by omega)
  have e29 := hc 29 (by omega)
  have e41 := hc 41 (by omega)
  have e42 := hc 42 (by omega)
  have e43 := hc 43 (by omega)
  have e70 := hc 70 (by omega)
  have e79 := hc 79 (by omega)
  have eQ : cQ v = cQ s := by
    unfold cQ
    rw [e12, e13, e15, e18]
  have rV : ∀ {c : Nat} {r : Int}, (c = 42 ∨ c = 43) → rowV k s c r → rowV k v c r := fun {c r} hc0 hr => by
    unfold rowV at hr ⊢
    rw [eQ, hc c (by omega), e15]
    exact hr
  have rE : ∀ {c : Nat} {r b : Int}, (c = 42 ∨ c = 43) → b ≤ 560 → rowE s c r b → rowE v c r b := fun {c r b} hc0 hb hr => by
    unfold rowE at hr ⊢
    rw [hc c (by omega), h78 (b + 16) (by omega), h78 (b + 17) (by omega)]
    exact ⟨fun j h0 h1 => by rw [h78 (b + j) (by omega)]; exact hr.1 j h0 h1, hr.2⟩
  have sV : ∀ {f : Int → Int}, seenV s f → seenV v f := fun {f} hf => by
    unfold seenV at hf ⊢
    rw [e12]
    exact hf
  obtain ⟨r6, r7, r8, r9, r10, r11⟩ := r5
  have n8 : s.1 15 3 ≤ 8 := hco.2.2.1.2
  have n4 : s.1 15 0 ≤ 4 := r7.2
  refine ⟨⟨⟨?_, ?_, ?_, ?_, ?_⟩, ?_, ?_, ?_, ?_, ?_, ?_, ?_, ?_, ?_⟩, ?_, ?_, ?_, ?_, h6, ?_, ?_, ?_⟩
  · unfold cOK; rw [e12, e13, e15]; exact hco
  · unfold scOK; rw [e9, e7, e15]; exact hsc
  · rw [eQ, e7]; exact hV
  · rw [e16]; exact har
  · unfold cWo; rw [e20]; exact hwo
  · unfold mOK; rw [h69 0 (by decide), h69 1 (by decide), h71 1 (by decide)]; exact hmo
  · rw [eQ]
    obtain ⟨q1, q2, q3, q4, q5⟩ := hq
    refine ⟨q1.trans (h69 0 (by decide)).symm, q2.trans (h69 1 (by decide)).symm, ?_, fun c hcc => ?_, fun t ht => ?_⟩
    · rw [q3]
      show (s.1 71 1).toNat = (v.1 71 1).toNat
      rw [h71 1 (by decide)]
    · rw [q4 c hcc]
      show s.1 69 (2 + c) = v.1 69 (2 + c)
      have := hcc.2.1
      rw [h69 _ (by omega)]
    · rw [q5 t ht]
      show s.1 71 (14 + 3 * t) = v.1 71 (14 + 3 * t)
      have ht : t < (s.1 15 3).toNat := ht
      rw [h71 _ (by omega)]
  · intro j h0 h1
    rw [sh_at, h78 (0 + j) (by omega), e7]
    exact h8 j h0 h1
  · rw [h71 0 (by decide), e15]; exact r6
  · rw [e15]; exact r7
  · rw [h71 1 (by decide), e15]; exact r8
  · rw [e15, e16]
    intro i a b
    rw [h71 _ (by omega)]
    exact r9 i a b
  · rw [e15, e20]
    intro t a b
    rw [h71 _ (by omega)]
    exact r10 t a b
  · intro t a b
    rw [h71 _ (by omega)]
    exact r11 t a b
  · unfold I2
    rw [e8, e6, e10, e7, e15, h78 16 (by decide), h78 17 (by decide)]
    exact ⟨fun j h0 h1 => by rw [h78 (8 + j) (by omega)]; exact i2.1 j h0 h1, i2.2.1, i2.2.2.1, fun x h0 h1 => by rw [h78 (18 + x) (by omega)]; exact i2.2.2.2.1 x h0 h1, sV i2.2.2.2.2.1, i2.2.2.2.2.2⟩
  · unfold I3 at i3 ⊢
    rw [e15, e18, e19, e22, e23, e24, h71 2 (by decide), h71 3 (by decide), h71 4 (by decide), h71 5 (by decide), h71 6 (by decide), h71 7 (by decide)]
    obtain ⟨j1, j2, j3, j4, j5, j6⟩ := i3
    refine ⟨j1, fun t a b => by rw [h71 _ (by omega)]; exact j2 t a b, j3, j4, fun i a b => ?_, j6⟩
    rw [h71 (38 + 4 * i) (by omega), h71 (38 + 4 * i + 1) (by omega), h71 (38 + 4 * i + 2) (by omega), h71 (38 + 4 * i + 3) (by omega)]
    exact j5 i a b
  · unfold I4; rw [e14]; exact i4
  · unfold I5
    rw [e41, e43, e79, h63]
    refine ⟨i5.1, i5.2.1, i5.2.2.1, fun i h0 h1 => ?_, i5.2.2.2.2.1, fun m h0 h1 => ?_⟩
    · obtain ⟨a, b⟩ := i5.2.2.2.1 i h0 h1
      have := i5.2.1.2
      exact ⟨rE (Or.inl rfl) (by omega) a, rV (Or.inl rfl) b⟩
    · obtain ⟨a, b, c⟩ := i5.2.2.2.2.2 m h0 h1
      refine ⟨a, b, fun hm => ?_⟩
      obtain ⟨d, e, f, g⟩ := c hm
      refine ⟨rE (Or.inr rfl) (by omega) d, rV (Or.inr rfl) e, fun x h2 h3 => ?_, sV g⟩
      rw [h78 _ (by omega)]
      exact f x h2 h3
  · exact ⟨by rw [h68]; exact i7.1, by rw [e70]; exact i7.2.1, hs⟩
  · exact lawR_vain e25 e26 h71 h72 h73 (by decide) l0
  · exact lawR_vain e28 e29 h71 h72 h73 (by decide) l1
/-- nothing is on the roof, nothing was done yet -/
def fresh (v : gI) : Prop := (∀ j, 0 ≤ j → j < 8 → v.1 7 j = 64 ∧ v.1 8 j = -1 ∧ v.1 10 j = -2) ∧ (∀ c, 0 ≤ c → c < 64 → v.1 9 c = -1) ∧ (v.1 6 4 = 0 ∧ v.1 6 5 = 0) ∧ (v.1 41 2 = 0 ∧ v.1 41 4 = 0 ∧ 0 ≤ v.1 41 3 ∧ v.1 41 3 < 16) ∧
  (∀ j, 0 ≤ j → j < 8 → v.1 78 j = 64 ∧ v.1 78 (8 + j) = -1 ∧ v.1 78 (18 + j) = -2) ∧ (v.1 78 16 = 0 ∧ v.1 78 17 = 0) ∧ v.1 63 23 = 0 ∧ ∀ j, 0 ≤ j → j < 4 → v.1 79 j = 0
theorem occ2_64 {p : Int → Int} {c : Int} (hc : 0 ≤ c) : ∀ n : Nat, n ≤ 8 → (∀ j, 0 ≤ j → j < 8 → p j = 64) → occ2 p c n = -1
  | 0, _, _ => rfl
  | n + 1, hn, h => by
    have e : occ2 p c (n + 1) = if co (p n) = c then (n : Int) else occ2 p c n := rfl
    have c64 : co 64 = -1 := rfl
    rw [e, h n (by omega) (by omega), c64, if_neg (by omega)]
    exact occ2_64 hc n (by omega) h
theorem INV_anew (hk : 0 ≤ k) (hR : RY v) (h3 : I3 v) (h4 : I4 v) (h6 : I6 v) (h7 : I7 v) (l0 : lawR v 0 25) (l1 : lawR v 1 28) (hf : fresh v) : INV k v := by
  obtain ⟨f1, f2, f3, f4, f5, f6, f7, f8⟩ := hf
  obtain ⟨r1, r2, r3, r4, r5, r6⟩ := hR
  have n8 := r1.2.2.1
  have bz : ∀ m : Int, 0 ≤ m → m < 4 → i_and (i_shr 0 m) 1 = 0 := fun m a b => by
    rcases (by omega : m = 0 ∨ m = 1 ∨ m = 2 ∨ m = 3) with q | q | q | q <;> subst q <;> decide +kernel
  refine ⟨⟨⟨r1, fun c a b => ?_, fun j hj => ?_, r4, r5⟩, r2, r3, fun j a b => ?_, r6⟩, ⟨fun j a b => ?_, ?_, ?_, fun x a b => ?_, ⟨fun x a b => ?_, fun x a b => ?_⟩, fun j a b => ?_, ?_, ?_⟩, h3, h4, ⟨?_, ?_, ⟨f4.2.2.1, f4.2.2.2⟩, fun i a b => ?_, ?_, fun m a b => ⟨?_, ?_, fun h => ?_⟩⟩, h6, h7, l0, l1⟩
  · rw [f2 c a b, occ2_64 a _ (by omega) (fun j a b => (f1 j a b).1)]
  · have hj : j < (v.1 15 3).toNat := hj
    exact Or.inl ((f1 j (by omega) (by omega)).1)
  · rw [sh_at, Int.zero_add, (f5 j a b).1, (f1 j a b).1]
  · rw [(f5 j a b).2.1, (f1 j a b).2.1]
  · rw [f6.1, f3.1]
  · rw [f6.2, f3.2]
  · rw [(f5 x a b).2.2, (f1 x a b).2.2]
  · rw [(f1 x a b).2.2]; omega
  · have := r1.1; exact (f1 x (by omega) b).2.2
  · exact (f1 j (by omega) b).1
  · rw [f3.1]; omega
  · rw [f3.2]; omega
  · rw [f7, f4.2.1]
  · rw [f4.2.1]; omega
  · rw [f4.2.1] at b; omega
  · rw [f4.1]; omega
  · exact Or.inl (f8 m a b)
  · rw [f4.1, bz m a b, f8 m a b]
  · rw [f8 m a b] at h; omega
end QROOF

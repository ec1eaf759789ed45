/-! The class: who is where, steps, rolls, putting. -/
def oC (tl w : Int → Int) : Int → Int := fun c => if c < 128 then (if tl c = 7 then -1 else w c) else w (c - 128)
/-- two tellers of who is where agree on a cell, as far as anybody is there -/
def sg2 (tl o o2 : Int → Int) (d : Int) : Prop := (o d < 0 ↔ o2 d < 0) ∧ (tl d = 7 → (o (128 + d) < 0 ↔ o2 (128 + d) < 0))
def whof (Q : Cf) (p w : Int → Int) : Int → Int := fun c => if 0 ≤ c ∧ c < 64 then occ2 p c Q.2.2.2.1 else w c
section SIMS
variable {p : Int → Int} {Q : Cf} {t : Int} {W D : Int} {tl o o2 : Int → Int}
theorem cTo_sim {x y : Int} (h : 0 ≤ x → x < W → 0 ≤ y → y < D → sg2 tl o o2 (8 * y + x)) : cTo W D tl o x y = cTo W D tl o2 x y := by
  unfold cTo
  by_cases h1 : x < 0
  · rw [if_pos h1, if_pos h1]
  rw [if_neg h1, if_neg h1]
  by_cases h2 : W ≤ x
  · rw [if_pos h2, if_pos h2]
  rw [if_neg h2, if_neg h2]
  by_cases h3 : y < D
  rotate_left
  · rw [if_neg h3, if_neg h3]
  rw [if_pos h3, if_pos h3]
  by_cases h4 : 0 ≤ y
  rotate_left
  · rw [if_neg h4, if_neg h4]
  rw [if_pos h4, if_pos h4]
  obtain ⟨g1, g2⟩ := h (by omega) (by omega) h4 h3
  by_cases h5 : tl (8 * y + x) = 8
  · rw [if_pos h5, if_pos h5]
  rw [if_neg h5, if_neg h5]
  by_cases h6 : o (8 * y + x) < 0
  rotate_left
  · rw [if_neg h6, if_neg (fun q => h6 (g1.mpr q))]
  rw [if_pos h6, if_pos (g1.mp h6)]
  by_cases h7 : tl (8 * y + x) = 7
  rotate_left
  · rw [if_neg h7, if_neg h7]
  rw [if_pos h7, if_pos h7]
  by_cases h8 : o (128 + (8 * y + x)) < 0
  · rw [if_pos h8, if_pos ((g2 h7).mp h8)]
  · rw [if_neg h8, if_neg (fun q => h8 ((g2 h7).mpr q))]
theorem cTo_val {x y : Int} (h1 : 0 ≤ x) (h2 : x < W) (h3 : 0 ≤ y) (h4 : y < D) (h7 : tl (8 * y + x) ≠ 7) (h8 : tl (8 * y + x) ≠ 8) : cTo W D tl o x y = if o (8 * y + x) < 0 then 8 * y + x else -1 := by
  unfold cTo
  rw [if_neg (by omega), if_neg (by omega), if_pos h4, if_pos h3, if_neg h8, if_neg h7]
theorem cTo_tl {x y : Int} (hW : W ≤ 8) (hD : D ≤ 8) (h : 0 ≤ cTo W D tl o x y) (h2 : cTo W D tl o x y < 64) : (0 ≤ x ∧ x < W ∧ 0 ≤ y ∧ y < D) ∧ cTo W D tl o x y = 8 * y + x ∧ tl (8 * y + x) ≠ 7 ∧ tl (8 * y + x) ≠ 8 := by
  unfold cTo at h h2 ⊢
  by_cases h1 : x < 0
  · rw [if_pos h1] at h2; omega
  rw [if_neg h1] at h h2 ⊢
  by_cases h3 : W ≤ x
  · rw [if_pos h3] at h2; omega
  rw [if_neg h3] at h h2 ⊢
  by_cases h4 : y < D
  rotate_left
  · rw [if_neg h4] at h2; omega
  rw [if_pos h4] at h h2 ⊢
  by_cases h5 : 0 ≤ y
  rotate_left
  · rw [if_neg h5] at h2; omega
  rw [if_pos h5] at h h2 ⊢
  by_cases h6 : tl (8 * y + x) = 8
  · rw [if_pos h6] at h; omega
  rw [if_neg h6] at h h2 ⊢
  by_cases h7 : o (8 * y + x) < 0
  rotate_left
  · rw [if_neg h7] at h; omega
  rw [if_pos h7] at h h2 ⊢
  by_cases h8 : tl (8 * y + x) = 7
  · rw [if_pos h8] at h2
    split at h2 <;> omega
  · rw [if_neg h8]
    exact ⟨⟨by omega, by omega, h5, h4⟩, rfl, h8, h6⟩
theorem roll_sim (hW : W ≤ 8) (hD : D ≤ 8) : ∀ (k : Nat) (mt : Int → Bool) (c : Int), (∀ x y : Int, 0 ≤ x → x < W → 0 ≤ y → y < D → mt (8 * y + x) = false → sg2 tl o o2 (8 * y + x)) → (∀ d, mt d = true → tl d ≠ 7 ∧ tl d ≠ 8) →
    roll W D tl o k mt c = roll W D tl o2 k mt c := by
  intro k
  induction k with
  | zero => intro mt c _ _; rfl
  | succ k ih =>
    intro mt c hs hm
    unfold roll nxt
    by_cases h0 : ac (tl c) = 0 ∧ al (tl c) = 0
    · simp only [if_pos h0]
      rw [if_pos (by decide), if_pos (by decide)]
    simp only [if_neg h0]
    generalize c % 8 + ac (tl c) = x
    generalize c / 8 + al (tl c) = y
    by_cases hin : (0 ≤ x ∧ x < W ∧ 0 ≤ y ∧ y < D) ∧ mt (8 * y + x) = true
    · obtain ⟨⟨a1, a2, a3, a4⟩, a5⟩ := hin
      obtain ⟨b1, b2⟩ := hm _ a5
      rw [cTo_val a1 a2 a3 a4 b1 b2, cTo_val a1 a2 a3 a4 b1 b2]
      have both : ∀ (b : Prop) [Decidable b] (r : Int), (if (if b then 8 * y + x else -1) < 0 then c else if 64 ≤ (if b then 8 * y + x else -1) then (if b then 8 * y + x else -1) else if mt (if b then 8 * y + x else -1) = true then c else r) = c := by
        intro b _ r
        by_cases hb : b
        · simp only [if_pos hb]
          rw [if_neg (by omega), if_neg (by omega), if_pos a5]
        · simp only [if_neg hb]
          rw [if_pos (by decide)]
      rw [both, both]
    · have e : cTo W D tl o x y = cTo W D tl o2 x y := by
        refine cTo_sim fun a1 a2 a3 a4 => hs x y a1 a2 a3 a4 ?_
        cases hz : mt (8 * y + x) with
        | false => rfl
        | true => exact absurd ⟨⟨a1, a2, a3, a4⟩, hz⟩ hin
      rw [← e]
      by_cases h1 : cTo W D tl o x y < 0
      · rw [if_pos h1, if_pos h1]
      rw [if_neg h1, if_neg h1]
      by_cases h2 : 64 ≤ cTo W D tl o x y
      · rw [if_pos h2, if_pos h2]
      rw [if_neg h2, if_neg h2]
      cases h3 : mt (cTo W D tl o x y) with
      | true => rfl
      | false =>
        rw [if_neg (by decide), if_neg (by decide)]
        refine ih _ _ ?_ ?_
        · intro x1 y1 a1 a2 a3 a4 a5
          rw [Bool.or_eq_false_iff] at a5
          exact hs x1 y1 a1 a2 a3 a4 a5.1
        · intro d hd
          rw [Bool.or_eq_true] at hd
          rcases hd with hd | hd
          · exact hm d hd
          · have hd2 : d = cTo W D tl o x y := of_decide_eq_true hd
            have := cTo_tl hW hD (by omega) (by omega : cTo W D tl o x y < 64)
            rw [hd2, this.2.1]
            exact this.2.2
theorem okq_at {q d : Int} (hd0 : 0 ≤ d) (h : okq Q p t q) (hc : co q = d) : (q = d ∧ Q.2.2.1 d ≠ 7 ∧ Q.2.2.1 d ≠ 8) ∨ (q = 128 + d ∧ Q.2.2.1 d = 7) := by
  unfold co at hc
  rcases h with h | h | h | h
  · subst h; rw [if_pos (by decide), if_pos (by decide)] at hc; omega
  · subst h; rw [if_pos (by decide), if_pos (by decide)] at hc; omega
  · have a1 := h.1.1; have a2 := h.1.2.1
    rw [if_pos (by omega), if_neg (by omega)] at hc
    subst hc
    exact Or.inl ⟨rfl, h.2.1, h.2.2.1⟩
  · have a1 := h.1.1; have a2 := h.1.2.1
    rw [if_neg (by omega)] at hc
    rw [hc] at h
    exact Or.inr ⟨by omega, h.2.1⟩
theorem sg_ex {w : Int → Int} (hV : VV Q p) (hw : ∀ c, 0 ≤ c → c < 64 → w c = occ2 p c Q.2.2.2.1) {d : Int} (hd0 : 0 ≤ d) (hd1 : d < 64) (hne : ∀ m : Nat, m < Q.2.2.2.1 → (m : Int) = t → co (p m) ≠ d) : sg2 Q.2.2.1 (exO Q p t) (oC Q.2.2.1 w) d := by
  have key : occ2 p d Q.2.2.2.1 < 0 ↔ ∀ k : Nat, k < Q.2.2.2.1 → (k : Int) ≠ t → co (p k) ≠ d := by
    constructor
    · intro h k hk _
      exact occ2_neg _ h k hk
    · intro h
      rw [occ2_none _ (fun k hk => by
        by_cases hkt : (k : Int) = t
        · exact hne k hk hkt
        · exact h k hk hkt)]
      omega
  refine ⟨?_, fun h7 => ?_⟩
  · unfold oC exO
    rw [if_pos (by omega)]
    by_cases h7 : Q.2.2.1 d = 7
    · rw [if_pos h7]
      refine ⟨fun _ => by omega, fun _ => ?_⟩
      rw [occ_none _ (fun k hk _ he => ?_)]
      · omega
      · have := okq_on (hV k hk) (by omega) (by omega)
        rw [he] at this
        exact this.2.1 h7
    · rw [if_neg h7, hw d hd0 hd1, key]
      constructor
      · intro h k hk hkt hc
        rcases okq_at hd0 (hV k hk) hc with g | g
        · exact occ_neg _ h k hk hkt g.1
        · exact h7 g.2
      · intro h
        rw [occ_none _ (fun k hk hkt he => h k hk hkt ?_)]
        · omega
        · rw [he]
          unfold co
          rw [if_pos (by omega), if_neg (by omega)]
  · unfold oC exO
    rw [if_neg (by omega), show 128 + d - 128 = d by omega, hw d hd0 hd1, key]
    constructor
    · intro h k hk hkt hc
      rcases okq_at hd0 (hV k hk) hc with g | g
      · exact g.2.1 h7
      · exact occ_neg _ h k hk hkt g.1
    · intro h
      rw [occ_none _ (fun k hk hkt he => h k hk hkt ?_)]
      · omega
      · rw [he]
        unfold co
        rw [if_neg (by omega)]
        omega
/-- a roll told by the class' rows is the roll of that thing -/
theorem roll_ex (hW : Q.1 ≤ 8) (hD : Q.2.1 ≤ 8) {w : Int → Int} (hV : VV Q p) (hw : ∀ c, 0 ≤ c → c < 64 → w c = occ2 p c Q.2.2.2.1) {c : Int} (h7 : Q.2.2.1 c ≠ 7) (h8 : Q.2.2.1 c ≠ 8) (hne : ∀ m : Nat, m < Q.2.2.2.1 → (m : Int) = t → co (p m) = -1 ∨ co (p m) = c) (k : Nat) :
    roll Q.1 Q.2.1 Q.2.2.1 (oC Q.2.2.1 w) k (fun j => decide (j = c)) c = roll Q.1 Q.2.1 Q.2.2.1 (exO Q p t) k (fun j => decide (j = c)) c := by
  symm
  refine roll_sim hW hD k _ c ?_ ?_
  · intro x y a1 a2 a3 a4 a5
    have a6 : ¬ 8 * y + x = c := of_decide_eq_false a5
    refine sg_ex hV hw (by omega) (by omega) fun m hm hmt hc => ?_
    rcases hne m hm hmt with g | g <;> omega
  · intro d hd
    have : d = c := of_decide_eq_true hd
    subst this
    exact ⟨h7, h8⟩
theorem occ2_occ {c : Int} (h : ∀ k : Nat, k < Q.2.2.2.1 → (co (p k) = c ↔ ((k : Int) ≠ t ∧ p k = c))) : ∀ n : Nat, n ≤ Q.2.2.2.1 → occ2 p c n = occ p c t n
  | 0, _ => rfl
  | n + 1, hn => by
    have ih := occ2_occ h n (by omega)
    have hk := h n (by omega)
    unfold occ2 occ
    rw [ih]
    by_cases h1 : co (p n) = c
    · obtain ⟨a, b⟩ := hk.mp h1
      rw [if_pos h1, if_neg a, if_pos b]
    · rw [if_neg h1]
      by_cases h2 : (n : Int) = t
      · rw [if_pos h2]
      · rw [if_neg h2, if_neg (fun q => h1 (hk.mpr ⟨h2, q⟩))]
theorem whof_in {w : Int → Int} : ∀ c, 0 ≤ c → c < 64 → whof Q p w c = occ2 p c Q.2.2.2.1 := fun _ h0 h1 => if_pos ⟨h0, h1⟩
theorem whof_whof {w q : Int → Int} : whof Q p (whof Q q w) = whof Q p w := by
  funext c
  unfold whof
  split <;> rfl
/-- who is where behind a thing's coming to another place -/
theorem whof_put (hV : VV Q p) {m : Nat} (hm : m < Q.2.2.2.1) {q : Int} (hq : okq Q p m q) (w : Int → Int) :
    (if co q = -1 then (if co (p m) = -1 then whof Q p w else zup (whof Q p w) (co (p m)) (-1)) else zup (if co (p m) = -1 then whof Q p w else zup (whof Q p w) (co (p m)) (-1)) (co q) m) = whof Q (zup p m q) w := by
  have co_rg : ∀ {r : Int}, okq Q p m r → co r = -1 ∨ (0 ≤ co r ∧ co r < 64) := by
    intro r hr
    unfold co
    rcases okq_rg hr with h | h | h | h
    · subst h; exact Or.inl rfl
    · subst h; exact Or.inl rfl
    · rw [if_pos (by omega), if_neg (by omega)]; exact Or.inr h
    · rw [if_neg (by omega)]; exact Or.inr ⟨by omega, by omega⟩
  have hpm := hV m hm
  have r1 := co_rg hpm
  have r2 := co_rg hq
  have free : co q ≠ -1 → ∀ k : Nat, k < Q.2.2.2.1 → k ≠ m → co (p k) ≠ co q := by
    intro hn k hk hkm hc
    have e := okq_co hq (hV k hk) hc.symm hn
    rcases hq with g | g | g | g
    · subst g; exact hn rfl
    · subst g; exact hn rfl
    · exact g.2.2.2 k hk (by omega) e.symm
    · exact g.2.2 k hk (by omega) e.symm
  have uniq : co (p m) ≠ -1 → ∀ k : Nat, k < Q.2.2.2.1 → k ≠ m → co (p k) ≠ co (p m) := by
    intro hn k hk hkm hc
    have e := okq_co hpm (hV k hk) hc.symm hn
    rcases hpm with g | g | g | g
    · rw [g] at hn; exact hn rfl
    · rw [g] at hn; exact hn rfl
    · exact g.2.2.2 k hk (by omega) e.symm
    · exact g.2.2 k hk (by omega) e.symm
  have hz : ∀ k : Nat, k ≠ m → zup p m q k = p k := fun k hk => zup_ne (by omega)
  funext c
  by_cases hin : 0 ≤ c ∧ c < 64
  · have e0 : whof Q p w c = occ2 p c Q.2.2.2.1 := if_pos hin
    have e1 : whof Q (zup p m q) w c = occ2 (zup p m q) c Q.2.2.2.1 := if_pos hin
    rw [e1]
    by_cases hc1 : c = co q
    · have hn : co q ≠ -1 := by omega
      rw [if_neg hn, hc1, zup_same]
      symm
      refine occ2_some (by rw [zup_same]) _ hm fun k hk hkm => ?_
      rw [hz k hkm]
      exact free hn k hk hkm
    · have e2 : (if co q = -1 then (if co (p m) = -1 then whof Q p w else zup (whof Q p w) (co (p m)) (-1)) else zup (if co (p m) = -1 then whof Q p w else zup (whof Q p w) (co (p m)) (-1)) (co q) m) c = (if co (p m) = -1 then whof Q p w else zup (whof Q p w) (co (p m)) (-1)) c := by
        split
        · rfl
        · exact zup_ne hc1
      rw [e2]
      by_cases hc2 : c = co (p m)
      · have hn : co (p m) ≠ -1 := by omega
        rw [if_neg hn, hc2, zup_same]
        symm
        refine occ2_none _ fun k hk => ?_
        by_cases hkm : k = m
        · subst hkm
          rw [zup_same]
          omega
        · rw [hz k hkm]
          exact uniq hn k hk hkm
      · have e3 : (if co (p m) = -1 then whof Q p w else zup (whof Q p w) (co (p m)) (-1)) c = whof Q p w c := by
          split
          · rfl
          · exact zup_ne hc2
        rw [e3, e0]
        refine occ2_eq _ fun k hk => ?_
        by_cases hkm : k = m
        · subst hkm
          rw [zup_same]
          exact ⟨fun h => absurd h.symm hc2, fun h => absurd h.symm hc1⟩
        · rw [hz k hkm]
  · have e1 : whof Q (zup p m q) w c = w c := if_neg hin
    have e0 : whof Q p w c = w c := if_neg hin
    rw [e1]
    have n1 : co q ≠ -1 → c ≠ co q := fun h => by omega
    have n2 : co (p m) ≠ -1 → c ≠ co (p m) := fun h => by omega
    split
    · split
      · exact e0
      · rename_i h; rw [zup_ne (n2 h)]; exact e0
    · rename_i h1
      rw [zup_ne (n1 h1)]
      split
      · exact e0
      · rename_i h; rw [zup_ne (n2 h)]; exact e0
end SIMS

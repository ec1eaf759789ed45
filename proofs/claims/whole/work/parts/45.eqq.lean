/-! Two tellers of one roof and one yard. -/
def eqQ (Q R : Cf) : Prop := Q.1 = R.1 ∧ Q.2.1 = R.2.1 ∧ Q.2.2.2.1 = R.2.2.2.1 ∧ (∀ c, onR Q c → Q.2.2.1 c = R.2.2.1 c) ∧ ∀ t : Nat, t < Q.2.2.2.1 → Q.2.2.2.2 t = R.2.2.2.2 t
section EQQ
variable {Q R : Cf} {p : Int → Int} {t : Int}
theorem cTo_eqQ (h : eqQ Q R) (hW : Q.1 ≤ 8) (hD : Q.2.1 ≤ 8) (o : Int → Int) (x y : Int) : cTo Q.1 Q.2.1 Q.2.2.1 o x y = cTo R.1 R.2.1 R.2.2.1 o x y := by
  obtain ⟨e1, e2, -, e4, -⟩ := h
  unfold cTo
  rw [← e1, ← e2]
  by_cases h1 : x < 0
  · rw [if_pos h1, if_pos h1]
  rw [if_neg h1, if_neg h1]
  by_cases h2 : Q.1 ≤ x
  · rw [if_pos h2, if_pos h2]
  rw [if_neg h2, if_neg h2]
  by_cases h3 : y < Q.2.1
  rotate_left
  · rw [if_neg h3, if_neg h3]
  rw [if_pos h3, if_pos h3]
  by_cases h4 : 0 ≤ y
  rotate_left
  · rw [if_neg h4, if_neg h4]
  rw [if_pos h4, if_pos h4, e4 (8 * y + x) ⟨by omega, by omega, by omega, by omega⟩]
theorem exO_eqQ (h : eqQ Q R) : exO Q p t = exO R p t := by
  unfold exO
  rw [h.2.2.1]
theorem to1_eqQ (h : eqQ Q R) (hW : Q.1 ≤ 8) (hD : Q.2.1 ≤ 8) (x y : Int) : to1 Q p t x y = to1 R p t x y := by
  unfold to1
  rw [cTo_eqQ h hW hD, exO_eqQ h]
theorem roll_eqQ (h : eqQ Q R) (hW : Q.1 ≤ 8) (hD : Q.2.1 ≤ 8) (o : Int → Int) : ∀ (k : Nat) (mt : Int → Bool) (c : Int), onR Q c → roll Q.1 Q.2.1 Q.2.2.1 o k mt c = roll R.1 R.2.1 R.2.2.1 o k mt c := by
  intro k
  induction k with
  | zero => intro mt c _; rfl
  | succ k ih =>
    intro mt c hc
    have e : nxt Q.1 Q.2.1 Q.2.2.1 o c = nxt R.1 R.2.1 R.2.2.1 o c := by
      unfold nxt
      rw [h.2.2.2.1 c hc, cTo_eqQ h hW hD]
    have hr : 0 ≤ nxt Q.1 Q.2.1 Q.2.2.1 o c → nxt Q.1 Q.2.1 Q.2.2.1 o c < 64 → onR Q (nxt Q.1 Q.2.1 Q.2.2.1 o c) := by
      unfold nxt
      split
      · intro h1; omega
      · intro h1 h2
        have := cTo_tl hW hD h1 h2
        rw [this.2.1]
        exact ⟨by omega, by omega, by omega, by omega⟩
    unfold roll
    rw [← e]
    by_cases h1 : nxt Q.1 Q.2.1 Q.2.2.1 o c < 0
    · rw [if_pos h1, if_pos h1]
    rw [if_neg h1, if_neg h1]
    by_cases h2 : 64 ≤ nxt Q.1 Q.2.1 Q.2.2.1 o c
    · rw [if_pos h2, if_pos h2]
    rw [if_neg h2, if_neg h2]
    by_cases h3 : mt (nxt Q.1 Q.2.1 Q.2.2.1 o c) = true
    · rw [if_pos h3, if_pos h3]
    rw [if_neg h3, if_neg h3]
    exact ih _ _ (hr (by omega) (by omega))
theorem rollT_eqQ (h : eqQ Q R) (hW : Q.1 ≤ 8) (hD : Q.2.1 ≤ 8) {m : Nat} (hm : m < Q.2.2.2.1) {c : Int} (hc : onR Q c) : rollT Q p m c = rollT R p m c := by
  unfold rollT
  rw [roll_eqQ h hW hD _ _ _ _ hc, exO_eqQ h, h.2.2.2.2 m hm]
theorem rollsOn_eqQ (h : eqQ Q R) (hW : Q.1 ≤ 8) (hD : Q.2.1 ≤ 8) {m : Nat} (hm : m < Q.2.2.2.1) (hV : okq Q p m (p m)) : rollsOn Q p m = rollsOn R p m := by
  unfold rollsOn
  by_cases h1 : 64 ≤ p m
  · rw [if_pos h1, if_pos h1]
  · rw [if_neg h1, if_neg h1]
    have r := okq_rg hV
    rw [rollT_eqQ h hW hD hm (okq_on hV (by omega) (by omega)).1]
theorem knock_eqQ (h : eqQ Q R) (hW : Q.1 ≤ 8) (hD : Q.2.1 ≤ 8) {m : Nat} (hm : m < Q.2.2.2.1) (x y : Int) (st : Bool) : knock Q p m x y st = knock R p m x y st := by
  unfold knock
  rw [← to1_eqQ (p := p) h hW hD, ← to1_eqQ (p := zup p m (to1 Q p m x (y + 1))) h hW hD]
  by_cases h1 : 0 ≤ to1 Q p m x (y + 1)
  rotate_left
  · rw [if_neg h1, if_neg h1]
  rw [if_pos h1, if_pos h1]
  refine rollsOn_eqQ h hW hD hm ?_
  rw [zup_same]
  refine okq_mono (p := p) (fun j hj ht => zup_ne ht) ?_
  split
  · rename_i h2
    exact okq_mono (fun j hj ht => (zup_ne ht).symm) (to1_ok (p := zup p m (to1 Q p m x (y + 1))) (t := m) hW hD h2.2.2)
  · exact to1_ok hW hD h1
theorem thrown_eqQ (h : eqQ Q R) (hW : Q.1 ≤ 8) (hD : Q.2.1 ≤ 8) {m : Nat} (hm : m < Q.2.2.2.1) (hV : VV Q p) (x y : Int) : thrown Q p m x y = thrown R p m x y := by
  have hp := VV_zup hV (okq_64 (Q := Q) (p := p) (t := m))
  have eN := h.2.2.1
  unfold thrown
  rw [← h.1, ← h.2.1, ← eN, ← h.2.2.2.2 m hm]
  split
  · rfl
  · rename_i hin
    have ro := occ_rg (zup p m 64) (8 * y + x) m Q.2.2.2.1
    by_cases hh : 0 ≤ occ (zup p m 64) (8 * y + x) m Q.2.2.2.1
    · have ra := occ_at _ hh
      rw [if_pos hh, if_pos hh]
      generalize occ (zup p m 64) (8 * y + x) m Q.2.2.2.1 = g at hh ro ra
      obtain ⟨j, rfl⟩ := Int.eq_ofNat_of_zero_le hh
      rw [← knock_eqQ (p := zup p m 64) h hW hD (m := j) (by omega)]
      have hk := VV_knock hW hD (m := j) (by omega) hp x y (decide (Q.2.2.2.2 m = 3))
      refine rollsOn_eqQ h hW hD hm ?_
      rw [zup_same]
      refine okq_mono (p := knock Q (zup p m 64) j x y (decide (Q.2.2.2.2 m = 3))) (fun j hj ht => zup_ne ht) ?_
      split
      · exact okq_64
      · rename_i hne
        have hon := okq_on (hp j (by omega)) (by rw [ra.1]; omega) (by rw [ra.1]; omega)
        rw [ra.1] at hon
        refine Or.inr (Or.inr (Or.inl ⟨hon.1, hon.2.1, hon.2.2, fun k hk2 hkm he => ?_⟩))
        by_cases hkj : k = j
        · subst hkj; exact hne he
        · rw [knock_ne (by omega)] at he
          rcases hp j (by omega) with g | g | g | g
          · rw [ra.1] at g; omega
          · rw [ra.1] at g; omega
          · exact g.2.2.2 k hk2 (by omega) (he.trans ra.1.symm)
          · exact g.2.2 k hk2 (by omega) (he.trans ra.1.symm)
    · rw [if_neg hh, if_neg hh, ← to1_eqQ h hW hD]
      refine rollsOn_eqQ h hW hD hm ?_
      rw [zup_same]
      refine okq_mono (p := zup p m 64) (fun j hj ht => zup_ne ht) ?_
      split
      · exact okq_64
      · exact to1_ok hW hD (by omega)
end EQQ
/-! States of the model that differ from one another in a trial's rows alone. -/
def trl (b : Int) (s u : gI) : Prop := ∃ F, u = ic s 78 F ∧ ∀ j, (j < b ∨ b + 18 ≤ j) → F j = s.1 78 j
section TRL
variable {N : Nat} {s u v : gI} {b : Int}
theorem trl.rf : trl b s s := ⟨s.1 78, ic_self.symm, fun _ _ => rfl⟩
theorem trl.tr (h1 : trl b s u) (h2 : trl b u v) : trl b s v := by
  obtain ⟨F, rfl, hF⟩ := h1
  obtain ⟨G, rfl, hG⟩ := h2
  refine ⟨G, ic_ic, fun j hj => ?_⟩
  rw [hG j hj, ic_at]
  exact hF j hj
theorem trl.ne (h : trl b s u) {a : Nat} (ha : a ≠ 78) : u.1 a = s.1 a := by
  obtain ⟨F, rfl, -⟩ := h
  exact ic_ne ha
theorem trl.l2 (h : trl b s u) : u.2 = s.2 := by
  obtain ⟨F, rfl, -⟩ := h
  rfl
theorem trl.at (h : trl b s u) {j : Int} (hj : j < b ∨ b + 18 ≤ j) : u.1 78 j = s.1 78 j := by
  obtain ⟨F, rfl, hF⟩ := h
  rw [ic_at]
  exact hF j hj
theorem trl.Q (h : trl b s u) : mQ u = mQ s := by
  obtain ⟨F, rfl, -⟩ := h
  exact mQ_ic
theorem trl.OK (h : trl b s u) (hw : mOK s) : mOK u := by
  obtain ⟨F, rfl, -⟩ := h
  exact mOK_ic hw
theorem thrown_out {Q : Cf} {p : Int → Int} {t x y k : Int} (hn : Q.2.2.2.1 ≤ 8) (ht : 0 ≤ t ∧ t < 8) (hk : k < 0 ∨ 8 ≤ k) : thrown Q p t x y k = p k := by
  refine thrown_ne (by omega) fun h => ?_
  have := hit_at h
  omega
theorem m_try (hN : 5000 ≤ N) (hw : mOK s) {a per x y z : Int} {m : Nat} (ha : 0 ≤ a) (hb0 : 0 ≤ b) (hb : b ≤ 680) (ha2 : a ≤ 680) (hd : a + 18 ≤ b ∨ b + 18 ≤ a) (hm : m < 8) (hx : 0 ≤ x ∧ x < 8) (hy : 0 ≤ y ∧ y < 8) (hz0 : 0 ≤ z) (hz : z ≤ 8) (hu : trl b s u) :
    ∃ v, f262 N a b per m x y z u = some v ∧ trl b s v ∧ eq8 (sh b (v.1 78)) (thrown (mQ s) (sh a (s.1 78)) m (x + sX z) (y + sY z)) := by
  have hn8 : (mQ s).2.2.2.1 ≤ 8 := by
    have := hw.2.2
    show (s.1 71 1).toNat ≤ 8
    omega
  have e := m_tries (N := N) (s := u) hN (hu.OK hw) (a := a) (b := b) (per := per) (t := (m : Int)) (x := x) (y := y) (z := z) ha hb0 hb ha2 hd (by omega) (by omega) hx hy hz0 hz
  refine ⟨_, e, ?_, ?_⟩
  · refine hu.tr ⟨unsh b (thrown (mQ u) (zup (sh b ((cop u a b).1 78)) (8 + m) per) m (x + sX z) (y + sY z)), ?_, fun j hj => ?_⟩
    · unfold pst cop
      rw [ic_ic]
    · unfold unsh
      rw [hu.Q, thrown_out hn8 (by omega) (by omega), zup_ne (by omega), sh_at, show b + (j - b) = j by omega, cop_out hj]
  · rw [pst_sh, hu.Q]
    refine thrown_congr hn8 ?_ (by omega) (by omega) _ _
    intro j h0 h1
    rw [zup_ne (by omega), cop_sh h0 (by omega), sh_at, sh_at, hu.at (by omega)]
end TRL

/-! Laws read by the reference, beside run. -/
section LAWR
variable {N : Nat} {s u v : gI} {F G A B C T : Int → Int} {n e st lo hi c m zn br w b k d l : Int} {r i lc : Nat} {σ τ o L : List Int} {P : gI → Option gI}
def Go (F : Int → Int) (n : Int) (σ o : List Int) (br w : Int) (b : Bool) (i : Nat) (σ2 o2 : List Int) (br2 w2 : Int) (b2 : Bool) (i2 : Nat) : Prop := ∃ k : Nat, ∀ r : Nat, run F n (r + k) σ o br w b i = run F n r σ2 o2 br2 w2 b2 i2
def Bd (F : Int → Int) (n : Int) (σ o : List Int) (br w : Int) (b : Bool) (i : Nat) (z : Int) : Prop := ∃ (k j : Nat) (o2 : List Int), ∀ r : Nat, run F n (r + k) σ o br w b i = some (z, j, o2)
theorem Go.tr {σ1 o1 σ2 o2 σ3 o3 : List Int} {br1 w1 br2 w2 br3 w3 : Int} {b1 b2 b3 : Bool} {i1 i2 i3 : Nat} (h1 : Go F n σ1 o1 br1 w1 b1 i1 σ2 o2 br2 w2 b2 i2) (h2 : Go F n σ2 o2 br2 w2 b2 i2 σ3 o3 br3 w3 b3 i3) : Go F n σ1 o1 br1 w1 b1 i1 σ3 o3 br3 w3 b3 i3 := by
  obtain ⟨k1, h1⟩ := h1
  obtain ⟨k2, h2⟩ := h2
  exact ⟨k2 + k1, fun r => by rw [← Nat.add_assoc, h1, h2]⟩
theorem Go.bd {σ1 o1 σ2 o2 : List Int} {br1 w1 br2 w2 z : Int} {b1 b2 : Bool} {i1 i2 : Nat} (h1 : Go F n σ1 o1 br1 w1 b1 i1 σ2 o2 br2 w2 b2 i2) (h2 : Bd F n σ2 o2 br2 w2 b2 i2 z) : Bd F n σ1 o1 br1 w1 b1 i1 z := by
  obtain ⟨k1, h1⟩ := h1
  obtain ⟨k2, j, o3, h2⟩ := h2
  exact ⟨k2 + k1, j, o3, fun r => by rw [← Nat.add_assoc, h1, h2]⟩
def stq (s : gI) (c : Int) (L : List Int) : Prop := ∀ j : Nat, j < L.length → codeR (L.getD j 0) (s.1 72 (1100 + c + j)) (s.1 73 (1100 + c + j))
def frK (c : Int) (s v : gI) : Prop := (∀ a : Nat, a ≠ 63 → a ≠ 72 → a ≠ 73 → v.1 a = s.1 a) ∧ v.2 = s.2 ∧ (∀ j, j < 1100 + c → v.1 72 j = s.1 72 j ∧ v.1 73 j = s.1 73 j) ∧ ∀ j, j ≠ 7 → j ≠ 8 → j ≠ 15 → v.1 63 j = s.1 63 j
theorem frK.rf : frK c s s := ⟨fun _ _ _ _ => rfl, rfl, fun _ _ => ⟨rfl, rfl⟩, fun _ _ _ _ => rfl⟩
theorem frK.tr {c2 : Int} (h1 : frK c s u) (h2 : frK c2 u v) (h : c ≤ c2) : frK c s v := ⟨fun a q1 q2 q3 => (h2.1 a q1 q2 q3).trans (h1.1 a q1 q2 q3), h2.2.1.trans h1.2.1, fun j hj => ⟨(h2.2.2.1 j (by omega)).1.trans (h1.2.2.1 j hj).1, (h2.2.2.1 j (by omega)).2.trans (h1.2.2.1 j hj).2⟩, fun j q1 q2 q3 => (h2.2.2.2 j q1 q2 q3).trans (h1.2.2.2 j q1 q2 q3)⟩
theorem frK.wr {x y : Int} (hx : x = 7 ∨ x = 8 ∨ x = 15) : frK c s (iw s 63 x y) := ⟨fun a q1 _ _ => iw_ne q1, rfl, fun j _ => ⟨by rw [iw_ne (by decide)], by rw [iw_ne (by decide)]⟩, fun j q1 q2 q3 => by rw [iw_at, zup_ne (by omega)]⟩
theorem stq_fr {c2 : Int} (h : stq s c L) (hf : frK c2 s v) (hc : c + L.length ≤ c2) : stq v c L := fun j hj => by
  have := hf.2.2.1 (1100 + c + j) (by omega)
  rw [this.1, this.2]
  exact h j hj
theorem stq_app {L2 : List Int} (h1 : stq s c L) (h2 : stq s (c + L.length) L2) : stq s c (L ++ L2) := fun j hj => by
  rw [List.length_append] at hj
  by_cases g : j < L.length
  · rw [getD_l g]; exact h1 j g
  · have := h2 (j - L.length) (by omega)
    rw [getD_r (by omega)]
    rw [show 1100 + (c + (L.length : Int)) + ((j - L.length : Nat) : Int) = 1100 + c + j by omega] at this
    exact this
theorem stq_nil : stq s c [] := fun j hj => by cases hj
/-- how high numbers pile up: below m, from b to b2 -/
def wl (m : Int) : List Int → Int → Int → Prop
  | [], b, b2 => b2 = b
  | c :: L, b, b2 => if c < 10003 then b < m ∧ wl m L (b + 1) b2 else if c = 10003 then 1 ≤ b ∧ wl m L b b2 else 2 ≤ b ∧ wl m L (b - 1) b2
theorem wl_app {m : Int} : ∀ {L1 L2 : List Int} {b b2 b3 : Int}, wl m L1 b b2 → wl m L2 b2 b3 → wl m (L1 ++ L2) b b3
  | [], L2, b, b2, b3, h1, h2 => by
    have h1 : b2 = b := h1
    rw [← h1]; exact h2
  | c :: L1, L2, b, b2, b3, h1, h2 => by
    show (if c < 10003 then b < m ∧ wl m (L1 ++ L2) (b + 1) b3 else if c = 10003 then 1 ≤ b ∧ wl m (L1 ++ L2) b b3 else 2 ≤ b ∧ wl m (L1 ++ L2) (b - 1) b3)
    have h1 : (if c < 10003 then b < m ∧ wl m L1 (b + 1) b2 else if c = 10003 then 1 ≤ b ∧ wl m L1 b b2 else 2 ≤ b ∧ wl m L1 (b - 1) b2) := h1
    by_cases g : c < 10003
    · rw [if_pos g] at h1 ⊢
      exact ⟨h1.1, wl_app h1.2 h2⟩
    · rw [if_neg g] at h1 ⊢
      by_cases g2 : c = 10003
      · rw [if_pos g2] at h1 ⊢
        exact ⟨h1.1, wl_app h1.2 h2⟩
      · rw [if_neg g2] at h1 ⊢
        exact ⟨h1.1, wl_app h1.2 h2⟩
theorem wl_op {m b : Int} (h : 10003 < c) (hb : 2 ≤ b) : wl m [c] b (b - 1) := by
  show (if c < 10003 then b < m ∧ wl m [] (b + 1) (b - 1) else if c = 10003 then 1 ≤ b ∧ wl m [] b (b - 1) else 2 ≤ b ∧ wl m [] (b - 1) (b - 1))
  rw [if_neg (by omega), if_neg (by omega)]
  exact ⟨hb, rfl⟩
/-- what may stand behind: no sign that would have been taken -/
def nxL (F : Int → Int) (n l : Int) (i : Nat) : Prop := (l ≤ 4 → ¬ isS F n (tP F n i) 42) ∧ (l ≤ 3 → ¬ isS F n (tP F n i) 43 ∧ ¬ isS F n (tP F n i) 45) ∧ (l ≤ 1 → ¬ isW F n (tP F n i) 21 ∧ ¬ isW F n (tP F n i) 22)
def cl2 (F : Int → Int) (n l : Int) (i : Nat) (τ σ : List Int) : Prop := l ≤ 2 → (isS F n (tP F n i) 60 ∨ isS F n (tP F n i) 61) → top (rlR 3 (τ ++ σ)) = 2
/-- read up to i2 at a level: codes L; run comes there too -/
def lvOK (F : Int → Int) (n l d : Int) (i : Nat) (c : Int) (v : gI) (i2 : Nat) (L : List Int) : Prop := mAt F n i2 v ∧ v.1 63 15 = c + L.length ∧ i + L.length ≤ i2 ∧ i < i2 ∧ stq v c L ∧ (∀ b m : Int, 0 ≤ b → b + 4 * (5 - d) + (6 - l) ≤ m → wl m L b (b + 1)) ∧ nxL F n l i2 ∧
  ∀ (σ o : List Int) (br : Nat), top σ < l → ∃ τ o2, Go F n σ o br d true i (τ ++ σ) o2 br d false i2 ∧ o2 ++ τ = o ++ L ∧ (∀ x, x ∈ τ → l ≤ str x) ∧ cl2 F n l i2 τ σ
def lvBad (F : Int → Int) (n l d : Int) (i : Nat) (c : Int) (v : gI) (z : Int) : Prop := mBad z v ∧ c ≤ v.1 63 15 ∧ v.1 63 15 ≤ 1000 + 4 * (5 - d) + (5 - l) ∧ ∀ (σ o : List Int) (br : Nat), top σ < l → Bd F n σ o br d true i z
def lvOut (F : Int → Int) (n l d : Int) (i : Nat) (c : Int) (s v : gI) : Prop := frK c s v ∧ ((∃ i2 L, lvOK F n l d i c v i2 L) ∨ ∃ z, lvBad F n l d i c v z)
/-- what a reader of a level keeps -/
def rdr (F : Int → Int) (n l d : Int) (P : gI → Option gI) : Prop := ∀ (s : gI) (i : Nat) (c : Int), mAt F n i s → s.1 63 15 = c → 0 ≤ c → c ≤ i → ∃ v, P s = some v ∧ lvOut F n l d i c s v
theorem m_emit {x y : Int} (hc : s.1 63 15 = c) (c0 : 0 ≤ c) (c1 : c < 1100) : ∃ v, f207 N x y s = some v ∧ frK c s v ∧ v.1 63 15 = c + 1 ∧ v.1 63 7 = s.1 63 7 ∧ v.1 63 8 = s.1 63 8 ∧ v.1 72 (1100 + c) = x ∧ v.1 73 (1100 + c) = y := by
  unfold f207
  rw [hc, iov_ok (by omega) (by omega), ick_ok (by omega) (by omega)]
  try dsimp only
  rw [iw_ne (by decide), hc, iov_ok (by omega) (by omega), ick_ok (by omega) (by omega), iw_ne (by decide), iw_ne (by decide), hc, iov_ok (by omega) (by omega)]
  refine ⟨_, rfl, ⟨fun a q1 q2 q3 => by rw [iw_ne q1, iw_ne q3, iw_ne q2], rfl, fun j hj => ⟨?_, ?_⟩, fun j q1 q2 q3 => ?_⟩, ?_, ?_, ?_, ?_, ?_⟩
  · rw [iw_ne (by decide), iw_ne (by decide), iw_at, zup_ne (by omega)]
  · rw [iw_ne (by decide), iw_at, zup_ne (by omega), iw_ne (by decide)]
  · rw [iw_at, zup_ne q3, iw_ne (by decide), iw_ne (by decide)]
  · rw [iw_at, zup_same]
  · rw [iw_at, zup_ne (by decide), iw_ne (by decide), iw_ne (by decide)]
  · rw [iw_at, zup_ne (by decide), iw_ne (by decide), iw_ne (by decide)]
  · rw [iw_ne (by decide), iw_ne (by decide), iw_at, zup_same]
  · rw [iw_ne (by decide), iw_at, zup_same]
theorem mAt_K (h : mAt F n i s) (hf : frK c s v) (e7 : v.1 63 7 = s.1 63 7) (e8 : v.1 63 8 = s.1 63 8) : mAt F n i v := h.of (hf.1 65 (by decide) (by decide) (by decide)) (hf.1 66 (by decide) (by decide) (by decide)) (by rw [hf.2.1]) (by rw [hf.2.1]) e7 e8
theorem rl_all (hk : ∀ x, x ∈ τ → k ≤ str x) (ht : top σ < k) : rlR k (τ ++ σ) = σ ∧ rlP k (τ ++ σ) = τ := by
  induction τ with
  | nil =>
    cases σ with
    | nil => exact ⟨rfl, rfl⟩
    | cons x σ =>
      have ht : str x < k := ht
      exact ⟨if_neg (by omega), if_neg (by omega)⟩
  | cons x τ ih =>
    have h1 := hk x (List.mem_cons_self)
    obtain ⟨i1, i2⟩ := ih (fun y hy => hk y (List.mem_cons_of_mem _ hy))
    refine ⟨?_, ?_⟩
    · show (if k ≤ str x then rlR k (τ ++ σ) else x :: (τ ++ σ)) = σ
      rw [if_pos h1]; exact i1
    · show (if k ≤ str x then x :: rlP k (τ ++ σ) else []) = x :: τ
      rw [if_pos h1, i2]
theorem jstep (hj : jc F n i = c) (hc : 10004 ≤ c ∧ c ≤ 10010) (hk : ∀ x, x ∈ τ → (if str c = 2 then 3 else str c) ≤ str x) (ht : top σ < str c) : Go F n (τ ++ σ) o br w false i (c :: σ) (o ++ τ) br w true (i + 1) := by
  refine ⟨1, fun r => ?_⟩
  show run F n (r + 1) (τ ++ σ) o br w false i = _
  conv => lhs; unfold run
  rw [hj, if_neg (by omega), if_neg (by omega)]
  by_cases g : str c = 2
  · rw [if_pos g] at hk
    obtain ⟨a1, a2⟩ := rl_all hk (show top σ < 3 by omega)
    rw [if_pos g, a1, a2, if_neg (by omega)]
  · rw [if_neg g] at hk
    obtain ⟨a1, a2⟩ := rl_all hk ht
    rw [if_neg g, a1, a2]
/-- a sign, what it joins, its code: one turn of a loop -/
theorem opd (hT : tpF F n) (hP : rdr F n (l + 1) d P) (l1 : 1 ≤ l) (l4 : l ≤ 4) (d0 : 0 ≤ d) (d5 : d ≤ 5) {c op : Int} {i : Nat} {cc : Int} (hs : str cc = l) (hcc : 10004 ≤ cc ∧ cc ≤ 10010) (hR : codeR cc op 0) (hj : jc F n i = cc) (hm : mAt F n i s) (hc : s.1 63 15 = c) (c0 : 0 ≤ c) (ci : c ≤ i) {α : Type} {K : gI → Option α} :
    ∃ v, (i_o1 (P (iw s 63 7 ((i : Int) + 1))) fun s4 => i_o1 (f207 N op 0 s4) K) = K v ∧ frK c s v ∧
      ((∃ i2 L, mAt F n i2 v ∧ v.1 63 15 = c + (L ++ [cc]).length ∧ i + (L ++ [cc]).length ≤ i2 ∧ stq v c (L ++ [cc]) ∧ (∀ b m : Int, 1 ≤ b → b + 4 * (5 - d) + (5 - l) ≤ m → wl m (L ++ [cc]) b b) ∧ nxL F n (l + 1) i2 ∧
        ∀ (τ σ o : List Int) (br : Nat), (∀ x, x ∈ τ → (if l = 2 then 3 else l) ≤ str x) → top σ < l → ∃ τ2 o2, Go F n (τ ++ σ) o br d false i ((τ2 ++ [cc]) ++ σ) o2 br d false i2 ∧ o2 ++ (τ2 ++ [cc]) = o ++ τ ++ (L ++ [cc]) ∧ (∀ x, x ∈ τ2 → l + 1 ≤ str x) ∧ cl2 F n (l + 1) i2 τ2 (cc :: σ)) ∨
       (∃ z, mBad z v ∧ c ≤ v.1 63 15 ∧ v.1 63 15 ≤ 1000 + 4 * (5 - d) + (5 - l) ∧ ∀ (τ σ o : List Int) (br : Nat), (∀ x, x ∈ τ → (if l = 2 then 3 else l) ≤ str x) → top σ < l → Bd F n (τ ++ σ) o br d false i z)) := by
  have k0 : tK F n (tP F n i) ≠ 0 := (jc_rg (by omega)).1
  have hm2 := mAt_up hm k0
  have i1 := (mAt_i hT hm2).1
  obtain ⟨v1, a1, a2, a3⟩ := hP _ (i + 1) c hm2 (by rw [iw_at, zup_ne (by decide)]; exact hc) c0 (by omega)
  rw [a1, i_o1_some]
  have f0 : frK c s v1 := (frK.wr (Or.inl rfl)).tr a2 (Int.le_refl _)
  rcases a3 with ⟨i2, L, h1, h2, h3, h4, h5, h6, h7, h8⟩ | ⟨z, h1, h2, h3, h4⟩
  · have i3 := (mAt_i hT h1).1
    obtain ⟨v, b1, b2, b3, b4, b5, b6, b7⟩ := m_emit (N := N) (s := v1) (x := op) (y := 0) h2 (by omega) (by omega)
    rw [b1, i_o1_some]
    have el : ((L ++ [cc]).length : Int) = (L.length : Int) + 1 := by rw [List.length_append]; rfl
    refine ⟨v, rfl, f0.tr b2 (by omega), Or.inl ⟨i2, L, mAt_K h1 b2 b4 b5, by rw [b3, el]; omega, by omega, ?_, fun b m hb hbm => ?_, h7, fun τ σ o br hk ht => ?_⟩⟩
    · refine stq_app (stq_fr h5 b2 (Int.le_refl _)) (fun j hj => ?_)
      have hj : j < 1 := hj
      have : j = 0 := by omega
      subst this
      rw [show 1100 + (c + (L.length : Int)) + ((0 : Nat) : Int) = 1100 + (c + L.length) by omega, b6, b7]
      exact hR
    · have w1 := h6 b m (by omega) (by omega)
      have w2 := wl_op (m := m) (b := b + 1) (c := cc) (by omega) (by omega)
      rw [show b + 1 - 1 = b by omega] at w2
      exact wl_app w1 w2
    · have j1 := jstep (o := o) (br := br) (w := d) hj hcc (τ := τ) (σ := σ) (by rw [hs]; exact hk) (by rw [hs]; exact ht)
      have tc : top (cc :: σ) < l + 1 := by show str cc < l + 1; omega
      obtain ⟨τ2, o2, g1, g2, g3, g4⟩ := h8 (cc :: σ) (o ++ τ) br tc
      refine ⟨τ2, o2, ?_, ?_, g3, g4⟩
      · have := j1.tr g1
        rw [List.append_assoc]
        exact this
      · rw [← List.append_assoc, g2]; simp only [List.append_assoc]
  · obtain ⟨v, b1, b2, b3, b4, b5, -, -⟩ := m_emit (N := N) (s := v1) (x := op) (y := 0) (c := v1.1 63 15) rfl (by omega) (by omega)
    rw [b1, i_o1_some]
    refine ⟨v, rfl, f0.tr b2 h2, Or.inr ⟨z, h1.of b4 b5, by omega, by omega, fun τ σ o br hk ht => ?_⟩⟩
    have j1 := jstep (o := o) (br := br) (w := d) hj hcc (τ := τ) (σ := σ) (by rw [hs]; exact hk) (by rw [hs]; exact ht)
    exact j1.bd (h4 (cc :: σ) (o ++ τ) br (by show str cc < l + 1; omega))
end LAWR

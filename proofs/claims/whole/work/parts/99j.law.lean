/-! Laws read: signs that wait till what they join is there. -/
section LAWM
variable {N : Nat} {s u v : gI} {F G A B C T : Int → Int} {n e st lo hi c m zn br w b k : Int} {r i lc : Nat} {σ τ o L : List Int}
def str (c : Int) : Int := if c = 10003 then 5 else if c = 10004 then 1 else if c = 10005 then 1 else if c = 10006 then 2 else if c = 10007 then 2 else if c = 10008 then 3 else if c = 10009 then 3 else if c = 10010 then 4 else 0
def top : List Int → Int
  | [] => 0
  | c :: _ => str c
def rlR (k : Int) : List Int → List Int
  | [] => []
  | c :: σ => if k ≤ str c then rlR k σ else c :: σ
def rlP (k : Int) : List Int → List Int
  | [] => []
  | c :: σ => if k ≤ str c then c :: rlP k σ else []
def enR : List Int → List Int
  | [] => []
  | c :: σ => if c = 10003 then enR σ else c :: σ
def enP : List Int → List Int
  | [] => []
  | c :: σ => if c = 10003 then c :: enP σ else []
/-- what stands next, where a part is wanted -/
def pc (F : Int → Int) (n : Int) (i : Nat) : Int := if tK F n (tP F n i) = 3 then tV F n (tP F n i) else if isW F n (tP F n i) 23 then 10000 else if isW F n (tP F n i) 24 then 10001 else if isW F n (tP F n i) 25 then 10002 else if isW F n (tP F n i) 20 then 10003 else if isS F n (tP F n i) 40 then 10011 else -1
/-- what stands next, behind a part -/
def jc (F : Int → Int) (n : Int) (i : Nat) : Int := if isW F n (tP F n i) 21 then 10004 else if isW F n (tP F n i) 22 then 10005 else if isS F n (tP F n i) 60 then 10006 else if isS F n (tP F n i) 61 then 10007 else if isS F n (tP F n i) 43 then 10008 else if isS F n (tP F n i) 45 then 10009 else if isS F n (tP F n i) 42 then 10010 else if isS F n (tP F n i) 41 then 10012 else -1
/-- how a law is read: what waits, what is told, ( ) open, how many not and ( ), whether a part is wanted, where -/
def run (F : Int → Int) (n : Int) : Nat → List Int → List Int → Int → Int → Bool → Nat → Option (Int × Nat × List Int)
  | 0, _, _, _, _, _, _ => none
  | r + 1, σ, o, br, w, true, i =>
    if pc F n i = -1 then some (1 + 16 * tP F n i, i, o)
    else if 5 ≤ w then some (5 + 16 * tP F n i, i, o)
    else if pc F n i = 10003 then run F n r (10003 :: σ) o br (w + 1) true (i + 1)
    else if pc F n i = 10011 then run F n r (10011 :: σ) o (br + 1) (w + 1) true (i + 1)
    else run F n r (enR σ) (o ++ [pc F n i] ++ enP σ) br (w - (enP σ).length) false (i + 1)
  | r + 1, σ, o, br, w, false, i =>
    if jc F n i = -1 then (if br = 0 then some (0, i, o ++ rlP 1 σ) else some (1 + 16 * tP F n i, i, o))
    else if jc F n i = 10012 then (if br = 0 then some (1 + 16 * tP F n i, i, o) else run F n r (enR (rlR 1 σ).tail) (o ++ rlP 1 σ ++ enP (rlR 1 σ).tail) (br - 1) (w - 1 - (enP (rlR 1 σ).tail).length) false (i + 1))
    else if str (jc F n i) = 2 then (if top (rlR 3 σ) = 2 then some (1 + 16 * tP F n i, i, o) else run F n r (jc F n i :: rlR 3 σ) (o ++ rlP 3 σ) br w true (i + 1))
    else run F n r (jc F n i :: rlR (str (jc F n i)) σ) (o ++ rlP (str (jc F n i)) σ) br w true (i + 1)
theorem str_rg : 0 ≤ str c ∧ str c ≤ 5 := by
  unfold str
  repeat (first | omega | split)
theorem rl_len : (rlP k σ).length + (rlR k σ).length = σ.length := by
  induction σ with
  | nil => rfl
  | cons c σ ih =>
    unfold rlP rlR
    split
    · show (rlP k σ).length + 1 + (rlR k σ).length = σ.length + 1
      omega
    · show 0 + (σ.length + 1) = σ.length + 1
      omega
theorem en_len : (enP σ).length + (enR σ).length = σ.length := by
  induction σ with
  | nil => rfl
  | cons c σ ih =>
    unfold enP enR
    split
    · show (enP σ).length + 1 + (enR σ).length = σ.length + 1
      omega
    · show 0 + (σ.length + 1) = σ.length + 1
      omega
def sto (f : Int → Int) : List Int → Prop
  | [] => True
  | c :: σ => f σ.length = c ∧ sto f σ
theorem sto_up {f : Int → Int} {x y : Int} : ∀ {σ : List Int}, sto f σ → (σ.length : Int) ≤ x → sto (zup f x y) σ
  | [], _, _ => trivial
  | c :: σ, h, hx => by
    have hx : ((σ.length + 1 : Nat) : Int) ≤ x := hx
    exact ⟨by rw [zup_ne (by omega)]; exact h.1, sto_up h.2 (by omega)⟩
def oto (f : Int → Int) (o : List Int) : Prop := ∀ j : Nat, j < o.length → f j = o.getD j 0
theorem getD_l {l1 l2 : List Int} {j : Nat} (h : j < l1.length) : (l1 ++ l2).getD j 0 = l1.getD j 0 := by
  rw [List.getD_eq_getElem?_getD, List.getD_eq_getElem?_getD, List.getElem?_append_left h]
theorem getD_r {l1 l2 : List Int} {j : Nat} (h : l1.length ≤ j) : (l1 ++ l2).getD j 0 = l2.getD (j - l1.length) 0 := by
  rw [List.getD_eq_getElem?_getD, List.getD_eq_getElem?_getD, List.getElem?_append_right h]
theorem oto_up {f : Int → Int} {y : Int} (h : oto f o) : oto (zup f o.length y) (o ++ [y]) := fun j hj => by
  have hj : j < (o ++ [y]).length := hj
  rw [List.length_append] at hj
  have hj : j < o.length + 1 := hj
  by_cases q : j = o.length
  · subst q
    rw [zup_same, getD_r (Nat.le_refl _), Nat.sub_self]
    rfl
  · rw [zup_ne (by omega), getD_l (by omega)]
    exact h j (by omega)
/-- the law's reader in the class -/
def cS (lc : Nat) (σ o : List Int) (br w b : Int) (s : gI) : Prop := s.1 4 2 = σ.length ∧ sto (s.1 5) σ ∧ s.1 4 3 = br ∧ s.1 4 4 = w ∧ s.1 4 5 = b ∧ s.1 lc 2 = o.length ∧ oto (s.1 (lc + 1)) o
def frL (lc : Nat) (s v : gI) : Prop := (∀ a : Nat, a ≠ 4 → a ≠ 5 → a ≠ lc → a ≠ lc + 1 → v.1 a = s.1 a) ∧ v.2 = s.2
theorem frL.rf : frL lc s s := ⟨fun _ _ _ _ _ => rfl, rfl⟩
theorem frL.tr (h1 : frL lc s u) (h2 : frL lc u v) : frL lc s v := ⟨fun a q1 q2 q3 q4 => (h2.1 a q1 q2 q3 q4).trans (h1.1 a q1 q2 q3 q4), h2.2.trans h1.2⟩
theorem c_add (hl : lc = 57 ∨ lc = 60) (h : cS lc σ o br w b s) (ho : o.length < 1000) : ∃ v, f23 N lc c s = some v ∧ cS lc σ (o ++ [c]) br w b v ∧ frL lc s v := by
  obtain ⟨h1, h2, h3, h4, h5, h6, h7⟩ := h
  have q1 : lc ≠ lc + 1 := by omega
  unfold f23
  rw [iov_ok (by omega) (by omega), h6, if_neg (by omega), ick_ok (by omega) (by omega)]
  try dsimp only
  rw [iw_ne (Ne.symm (show lc + 1 ≠ lc by omega)), h6, iov_ok (by omega) (by omega)]
  refine ⟨_, rfl, ⟨?_, ?_, ?_, ?_, ?_, ?_, ?_⟩, fun a a1 a2 a3 a4 => by rw [iw_ne a3, iw_ne a4], rfl⟩
  · rw [iw_ne (by omega), iw_ne (by omega)]; exact h1
  · rw [iw_ne (by omega), iw_ne (by omega)]; exact h2
  · rw [iw_ne (by omega), iw_ne (by omega)]; exact h3
  · rw [iw_ne (by omega), iw_ne (by omega)]; exact h4
  · rw [iw_ne (by omega), iw_ne (by omega)]; exact h5
  · rw [iw_at, zup_same, List.length_append]; rfl
  · rw [iw_ne (by omega), iw_at]; exact oto_up h7
theorem c_strength : f39 N c s = some (str c, s) := by
  unfold f39 str
  repeat (first | rfl | split)
theorem c_top (h : cS lc σ o br w b s) (hs : σ.length ≤ 64) : f38 N s = some (top σ, s) := by
  obtain ⟨h1, h2, -⟩ := h
  unfold f38
  rw [h1]
  cases σ with
  | nil => rw [if_pos (by rfl)]; rfl
  | cons c σ =>
    have hs : σ.length + 1 ≤ 64 := hs
    have e : (((c :: σ).length : Nat) : Int) = (σ.length : Int) + 1 := by
      show ((σ.length + 1 : Nat) : Int) = _
      omega
    rw [e, if_neg (by omega), show (σ.length : Int) + 1 - 1 = σ.length by omega, iov_ok (by omega) (by omega), ick_ok (by omega) (by omega), h2.1, c_strength, i_o2_some]
    rfl
theorem c_pop (hl : lc = 57 ∨ lc = 60) (h : cS lc (c :: σ) o br w b s) (hs : σ.length ≤ 64) : ∃ v, f37 N s = some v ∧ cS lc σ o br w b v ∧ frL lc s v := by
  obtain ⟨h1, h2, h3, h4, h5, h6, h7⟩ := h
  have e : (((c :: σ).length : Nat) : Int) = (σ.length : Int) + 1 := by
    show ((σ.length + 1 : Nat) : Int) = _
    omega
  rw [e] at h1
  unfold f37
  rw [h1, show (σ.length : Int) + 1 - 1 = σ.length by omega, iov_ok (by omega) (by omega)]
  have em : (if (0 : Int) < (σ.length : Int) then (σ.length : Int) else 0) = σ.length := by
    split <;> omega
  try dsimp only
  rw [em]
  refine ⟨_, rfl, ⟨?_, ?_, ?_, ?_, ?_, ?_, ?_⟩, fun a a1 a2 a3 a4 => by rw [iw_ne a1], rfl⟩
  · rw [iw_at, zup_same]
  · rw [iw_ne (by decide)]; exact h2.2
  · rw [iw_at, zup_ne (by decide)]; exact h3
  · rw [iw_at, zup_ne (by decide)]; exact h4
  · rw [iw_at, zup_ne (by decide)]; exact h5
  · rw [iw_ne (by omega)]; exact h6
  · rw [iw_ne (by omega)]; exact h7
theorem c_push (hl : lc = 57 ∨ lc = 60) (h : cS lc σ o br w b s) (hs : σ.length < 64) : ∃ v, f36 N c s = some v ∧ cS lc (c :: σ) o br w b v ∧ frL lc s v := by
  obtain ⟨h1, h2, h3, h4, h5, h6, h7⟩ := h
  unfold f36
  rw [h1, if_neg (by omega), ick_ok (by omega) (by omega)]
  try dsimp only
  rw [iw_ne (by decide), h1, iov_ok (by omega) (by omega)]
  refine ⟨_, rfl, ⟨?_, ?_, ?_, ?_, ?_, ?_, ?_⟩, fun a a1 a2 a3 a4 => by rw [iw_ne a1, iw_ne a2], rfl⟩
  · rw [iw_at, zup_same]
    show (σ.length : Int) + 1 = ((σ.length + 1 : Nat) : Int)
    omega
  · rw [iw_ne (by decide), iw_at]
    exact ⟨zup_same _ _ _, sto_up h2 (Int.le_refl _)⟩
  · rw [iw_at, zup_ne (by decide), iw_ne (by decide)]; exact h3
  · rw [iw_at, zup_ne (by decide), iw_ne (by decide)]; exact h4
  · rw [iw_at, zup_ne (by decide), iw_ne (by decide)]; exact h5
  · rw [iw_ne (by omega), iw_ne (by omega)]; exact h6
  · rw [iw_ne (by omega), iw_ne (by omega)]; exact h7
theorem c_rel (hl : lc = 57 ∨ lc = 60) (k1 : 1 ≤ k) : ∀ (σ : List Int) (o : List Int) (fuel : Nat) (x : Int) (s : gI), cS lc σ o br w b s → 0 ≤ x → x + σ.length < 64 → o.length + σ.length < 1000 → σ.length < fuel → ∃ v, f35_at2 N lc fuel k x s = some v ∧ cS lc (rlR k σ) (o ++ rlP k σ) br w b v ∧ frL lc s v
  | [], o, fuel, x, s, h, x0, hx, ho, hf => by
    obtain ⟨fuel, rfl⟩ : ∃ g, fuel = g + 1 := ⟨fuel - 1, by omega⟩
    refine ⟨s, ?_, by rw [show rlP k [] = [] from rfl, List.append_nil]; exact h, frL.rf⟩
    unfold f35_at2
    have e : top ([] : List Int) = 0 := rfl
    have hx : x + 0 < 64 := hx
    rw [if_neg (by omega), c_top h (by decide), i_o2_some, e, if_pos (by omega)]
  | c :: σ, o, fuel, x, s, h, x0, hx, ho, hf => by
    obtain ⟨fuel, rfl⟩ : ∃ g, fuel = g + 1 := ⟨fuel - 1, by omega⟩
    have hx : x + ((σ.length + 1 : Nat) : Int) < 64 := hx
    have ho : o.length + (σ.length + 1) < 1000 := ho
    have hf : σ.length + 1 < fuel + 1 := hf
    have et : top (c :: σ) = str c := rfl
    unfold f35_at2
    rw [if_neg (by omega), c_top h (by show σ.length + 1 ≤ 64; omega), i_o2_some, et]
    unfold rlR rlP
    by_cases g : k ≤ str c
    rotate_left
    · rw [if_pos (by omega), if_neg g, if_neg g, List.append_nil]
      exact ⟨s, rfl, h, frL.rf⟩
    rw [if_neg (by omega), if_pos g, if_pos g]
    have e1 : s.1 4 2 = (σ.length : Int) + 1 := by
      rw [h.1]
      show ((σ.length + 1 : Nat) : Int) = _
      omega
    have e2 : s.1 5 σ.length = c := h.2.1.1
    rw [e1, show (σ.length : Int) + 1 - 1 = σ.length by omega, iov_ok (by omega) (by omega), ick_ok (by omega) (by omega), e2]
    obtain ⟨v1, a1, a2, a3⟩ := c_add (N := N) (c := c) hl h (by omega)
    obtain ⟨v2, b1, b2, b3⟩ := c_pop (N := N) hl a2 (by omega)
    obtain ⟨v3, d1, d2, d3⟩ := c_rel hl k1 σ (o ++ [c]) fuel (x + 1) v2 b2 (by omega) (by omega) (by rw [List.length_append]; show o.length + 1 + σ.length < 1000; omega) (by omega)
    rw [a1, i_o1_some, b1, i_o1_some, iov_ok (by omega) (by omega)]
    refine ⟨v3, d1, ?_, (a3.tr b3).tr d3⟩
    rw [List.append_assoc] at d2
    exact d2
theorem c_releaseL (hN : 5000 ≤ N) (hl : lc = 57 ∨ lc = 60) (k1 : 1 ≤ k) (h : cS lc σ o br w b s) (hs : σ.length < 64) (ho : o.length + σ.length < 1000) : ∃ v, f35 N lc k s = some v ∧ cS lc (rlR k σ) (o ++ rlP k σ) br w b v ∧ frL lc s v := c_rel hl k1 σ o N 0 s h (by decide) (by omega) ho (by omega)
theorem c_endP_lp (hl : lc = 57 ∨ lc = 60) : ∀ (σ : List Int) (o : List Int) (fuel : Nat) (x w : Int) (s : gI), cS lc σ o br w 0 s → 0 ≤ x → x + (enP σ).length ≤ 5 → σ.length ≤ 64 → o.length + σ.length < 1000 → σ.length < fuel → (-100 ≤ w - (enP σ).length ∧ w ≤ 100) → ∃ v, f34_at7 N lc fuel x s = some v ∧ cS lc (enR σ) (o ++ enP σ) br (w - (enP σ).length) 0 v ∧ frL lc s v
  | [], o, fuel, x, w, s, h, x0, hx, h64, ho, hf, hw => by
    obtain ⟨fuel, rfl⟩ : ∃ g, fuel = g + 1 := ⟨fuel - 1, by omega⟩
    refine ⟨s, ?_, ?_, frL.rf⟩
    · unfold f34_at7
      have e : top ([] : List Int) = 0 := rfl
      by_cases g : 5 ≤ x
      · rw [if_pos g]
      · rw [if_neg g, c_top h (by decide), i_o2_some, e, if_neg (by decide)]
    · rw [show enP [] = [] from rfl, List.append_nil]
      have : w - (([] : List Int).length : Int) = w := by show w - 0 = w; omega
      rw [this]
      exact h
  | c :: σ, o, fuel, x, w, s, h, x0, hx, h64, ho, hf, hw => by
    obtain ⟨fuel, rfl⟩ : ∃ g, fuel = g + 1 := ⟨fuel - 1, by omega⟩
    have h64 : σ.length + 1 ≤ 64 := h64
    have ho : o.length + (σ.length + 1) < 1000 := ho
    have hf : σ.length + 1 < fuel + 1 := hf
    have et : top (c :: σ) = str c := rfl
    unfold f34_at7
    unfold enP enR
    unfold enP at hx hw
    by_cases g : c = 10003
    rotate_left
    · rw [if_neg g] at hx hw
      rw [if_neg g, if_neg g, List.append_nil]
      have e0 : w - (([] : List Int).length : Int) = w := by show w - 0 = w; omega
      rw [e0]
      have e5 : ¬ str c = 5 := by
        unfold str
        rw [if_neg g]
        repeat (first | omega | split)
      refine ⟨s, ?_, h, frL.rf⟩
      by_cases g5 : 5 ≤ x
      · rw [if_pos g5]
      · rw [if_neg g5, c_top h h64, i_o2_some, et, if_neg e5]
    · rw [if_pos g] at hx hw
      have hw : -100 ≤ w - (((enP σ).length + 1 : Nat) : Int) ∧ w ≤ 100 := hw
      have hx : x + (((enP σ).length + 1 : Nat) : Int) ≤ 5 := hx
      have e5 : str c = 5 := by rw [g]; rfl
      rw [if_neg (by omega), if_pos g, if_pos g, c_top h h64, i_o2_some, et, if_pos e5]
      obtain ⟨v1, a1, a2, a3⟩ := c_add (N := N) (c := 10003) hl h (by omega)
      obtain ⟨v2, b1, b2, b3⟩ := c_pop (N := N) hl a2 (by omega)
      rw [a1, i_o1_some, b1, i_o1_some, b2.2.2.2.1, iov_ok (by omega) (by omega)]
      try dsimp only
      rw [iov_ok (by omega) (by omega)]
      have b4 : cS lc σ (o ++ [10003]) br (w - 1) 0 (iw v2 4 4 (w - 1)) := by
        obtain ⟨p1, p2, p3, p4, p5, p6, p7⟩ := b2
        refine ⟨?_, ?_, ?_, ?_, ?_, ?_, ?_⟩
        · rw [iw_at, zup_ne (by decide)]; exact p1
        · rw [iw_ne (by decide)]; exact p2
        · rw [iw_at, zup_ne (by decide)]; exact p3
        · rw [iw_at, zup_same]
        · rw [iw_at, zup_ne (by decide)]; exact p5
        · rw [iw_ne (by omega)]; exact p6
        · rw [iw_ne (by omega)]; exact p7
      have en := en_len (σ := σ)
      obtain ⟨v3, d1, d2, d3⟩ := c_endP_lp hl σ (o ++ [10003]) fuel (x + 1) (w - 1) _ b4 (by omega) (by omega) (by omega) (by rw [List.length_append]; show o.length + 1 + σ.length < 1000; omega) (by omega) (by omega)
      refine ⟨v3, d1, ?_, ((a3.tr b3).tr ⟨fun a q1 _ _ _ => iw_ne q1, rfl⟩).tr d3⟩
      rw [List.append_assoc] at d2
      have : w - 1 - ((enP σ).length : Int) = w - (((c :: enP σ).length : Nat) : Int) := by
        show w - 1 - ((enP σ).length : Int) = w - (((enP σ).length + 1 : Nat) : Int)
        omega
      rw [this] at d2
      rw [g]
      rw [g] at d2
      exact d2
end LAWM

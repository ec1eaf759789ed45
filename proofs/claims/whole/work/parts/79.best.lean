/-! The first of the greatest: how NEXT chooses. -/
section BEST
variable {α : Type} {p : Int → Int} {W D n t : Int} {G : Int → Int → Int}
/-- what is greater than all before -/
def up1 (a : Option (Int × α)) (g : Int) (x : α) : Option (Int × α) := match a with
  | none => some (g, x)
  | some b => if g ≤ b.1 then some b else some (g, x)
def joi (m a : Option (Int × α)) : Option (Int × α) := match m with
  | none => a
  | some b => match a with
    | none => some b
    | some c => if c.1 ≤ b.1 then some b else some c
theorem up1_joi (m a : Option (Int × α)) (g : Int) (x : α) : up1 (joi m a) g x = joi m (up1 a g x) := by
  cases m with
  | none => rfl
  | some b =>
    cases a with
    | none => rfl
    | some c =>
      show up1 (if c.1 ≤ b.1 then some b else some c) g x = joi (some b) (if g ≤ c.1 then some c else some (g, x))
      by_cases h1 : c.1 ≤ b.1
      · rw [if_pos h1]
        show (if g ≤ b.1 then some b else some (g, x)) = _
        by_cases h2 : g ≤ c.1
        · rw [if_pos h2, if_pos (by omega)]
          exact (if_pos h1).symm
        · rw [if_neg h2]
          rfl
      · rw [if_neg h1]
        show (if g ≤ c.1 then some c else some (g, x)) = _
        by_cases h2 : g ≤ c.1
        · rw [if_pos h2]
          exact (if_neg h1).symm
        · rw [if_neg h2]
          exact (if_neg (by show ¬ g ≤ b.1; omega)).symm
/-- all cells from c on -/
def flC (W : Int) (G : Int → Int → Int) (x : Int → Int → α) (t : Int) : Nat → Int → Option (Int × α) → Option (Int × α)
  | 0, _, a => a
  | r + 1, c, a => flC W G x t r (c + 1) (if c % 8 < W then up1 a (G t c) (x t c) else a)
/-- all things from t on that are in hand -/
def flT (W D : Int) (p : Int → Int) (G : Int → Int → Int) (x : Int → Int → α) : Nat → Int → Option (Int × α) → Option (Int × α)
  | 0, _, a => a
  | r + 1, t, a => flT W D p G x r (t + 1) (if p t = 64 then flC W G x t (8 * D).toNat 0 a else a)
theorem flC_joi {x : Int → Int → α} : ∀ (r : Nat) (c : Int) (m a : Option (Int × α)), flC W G x t r c (joi m a) = joi m (flC W G x t r c a)
  | 0, _, _, _ => rfl
  | r + 1, c, m, a => by
    unfold flC
    rw [← flC_joi r]
    congr 1
    split
    · exact up1_joi _ _ _ _
    · rfl
theorem joi_none (m : Option (Int × α)) : joi m none = m := by cases m <;> rfl
theorem flT_joi {x : Int → Int → α} : ∀ (r : Nat) (t : Int) (m a : Option (Int × α)), flT W D p G x r t (joi m a) = joi m (flT W D p G x r t a)
  | 0, _, _, _ => rfl
  | r + 1, t, m, a => by
    unfold flT
    rw [← flT_joi r]
    congr 1
    split
    · exact flC_joi _ _ _ _
    · rfl
/-- past the roof's edge nothing is met -/
theorem flC_skip {x : Int → Int → α} {r : Nat} (a : Option (Int × α)) : ∀ (k : Nat) (c : Int), (∀ j : Nat, j < k → ¬ (c + j) % 8 < W) → flC W G x t (k + r) c a = flC W G x t r (c + k) a
  | 0, c, _ => by rw [Nat.zero_add]; show _ = flC W G x t r (c + 0) a; rw [Int.add_zero]
  | k + 1, c, h => by
    have h0 := h 0 (by omega)
    have e0 : c + ((0 : Nat) : Int) = c := Int.add_zero c
    rw [e0] at h0
    rw [show k + 1 + r = (k + r) + 1 by omega]
    have e1 : flC W G x t (k + r + 1) c a = flC W G x t (k + r) (c + 1) (if c % 8 < W then up1 a (G t c) (x t c) else a) := rfl
    rw [e1, if_neg h0, flC_skip a k (c + 1) (fun j hj => by
      have := h (j + 1) (by omega)
      rwa [show c + ((j + 1 : Nat) : Int) = c + 1 + (j : Int) by omega] at this)]
    congr 1; omega
theorem up1_some {a : Option (Int × α)} {g : Int} {x : α} : ∃ b, up1 a g x = some b := by
  cases a with
  | none => exact ⟨_, rfl⟩
  | some b =>
    unfold up1
    by_cases h : g ≤ b.1
    · exact ⟨b, if_pos h⟩
    · exact ⟨_, if_neg h⟩
theorem flC_some {x : Int → Int → α} : ∀ (r : Nat) (c : Int) (b : Int × α), ∃ b', flC W G x t r c (some b) = some b'
  | 0, _, b => ⟨b, rfl⟩
  | r + 1, c, b => by
    unfold flC
    split
    · obtain ⟨b2, h⟩ := up1_some (a := some b) (g := G t c) (x := x t c)
      rw [h]
      exact flC_some r (c + 1) b2
    · exact flC_some r (c + 1) b
theorem flT_some {x : Int → Int → α} : ∀ (r : Nat) (t : Int) (b : Int × α), ∃ b', flT W D p G x r t (some b) = some b'
  | 0, _, b => ⟨b, rfl⟩
  | r + 1, t, b => by
    unfold flT
    split
    · obtain ⟨b2, h⟩ := flC_some (W := W) (G := G) (x := x) (t := t) (8 * D).toNat 0 b
      rw [h]
      exact flT_some r (t + 1) b2
    · exact flT_some r (t + 1) b
/-- one is chosen, where a thing is in hand -/
theorem flT_any {x : Int → Int → α} (hW : 0 < W) (hD : 0 < D) : ∀ (r : Nat) (t : Int) (a : Option (Int × α)), (∃ j : Nat, j < r ∧ p (t + j) = 64) → ∃ b, flT W D p G x r t a = some b
  | 0, _, _, ⟨j, hj, _⟩ => by omega
  | r + 1, t, a, ⟨j, hj, hp⟩ => by
    unfold flT
    by_cases h : p t = 64
    · rw [if_pos h]
      obtain ⟨k, hk⟩ : ∃ k, (8 * D).toNat = k + 1 := ⟨(8 * D).toNat - 1, by omega⟩
      rw [hk]
      unfold flC
      rw [if_pos (show (0 : Int) % 8 < W by omega)]
      obtain ⟨b, hb⟩ := up1_some (a := a) (g := G t 0) (x := x t 0)
      rw [hb]
      obtain ⟨b2, hb2⟩ := flC_some (W := W) (G := G) (x := x) (t := t) k (0 + 1) b
      rw [hb2]
      exact flT_some _ _ _
    · rw [if_neg h]
      have : j ≠ 0 := fun e => by
        subst e
        have e0 : t + ((0 : Nat) : Int) = t := Int.add_zero t
        rw [e0] at hp
        exact h hp
      exact flT_any hW hD r (t + 1) a ⟨j - 1, by omega, by rw [show t + 1 + ((j - 1 : Nat) : Int) = t + j by omega]; exact hp⟩
theorem up1_map {β : Type} (f : α → β) (a : Option (Int × α)) (g : Int) (x : α) : (up1 a g x).map (fun b => (b.1, f b.2)) = up1 (a.map (fun b => (b.1, f b.2))) g (f x) := by
  cases a with
  | none => rfl
  | some b =>
    show Option.map _ (if g ≤ b.1 then some b else some (g, x)) = (if g ≤ b.1 then some (b.1, f b.2) else some (g, f x))
    split <;> rfl
theorem flC_map {β : Type} (f : α → β) {x : Int → Int → α} : ∀ (r : Nat) (c : Int) (a : Option (Int × α)), (flC W G x t r c a).map (fun b => (b.1, f b.2)) = flC W G (fun t c => f (x t c)) t r c (a.map (fun b => (b.1, f b.2)))
  | 0, _, _ => rfl
  | r + 1, c, a => by
    unfold flC
    rw [flC_map f r]
    congr 1
    split
    · exact up1_map f _ _ _
    · rfl
theorem flT_map {β : Type} (f : α → β) {x : Int → Int → α} : ∀ (r : Nat) (t : Int) (a : Option (Int × α)), (flT W D p G x r t a).map (fun b => (b.1, f b.2)) = flT W D p G (fun t c => f (x t c)) r t (a.map (fun b => (b.1, f b.2)))
  | 0, _, _ => rfl
  | r + 1, t, a => by
    unfold flT
    rw [flT_map f r]
    congr 1
    split
    · exact flC_map f _ _ _
    · rfl
theorem flC_congr {G2 : Int → Int → Int} {x : Int → Int → α} : ∀ (r : Nat) (c : Int) (a : Option (Int × α)), (∀ d, c ≤ d → d < c + r → d % 8 < W → G t d = G2 t d) → flC W G x t r c a = flC W G2 x t r c a
  | 0, _, _, _ => rfl
  | r + 1, c, a, h => by
    unfold flC
    rw [flC_congr r (c + 1) _ (fun d d0 d1 d2 => h d (by omega) (by omega) d2)]
    congr 1
    by_cases g : c % 8 < W
    · rw [if_pos g, if_pos g, h c (by omega) (by omega) g]
    · rw [if_neg g, if_neg g]
end BEST

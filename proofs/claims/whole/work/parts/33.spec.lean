/-! What the document's words come to, over whole numbers: who is where, coming to a cell, rolling, throwing. -/
def sK (z : Int) : Int := if z = 0 then 4 else if 5 ≤ z then z else z - 1
def sX (z : Int) : Int := sK z % 3 - 1
def sY (z : Int) : Int := sK z / 3 - 1
/-- the last of k things, but one, at a place -/
def occ (p : Int → Int) (c but : Int) : Nat → Int
  | 0 => -1
  | k + 1 => if (k : Int) = but then occ p c but k else if p k = c then k else occ p c but k
def cTo (W D : Int) (tl o : Int → Int) (x y : Int) : Int :=
  if x < 0 then 64 else if W ≤ x then 64 else if y < D then (if 0 ≤ y then (if tl (8 * y + x) = 8 then -1 else if o (8 * y + x) < 0 then (if tl (8 * y + x) = 7 then (if o (128 + (8 * y + x)) < 0 then 128 + (8 * y + x) else 64) else 8 * y + x) else -1) else 65) else 64
def ac (t : Int) : Int := if t = 3 then -1 else if t = 4 then 1 else 0
def al (t : Int) : Int := if t = 1 then 1 else if t = 2 then -1 else 0
def nxt (W D : Int) (tl o : Int → Int) (c : Int) : Int := if ac (tl c) = 0 ∧ al (tl c) = 0 then -1 else cTo W D tl o (c % 8 + ac (tl c)) (c / 8 + al (tl c))
/-- a roll of so many steps at most -/
def roll (W D : Int) (tl o : Int → Int) : Nat → (Int → Bool) → Int → Int
  | 0, _, c => c
  | k + 1, met, c =>
    if nxt W D tl o c < 0 then c else if 64 ≤ nxt W D tl o c then nxt W D tl o c else if met (nxt W D tl o c) = true then c
    else roll W D tl o k (fun j => met j || decide (j = nxt W D tl o c)) (nxt W D tl o c)
/-- how wide, how deep, tiles, how many things, of what kinds -/
abbrev Cf : Type := Int × Int × (Int → Int) × Nat × (Int → Int)
def rf (k : Int) : Nat := if k = 0 then 64 else if k = 2 then 1 else 0
def exO (Q : Cf) (p : Int → Int) (t : Int) : Int → Int := fun c => occ p c t Q.2.2.2.1
def to1 (Q : Cf) (p : Int → Int) (t x y : Int) : Int := cTo Q.1 Q.2.1 Q.2.2.1 (exO Q p t) x y
def rollT (Q : Cf) (p : Int → Int) (t c : Int) : Int := roll Q.1 Q.2.1 Q.2.2.1 (exO Q p t) (rf (Q.2.2.2.2 t)) (fun j => decide (j = c)) c
def rollsOn (Q : Cf) (p : Int → Int) (t : Int) : Int → Int := if 64 ≤ p t then p else zup p t (rollT Q p t (p t))
def knock (Q : Cf) (p : Int → Int) (t x y : Int) (stick : Bool) : Int → Int :=
  if 0 ≤ to1 Q p t x (y + 1) then
    rollsOn Q (zup p t (if stick = true ∧ to1 Q p t x (y + 1) < 64 ∧ 0 ≤ to1 Q (zup p t (to1 Q p t x (y + 1))) t x (y + 2) then to1 Q (zup p t (to1 Q p t x (y + 1))) t x (y + 2) else to1 Q p t x (y + 1))) t
  else p
def thrown (Q : Cf) (p : Int → Int) (t x y : Int) : Int → Int :=
  if x < 0 ∨ Q.1 ≤ x ∨ Q.2.1 ≤ y ∨ y < 0 then zup p t (if y < 0 ∧ 0 ≤ x ∧ x < Q.1 then 65 else 64)
  else if 0 ≤ occ (zup p t 64) (8 * y + x) t Q.2.2.2.1 then
    rollsOn Q (zup (knock Q (zup p t 64) (occ (zup p t 64) (8 * y + x) t Q.2.2.2.1) x y (decide (Q.2.2.2.2 t = 3))) t
      (if knock Q (zup p t 64) (occ (zup p t 64) (8 * y + x) t Q.2.2.2.1) x y (decide (Q.2.2.2.2 t = 3)) (occ (zup p t 64) (8 * y + x) t Q.2.2.2.1) = 8 * y + x then 64 else 8 * y + x)) t
  else rollsOn Q (zup (zup p t 64) t (if to1 Q (zup p t 64) t x y < 0 then 64 else to1 Q (zup p t 64) t x y)) t
/-- a part of a row of numbers -/
def sh (b : Int) (f : Int → Int) : Int → Int := fun j => f (b + j)
def unsh (b : Int) (p : Int → Int) : Int → Int := fun j => p (j - b)
theorem sh_at (b : Int) (f : Int → Int) (j : Int) : sh b f j = f (b + j) := rfl
theorem sh_zup (b : Int) (f : Int → Int) (t x : Int) : sh b (zup f (b + t) x) = zup (sh b f) t x := by
  funext j
  unfold sh zup
  by_cases h : j = t
  · rw [if_pos h, if_pos (by omega)]
  · rw [if_neg h, if_neg (by omega)]
theorem sh_unsh (b : Int) (p : Int → Int) : sh b (unsh b p) = p := by
  funext j
  unfold sh unsh
  congr 1; omega
theorem unsh_sh (b : Int) (f : Int → Int) : unsh b (sh b f) = f := by
  funext j
  unfold sh unsh
  dsimp only
  congr 1; omega
theorem zup_unsh (b : Int) (p : Int → Int) (t x : Int) : zup (unsh b p) (b + t) x = unsh b (zup p t x) := by
  funext j
  unfold unsh zup
  dsimp only
  by_cases h : j = b + t
  · rw [if_pos h, if_pos (by omega)]
  · rw [if_neg h, if_neg (by omega)]
/-- how many of the first k hold -/
def cntB (f : Int → Bool) : Nat → Nat
  | 0 => 0
  | k + 1 => cntB f k + if f k = true then 1 else 0
theorem cntB_le (f : Int → Bool) : ∀ k, cntB f k ≤ k
  | 0 => Nat.le_refl _
  | k + 1 => by
    have := cntB_le f k
    unfold cntB
    split <;> omega
theorem cntB_add (f : Int → Bool) (c : Int) (h0 : 0 ≤ c) (hf : f c = false) : ∀ k : Nat, cntB (fun j => f j || decide (j = c)) k = cntB f k + if c < k then 1 else 0
  | 0 => by simp only [cntB]; rw [if_neg (by omega)]
  | k + 1 => by
    have ih := cntB_add f c h0 hf k
    unfold cntB
    rw [ih]
    by_cases hk : (k : Int) = c
    · have a1 : ¬ c < (k : Int) := by omega
      have a2 : c < ((k + 1 : Nat) : Int) := by omega
      rw [if_neg a1, if_pos a2, hk, hf]
      simp
    · have e : (decide ((k : Int) = c)) = false := decide_eq_false hk
      simp only [e, Bool.or_false]
      by_cases h2 : c < k
      · have a2 : c < ((k + 1 : Nat) : Int) := by omega
        rw [if_pos h2, if_pos a2]; omega
      · have a2 : ¬ c < ((k + 1 : Nat) : Int) := by omega
        rw [if_neg h2, if_neg a2]; omega
theorem occ_rg (p : Int → Int) (c but : Int) : ∀ k : Nat, -1 ≤ occ p c but k ∧ occ p c but k < k
  | 0 => ⟨by simp [occ], by simp [occ]⟩
  | k + 1 => by
    have := occ_rg p c but k
    unfold occ
    split
    · omega
    · split <;> omega
theorem cTo_rg (W D : Int) (tl o : Int → Int) {x y : Int} (hW : W ≤ 8) (hD : D ≤ 8) : cTo W D tl o x y = -1 ∨ cTo W D tl o x y = 64 ∨ cTo W D tl o x y = 65 ∨ (0 ≤ x ∧ x < W ∧ 0 ≤ y ∧ y < D ∧ (cTo W D tl o x y = 8 * y + x ∨ cTo W D tl o x y = 128 + (8 * y + x))) := by
  unfold cTo
  split
  · omega
  · split
    · omega
    · split
      · split
        · split
          · omega
          · split
            · split
              · split <;> omega
              · omega
            · omega
        · omega
      · omega
theorem nxt_rg (W D : Int) (tl o : Int → Int) {c : Int} (hW : W ≤ 8) (hD : D ≤ 8) : -1 ≤ nxt W D tl o c ∧ nxt W D tl o c < 192 ∧ (nxt W D tl o c < 64 → nxt W D tl o c = -1 ∨ 0 ≤ nxt W D tl o c) := by
  unfold nxt
  split
  · omega
  · have := cTo_rg W D tl o (x := c % 8 + ac (tl c)) (y := c / 8 + al (tl c)) hW hD
    omega
theorem ac_rg (z : Int) : -1 ≤ ac z ∧ ac z ≤ 1 := by
  unfold ac
  split
  · omega
  · split <;> omega
theorem al_rg (z : Int) : -1 ≤ al z ∧ al z ≤ 1 := by
  unfold al
  split
  · omega
  · split <;> omega

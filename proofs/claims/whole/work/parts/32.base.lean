/-! Rules for the plain functions: checks that hold, memory, frames. -/
section BASE
variable {α β γ : Type}
theorem ick_ok {i n : Int} {k : Option α} (h1 : 0 ≤ i) (h2 : i < n) : ick i n k = k := if_pos ⟨h1, h2⟩
theorem iov_ok {x : Int} {k : Option α} (h1 : -2147483648 ≤ x) (h2 : x ≤ 2147483647) : iov x k = k := if_pos ⟨h1, h2⟩
theorem iol_ok {x : Int} {k : Option α} (h1 : -9223372036854775808 ≤ x) (h2 : x ≤ 9223372036854775807) : iol x k = k := if_pos ⟨h1, h2⟩
theorem idv_ok {x y : Int} {k : Option α} (h1 : 0 ≤ x) (h2 : 0 < y) : idv x y k = k := if_pos ⟨h1, h2⟩
theorem ib1_ok {x : Int} {k : Option α} (h : x = 0 ∨ x = 1) : ib1 x k = k := if_pos h
theorem ich_ok {x : Int} {k : Option α} (h1 : 0 ≤ x) (h2 : x < 65536) : ich x k = k := if_pos ⟨h1, h2⟩
theorem icp_ok {sp dp n na nd : Int} {k : Option α} (h1 : 0 ≤ sp) (h2 : 0 ≤ dp) (h3 : 0 ≤ n) (h4 : sp + n ≤ na) (h5 : dp + n ≤ nd) : icp sp dp n na nd k = k := if_pos ⟨h1, h2, h3, h4, h5⟩
theorem i_o2_some {x : α} {s : γ} {k : α → γ → Option β} : i_o2 (some (x, s)) k = k x s := rfl
theorem i_o1_some {s : γ} {k : γ → Option β} : i_o1 (some s) k = k s := rfl
end BASE
def zup (f : Int → Int) (i x : Int) : Int → Int := fun j => if j = i then x else f j
def zcpy (f g : Int → Int) (sp dp n : Int) : Int → Int := fun j => if dp ≤ j ∧ j < dp + n then f (sp + (j - dp)) else g j
theorem zup_same (f : Int → Int) (i x : Int) : zup f i x i = x := if_pos rfl
theorem zup_ne {f : Int → Int} {i x j : Int} (h : j ≠ i) : zup f i x j = f j := if_neg h
theorem zup_zup (f : Int → Int) (i x y : Int) : zup (zup f i x) i y = zup f i y := by
  funext j
  unfold zup
  split <;> rfl
theorem zup_self (f : Int → Int) (i : Int) : zup f i (f i) = f := by
  funext j
  unfold zup
  split
  · rename_i h; rw [h]
  · rfl
theorem zup_comm (f : Int → Int) {i j : Int} (h : i ≠ j) (x y : Int) : zup (zup f i x) j y = zup (zup f j y) i x := by
  funext k
  unfold zup
  by_cases h1 : k = j
  · by_cases h2 : k = i
    · exact absurd (h2.symm.trans h1) h
    · rw [if_pos h1, if_neg h2, if_pos h1]
  · by_cases h2 : k = i
    · rw [if_neg h1, if_pos h2, if_pos h2]
    · rw [if_neg h1, if_neg h2, if_neg h2, if_neg h1]
section MEM
variable {s : gI} {a b d : Nat} {i x sp dp n : Int}
theorem iw_at : (iw s a i x).1 a = zup (s.1 a) i x := by
  funext j
  show (if a = a ∧ j = i then x else s.1 a j) = if j = i then x else s.1 a j
  by_cases h : j = i
  · rw [if_pos ⟨rfl, h⟩, if_pos h]
  · rw [if_neg (fun q => h q.2), if_neg h]
theorem iw_ne (h : b ≠ a) : (iw s a i x).1 b = s.1 b := by
  funext j
  exact if_neg (fun q => h q.1)
theorem iw_2 : (iw s a i x).2 = s.2 := rfl
theorem iwl_1 : (iwl s a i x).1 = s.1 := rfl
theorem iwl_at : (iwl s a i x).2 a = zup (s.2 a) i x := by
  funext j
  show (if a = a ∧ j = i then x else s.2 a j) = if j = i then x else s.2 a j
  by_cases h : j = i
  · rw [if_pos ⟨rfl, h⟩, if_pos h]
  · rw [if_neg (fun q => h q.2), if_neg h]
theorem iwl_ne (h : b ≠ a) : (iwl s a i x).2 b = s.2 b := by
  funext j
  exact if_neg (fun q => h q.1)
theorem icw_at : (icw s a d sp dp n).1 d = zcpy (s.1 a) (s.1 d) sp dp n := by
  funext j
  exact if_pos rfl
theorem icw_ne (h : b ≠ d) : (icw s a d sp dp n).1 b = s.1 b := by
  funext j
  exact if_neg h
theorem icw_2 : (icw s a d sp dp n).2 = s.2 := rfl
end MEM
/-- nothing but these cells has changed -/
def frm (l : List Nat) (s t : gI) : Prop := ∀ a, a ∉ l → t.1 a = s.1 a ∧ t.2 a = s.2 a
section FRM
variable {l l2 : List Nat} {s t u : gI} {a d : Nat} {i x sp dp n : Int}
theorem frm.rf : frm l s s := fun _ _ => ⟨rfl, rfl⟩
theorem frm.tr (h1 : frm l s t) (h2 : frm l t u) : frm l s u := fun a ha => ⟨(h2 a ha).1.trans (h1 a ha).1, (h2 a ha).2.trans (h1 a ha).2⟩
theorem frm.mo (h : frm l s t) (hl : ∀ a ∈ l, a ∈ l2) : frm l2 s t := fun a ha => h a (fun q => ha (hl a q))
theorem frm.w (h : frm l s t) (ha : a ∈ l) : frm l s (iw t a i x) := fun b hb => by
  have hn : b ≠ a := fun q => hb (q ▸ ha)
  rw [iw_ne hn, iw_2]
  exact h b hb
theorem frm.wl (h : frm l s t) (ha : a ∈ l) : frm l s (iwl t a i x) := fun b hb => by
  have hn : b ≠ a := fun q => hb (q ▸ ha)
  rw [iwl_1, iwl_ne hn]
  exact h b hb
theorem frm.cw (h : frm l s t) (ha : d ∈ l) : frm l s (icw t a d sp dp n) := fun b hb => by
  have hn : b ≠ d := fun q => hb (q ▸ ha)
  rw [icw_ne hn, icw_2]
  exact h b hb
end FRM
/-- one cell whole -/
def ic (s : gI) (a : Nat) (F : Int → Int) : gI := (fun b => if b = a then F else s.1 b, s.2)
section IC
variable {s : gI} {a b : Nat} {F G : Int → Int} {i x : Int}
theorem ic_at : (ic s a F).1 a = F := if_pos rfl
theorem ic_ne (h : b ≠ a) : (ic s a F).1 b = s.1 b := if_neg h
theorem ic_l : (ic s a F).2 = s.2 := rfl
theorem gI_ext {s t : gI} (h1 : ∀ a, s.1 a = t.1 a) (h2 : s.2 = t.2) : s = t := Prod.ext (funext h1) h2
theorem ic_ic : ic (ic s a F) a G = ic s a G := gI_ext (fun b => by
  by_cases h : b = a
  · subst h; rw [ic_at, ic_at]
  · rw [ic_ne h, ic_ne h, ic_ne h]) rfl
theorem ic_comm (h : a ≠ b) : ic (ic s a F) b G = ic (ic s b G) a F := gI_ext (fun c => by
  by_cases h1 : c = b
  · subst h1; rw [ic_at, ic_ne (Ne.symm h), ic_at]
  · rw [ic_ne h1]
    by_cases h2 : c = a
    · subst h2; rw [ic_at, ic_at]
    · rw [ic_ne h2, ic_ne h2, ic_ne h1]) rfl
theorem ic_self : ic s a (s.1 a) = s := gI_ext (fun b => by
  by_cases h : b = a
  · subst h; rw [ic_at]
  · rw [ic_ne h]) rfl
theorem iw_ic : iw s a i x = ic s a (zup (s.1 a) i x) := gI_ext (fun b => by
  by_cases h : b = a
  · subst h; rw [iw_at, ic_at]
  · rw [iw_ne h, ic_ne h]) rfl
theorem frm.c {l : List Nat} {t : gI} (h : frm l s t) (ha : a ∈ l) : frm l s (ic t a F) := fun b hb => by
  have hn : b ≠ a := fun q => hb (q ▸ ha)
  rw [ic_ne hn, ic_l]
  exact h b hb
end IC

/-! What of the machine a plain memory stands for. -/
/-- a plain value as the machine's: cells by their addresses; .float stands for a value that is only handed on -/
def g_cv (ad : Nat → Nat) (fv : Value) (v : Value) : Value := match v with
  | .ref k => .ref (ad k)
  | .float _ => fv
  | v => v
/-- the fixed things of a launch: the classes' numbers, the arrays', where cells lie, the handed-on value, the first address that is ours, the constants, the script -/
abbrev gX : Type := va_G × (Nat → ClassId) × (Nat → Nat) × Value × Nat × gC × (Nat → Int32) × Nat
def g_fld (X : gX) (m : gM) (k i t : Nat) : Value := match t with
  | 1 => .long (m.2.1 k i)
  | 2 => g_cv X.2.2.1 X.2.2.2.1 (g_ref (m.2.2.1 k i))
  | _ => .int (m.1 k i)
def g_ent (X : gX) (m : gM) (k : Nat) (q : Nat × Nat) : va_E := match q.1 with
  | 0 => .inr (q.2, (g_kinds.getD q.2 []).mapIdx fun i t => g_fld X m k i t)
  | 2 => .inl (X.2.1 2, q.2, .inr (.inl (m.2.1 k)))
  | t => .inl (X.2.1 t, q.2, .inl (m.1 k))
def g_ws (X : gX) (m : gM) : va_W := m.2.2.2.1.mapIdx fun k q => (X.2.2.1 k, g_ent X m k q)
abbrev g_A (X : gX) : Nat → Prop := fun q => X.2.2.2.2.1 ≤ q
def g_W (X : gX) (m : gM) (H : Heap) : Prop :=
  va_P X.1 g_cls (g_ws X m) H ∧ va_D (g_A X) (g_ws X m) ∧
  (∀ q ∈ m.2.2.2.1, (q.1 = 0 ∧ q.2 < 13) ∨ (1 ≤ q.1 ∧ q.1 ≤ 4)) ∧
  (∀ (k : Nat) (q : Nat × Nat), m.2.2.2.1[k]? = some q → ∀ i j : Nat, m.2.2.1 k i = j + 1 → j < m.2.2.2.1.length ∨ 1000 ≤ j) ∧
  m.1 2000 = X.2.2.2.2.2.2.1 ∧ m.2.2.2.2 = X.2.2.2.2.2.2.2
def g_tys (X : gX) : List (ClassId × FieldType) := [(X.2.1 1, .int), (X.2.1 2, .long), (X.2.1 3, .char), (X.2.1 4, .boolean)]
def g_isN (w : Cond) : Bool := match w with
  | .methodLinkNest .. => true
  | .fieldLinkNest .. => true
  | _ => false
def g_Kn (X : gX) (U : State) : Prop := va_K X.1 g_cls (g_tys X) U ∧ ∀ w ∈ lw_tbl, g_isN w = true → va_Nw w U
/-- the constants: arrays (11 of ints, 13 of bytes), texts (10); the statics; which text a literal is; the script -/
def g_Kc (X : gX) (U : State) (H : Heap) : Prop :=
  (∀ (k : Nat) (q : Nat × Nat), X.2.2.2.2.2.1.1[k]? = some q → match q.1 with
    | 11 => va_T .int (X.2.2.1 (1000 + k)) q.2 (fun j => .int (X.2.2.2.2.2.1.2.1 (1000 + k) j)) (g_A X) U H
    | 13 => va_T .byte (X.2.2.1 (1000 + k)) q.2 (fun j => .int (X.2.2.2.2.2.1.2.1 (1000 + k) j)) (g_A X) U H
    | 10 => q.2 = 17 ∧ va_O "java/lang/String" (X.2.2.1 (1000 + k)) (g_A X) U H ∧ va_OF "java/lang/String" "coder" "B" (.int 0) (X.2.2.1 (1000 + k)) (g_A X) U H ∧ X.2.2.2.2.2.1.2.1 (1000 + k) 1 = 0 ∧
        ∃ v, X.2.2.2.2.2.1.2.2.1 (1000 + k) 0 = v + 1 ∧ 1000 ≤ v ∧ va_OF "java/lang/String" "value" "[B" (.ref (X.2.2.1 v)) (X.2.2.1 (1000 + k)) (g_A X) U H
    | _ => False) ∧
  va_Z "GutterNine" "SLIP_ASIDE" "[I" (.ref (X.2.2.1 1000)) (g_A X) U H ∧ va_Z "GutterNine" "SLIP_DOWN" "[I" (.ref (X.2.2.1 1001)) (g_A X) U H ∧
  va_Z "java/lang/String" "COMPACT_STRINGS" "Z" (.int 1) (g_A X) U H ∧ va_Z "jdk/internal/util/Preconditions" "SIOOBE_FORMATTER" "Ljava/util/function/BiFunction;" X.2.2.2.1 (g_A X) U H ∧
  (∀ (i : Nat) (q : Nat × Nat), g_ss[i]? = some q → vk_R (g_on q.1) q.2 (g_sx.getD i "") (X.2.2.1 (1010 + 2 * i)) U) ∧
  (va_X (X.2.2.1 2000) X.2.2.2.2.2.2.2 X.2.2.2.2.2.2.1 U H ∧ X.2.2.1 2000 < X.2.2.2.2.1) ∧ (X.2.2.2.1 = .null ∨ ∃ a, X.2.2.2.1 = .ref a) ∧ X.2.2.2.2.1 ≤ H.size
theorem g_Kn_warm {X : gX} {s U : State} (hW : s.WarmedH U.vm) (h : g_Kn X s) : g_Kn X U := by
  refine ⟨va_K.moved hW.alike h.1, fun w hw hn => ?_⟩
  cases w <;> first | exact va_Nw.warmM hW (h.2 _ hw hn) | exact va_Nw.warmF hW (h.2 _ hw hn) | (exact absurd hn (by simp [g_isN]))
theorem g_Kn_same {X : gX} {s U : State} (hv : s.vm = U.vm) (h : g_Kn X s) : g_Kn X U := by
  refine ⟨va_K.moved (by rw [← hv]; exact Vm.Alike.refl _) h.1, fun w hw hn => ?_⟩
  exact va_Nw.same (by cases w <;> first | rfl | (exact absurd hn (by simp [g_isN]))) hv (h.2 _ hw hn)
theorem g_Kc_to {X : gX} {s U : State} {H H1 : Heap} (hA : s.vm.Alike U.vm) (hR : ∀ own k tx a, vk_R own k tx a s → vk_R own k tx a U) (hq : ∀ a : Nat, a < H.size → ¬ g_A X a → H1[a]? = H[a]?) (hz : H.size ≤ H1.size) (h : g_Kc X s H) : g_Kc X U H1 := by
  obtain ⟨h1, h2, h3, h4, h5, h6, h7, h8, h9⟩ := h
  refine ⟨fun k q hk => ?_, va_Z.kept (va_Z.moved hA h2) hq, va_Z.kept (va_Z.moved hA h3) hq, va_Z.kept (va_Z.moved hA h4) hq, va_Z.kept (va_Z.moved hA h5) hq, fun i q hi => hR _ _ _ _ (h6 i q hi), ⟨?_, h7.2⟩, h8, Nat.le_trans h9 hz⟩
  · have h := h1 k q hk
    obtain ⟨q1, q2⟩ := q
    split at h
    · exact va_T.kept (va_T.moved hA h) hq
    · exact va_T.kept (va_T.moved hA h) hq
    · obtain ⟨a1, a2, a3, a4, v, a5, a7, a6⟩ := h
      exact ⟨a1, va_O.kept (va_O.moved hA a2) hq, va_OF.kept (va_OF.moved hA a3) hq, a4, v, a5, a7, va_OF.kept (va_OF.moved hA a6) hq⟩
    · exact h.elim
  · exact va_X.kept (va_X.moved hA h7.1) (hq _ (Nat.lt_of_lt_of_le h7.2 h9) (Nat.not_le.mpr h7.2))
/-! locals -/
theorem g_cut_spec {u : Option Value} {w : Value} (h : g_cut u = some w) : u = some w ∧ ¬ w.category = 2 := by
  cases u with
  | none => simp [g_cut] at h
  | some z => cases z <;> simp_all [g_cut] <;> (subst h; simp [Value.category])
theorem g_put_spec : ∀ (L : gLs) (i : Nat) (x : Value) (j : Nat) (v : Value), g_nth (g_put L i x) j = some v → (j = i ∧ v = x) ∨ (j ≠ i ∧ g_nth L j = some v ∧ ¬ (j + 1 = i ∧ v.category = 2)) := by
  intro L i x
  fun_induction g_put L i x with
  | case1 => intro j v h; simp [g_nth] at h
  | case2 v u l => intro j w h; cases j with
    | zero => simp [g_nth] at h; exact Or.inl ⟨rfl, h.symm⟩
    | succ j => exact Or.inr ⟨by omega, by simpa [g_nth] using h, by omega⟩
  | case3 u x => intro j w h; cases j with
    | zero =>
      obtain ⟨h1, h2⟩ := g_cut_spec (by simpa [g_nth] using h)
      exact Or.inr ⟨by omega, by simpa [g_nth] using h1, fun q => h2 q.2⟩
    | succ j => simp [g_nth] at h
  | case4 u x a l => intro j w h; match j with
    | 0 =>
      obtain ⟨h1, h2⟩ := g_cut_spec (by simpa [g_nth] using h)
      exact Or.inr ⟨by omega, by simpa [g_nth] using h1, fun q => h2 q.2⟩
    | 1 => simp [g_nth] at h; exact Or.inl ⟨rfl, h.symm⟩
    | j + 2 => exact Or.inr ⟨by omega, by simpa [g_nth] using h, by omega⟩
  | case5 u l k x ih => intro j w h; cases j with
    | zero => exact Or.inr ⟨by omega, by simpa [g_nth] using h, by omega⟩
    | succ j =>
      rcases ih j w (by simpa [g_nth] using h) with ⟨a, b⟩ | ⟨a, b, c⟩
      · exact Or.inl ⟨by omega, b⟩
      · exact Or.inr ⟨by omega, by simpa [g_nth] using b, fun q => c ⟨by omega, q.2⟩⟩
theorem g_put_len : ∀ (L : gLs) (i : Nat) (x : Value), (g_put L i x).length = L.length := by
  intro L i x
  fun_induction g_put L i x <;> simp_all
theorem g_clr_spec : ∀ (L : gLs) (i j : Nat) (v : Value), g_nth (g_clr L i) j = some v → j ≠ i ∧ g_nth L j = some v := by
  intro L i
  fun_induction g_clr L i with
  | case1 => intro j v h; simp [g_nth] at h
  | case2 u l => intro j v h; cases j with
    | zero => simp [g_nth] at h
    | succ j => exact ⟨by omega, by simpa [g_nth] using h⟩
  | case3 u l k ih => intro j v h; cases j with
    | zero => exact ⟨by omega, by simpa [g_nth] using h⟩
    | succ j => obtain ⟨a, b⟩ := ih j v (by simpa [g_nth] using h); exact ⟨by omega, by simpa [g_nth] using b⟩
theorem g_clr_len : ∀ (L : gLs) (i : Nat), (g_clr L i).length = L.length := by
  intro L i
  fun_induction g_clr L i <;> simp_all

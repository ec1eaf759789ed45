def g_le (m m1 : gM) : Prop := m.2.2.2.1.length ≤ m1.2.2.2.1.length ∧ g_slots m.2.2.2.1 ≤ g_slots m1.2.2.2.1
theorem g_le.rf {m : gM} : g_le m m := ⟨Nat.le_refl _, Nat.le_refl _⟩
theorem g_le.same {m m1 : gM} (h : m1.2.2.2.1 = m.2.2.2.1) : g_le m m1 := by unfold g_le; rw [h]; exact ⟨Nat.le_refl _, Nat.le_refl _⟩
theorem g_le.trans {m m1 m2 : gM} (h : g_le m m1) (h1 : g_le m1 m2) : g_le m m2 := ⟨Nat.le_trans h.1 h1.1, Nat.le_trans h.2 h1.2⟩
/-- what a row hands on -/
def g_on1 (k : gK) (m : gM) (o : Option Value × gM) : Prop := o.2 = m ∨ ∃ j L st m1, g_le m m1 ∧ k j L st m1 = some o
section MONO
variable {C : gC} {fc : gF} {pc len a b c0 : Nat} {ins : Instr} {k : gK} {L : gLs} {st : List Value} {m : gM} {o : Option Value × gM}
theorem g_on1.go {j : Option Nat} {L : gLs} {st : List Value} {m1 : gM} (h : k j L st m1 = some o) (hm : m1.2.2.2.1 = m.2.2.2.1) : g_on1 k m o := Or.inr ⟨j, L, st, m1, g_le.same hm, h⟩
theorem g_step_mono (h : g_step C (pc, ins, len, a, b, c0) L st m k = some o) : g_on1 k m o := by
  cases ins with
  | iadd =>
    obtain ⟨x, y, st1, -, h2⟩ := g_b2_inv h
    exact g_on1.go h2 (by rfl)
  | isub =>
    obtain ⟨x, y, st1, -, h2⟩ := g_b2_inv h
    exact g_on1.go h2 (by rfl)
  | imul =>
    obtain ⟨x, y, st1, -, h2⟩ := g_b2_inv h
    exact g_on1.go h2 (by rfl)
  | iand =>
    obtain ⟨x, y, st1, -, h2⟩ := g_b2_inv h
    exact g_on1.go h2 (by rfl)
  | ior =>
    obtain ⟨x, y, st1, -, h2⟩ := g_b2_inv h
    exact g_on1.go h2 (by rfl)
  | ixor =>
    obtain ⟨x, y, st1, -, h2⟩ := g_b2_inv h
    exact g_on1.go h2 (by rfl)
  | ishl =>
    obtain ⟨x, y, st1, -, h2⟩ := g_b2_inv h
    exact g_on1.go h2 (by rfl)
  | ishr =>
    obtain ⟨x, y, st1, -, h2⟩ := g_b2_inv h
    exact g_on1.go h2 (by rfl)
  | iushr =>
    obtain ⟨x, y, st1, -, h2⟩ := g_b2_inv h
    exact g_on1.go h2 (by rfl)
  | ladd =>
    obtain ⟨x, y, st1, -, h2⟩ := g_l2_inv h
    exact g_on1.go h2 (by rfl)
  | lsub =>
    obtain ⟨x, y, st1, -, h2⟩ := g_l2_inv h
    exact g_on1.go h2 (by rfl)
  | lmul =>
    obtain ⟨x, y, st1, -, h2⟩ := g_l2_inv h
    exact g_on1.go h2 (by rfl)
  | land =>
    obtain ⟨x, y, st1, -, h2⟩ := g_l2_inv h
    exact g_on1.go h2 (by rfl)
  | lor =>
    obtain ⟨x, y, st1, -, h2⟩ := g_l2_inv h
    exact g_on1.go h2 (by rfl)
  | lcmp =>
    obtain ⟨x, y, st1, -, h2⟩ := g_l2_inv h
    exact g_on1.go h2 (by rfl)
  | lshl =>
    obtain ⟨x, y, st1, -, h2⟩ := g_il_inv h
    exact g_on1.go h2 (by rfl)
  | lshr =>
    obtain ⟨x, y, st1, -, h2⟩ := g_il_inv h
    exact g_on1.go h2 (by rfl)
  | lushr =>
    obtain ⟨x, y, st1, -, h2⟩ := g_il_inv h
    exact g_on1.go h2 (by rfl)
  | ineg =>
    obtain ⟨x, st1, -, h2⟩ := g_b1_inv h
    exact g_on1.go h2 (by rfl)
  | i2l =>
    obtain ⟨x, st1, -, h2⟩ := g_b1_inv h
    exact g_on1.go h2 (by rfl)
  | i2c =>
    obtain ⟨x, st1, -, h2⟩ := g_b1_inv h
    exact g_on1.go h2 (by rfl)
  | i2b =>
    obtain ⟨x, st1, -, h2⟩ := g_b1_inv h
    exact g_on1.go h2 (by rfl)
  | l2i =>
    obtain ⟨x, st1, -, h2⟩ := g_l1_inv h
    exact g_on1.go h2 (by rfl)
  | idiv =>
    obtain ⟨x, y, st1, -, h2⟩ := g_b2_inv h
    obtain ⟨-, h2⟩ := g_ite_inv h2
    exact g_on1.go h2 (by rfl)
  | irem =>
    obtain ⟨x, y, st1, -, h2⟩ := g_b2_inv h
    obtain ⟨-, h2⟩ := g_ite_inv h2
    exact g_on1.go h2 (by rfl)
  | ldiv =>
    obtain ⟨x, y, st1, -, h2⟩ := g_l2_inv h
    obtain ⟨-, h2⟩ := g_ite_inv h2
    exact g_on1.go h2 (by rfl)
  | lrem =>
    obtain ⟨x, y, st1, -, h2⟩ := g_l2_inv h
    obtain ⟨-, h2⟩ := g_ite_inv h2
    exact g_on1.go h2 (by rfl)
  | iconst _ =>
    exact g_on1.go h (by rfl)
  | bipush _ =>
    exact g_on1.go h (by rfl)
  | sipush _ =>
    exact g_on1.go h (by rfl)
  | lconst _ =>
    exact g_on1.go h (by rfl)
  | ldc_w _ =>
    exact g_on1.go h (by rfl)
  | ldc2_w _ =>
    exact g_on1.go h (by rfl)
  | goto _ =>
    exact g_on1.go h (by rfl)
  | iload_n _ =>
    unfold g_step at h
    simp only [g_ldi, g_ldl, g_lda] at h
    repeat' split at h
    all_goals first
      | exact g_on1.go h (by rfl)
      | cases h
  | iload _ =>
    unfold g_step at h
    simp only [g_ldi, g_ldl, g_lda] at h
    repeat' split at h
    all_goals first
      | exact g_on1.go h (by rfl)
      | cases h
  | lload_n _ =>
    unfold g_step at h
    simp only [g_ldi, g_ldl, g_lda] at h
    repeat' split at h
    all_goals first
      | exact g_on1.go h (by rfl)
      | cases h
  | lload _ =>
    unfold g_step at h
    simp only [g_ldi, g_ldl, g_lda] at h
    repeat' split at h
    all_goals first
      | exact g_on1.go h (by rfl)
      | cases h
  | aload_n _ =>
    unfold g_step at h
    simp only [g_ldi, g_ldl, g_lda] at h
    repeat' split at h
    all_goals first
      | exact g_on1.go h (by rfl)
      | cases h
  | aload _ =>
    unfold g_step at h
    simp only [g_ldi, g_ldl, g_lda] at h
    repeat' split at h
    all_goals first
      | exact g_on1.go h (by rfl)
      | cases h
  | ldc _ =>
    unfold g_step at h
    simp only [g_ldi, g_ldl, g_lda] at h
    repeat' split at h
    all_goals first
      | exact g_on1.go h (by rfl)
      | cases h
  | getstatic _ =>
    unfold g_step at h
    simp only [g_ldi, g_ldl, g_lda] at h
    repeat' split at h
    all_goals first
      | exact g_on1.go h (by rfl)
      | cases h
  | dup =>
    unfold g_step at h
    simp only [g_ldi, g_ldl, g_lda] at h
    repeat' split at h
    all_goals first
      | exact g_on1.go h (by rfl)
      | cases h
  | dup2 =>
    unfold g_step at h
    simp only [g_ldi, g_ldl, g_lda] at h
    repeat' split at h
    all_goals first
      | exact g_on1.go h (by rfl)
      | cases h
  | pop =>
    unfold g_step at h
    simp only [g_ldi, g_ldl, g_lda] at h
    repeat' split at h
    all_goals first
      | exact g_on1.go h (by rfl)
      | cases h
  | istore_n _ =>
    obtain ⟨x, st1, -, h2⟩ := g_b1_inv h
    obtain ⟨-, h2⟩ := g_cond_inv h2
    exact g_on1.go h2 (by rfl)
  | istore _ =>
    obtain ⟨x, st1, -, h2⟩ := g_b1_inv h
    obtain ⟨-, h2⟩ := g_cond_inv h2
    exact g_on1.go h2 (by rfl)
  | lstore_n _ =>
    obtain ⟨x, st1, -, h2⟩ := g_l1_inv h
    obtain ⟨-, h2⟩ := g_cond_inv h2
    exact g_on1.go h2 (by rfl)
  | lstore _ =>
    obtain ⟨x, st1, -, h2⟩ := g_l1_inv h
    obtain ⟨-, h2⟩ := g_cond_inv h2
    exact g_on1.go h2 (by rfl)
  | astore_n _ =>
    obtain ⟨x, st1, -, h2⟩ := g_a1_inv h
    obtain ⟨-, h2⟩ := g_cond_inv h2
    exact g_on1.go h2 (by rfl)
  | astore _ =>
    obtain ⟨x, st1, -, h2⟩ := g_a1_inv h
    obtain ⟨-, h2⟩ := g_cond_inv h2
    exact g_on1.go h2 (by rfl)
  | iinc _ _ =>
    unfold g_step at h
    simp only at h
    split at h
    · obtain ⟨-, h2⟩ := g_cond_inv h
      exact g_on1.go h2 (by rfl)
    · cases h
  | ifCond cd _ =>
    obtain ⟨x, st1, -, h2⟩ := g_b1_inv h
    clear h
    unfold g_ifc at h2
    repeat' split at h2
    all_goals exact g_on1.go h2 (by rfl)
  | if_icmp cd _ =>
    obtain ⟨x, y, st1, -, h2⟩ := g_b2_inv h
    clear h
    unfold g_icmp at h2
    repeat' split at h2
    all_goals exact g_on1.go h2 (by rfl)
  | tableswitch _ _ _ _ =>
    obtain ⟨x, st1, -, h2⟩ := g_b1_inv h
    clear h
    repeat' split at h2
    all_goals first
      | exact g_on1.go h2 (by rfl)
      | cases h2
  | arraylength =>
    obtain ⟨x, st1, -, h2⟩ := g_a1_inv h
    clear h
    split at h2
    all_goals first
      | exact g_on1.go h2 (by rfl)
      | cases h2
  | iaload =>
    obtain ⟨q, i, st1, -, h2⟩ := g_ai_inv h
    clear h
    split at h2
    all_goals first
      | (obtain ⟨-, h3⟩ := g_chk_inv h2
         exact g_on1.go h3 (by rfl))
      | cases h2
  | laload =>
    obtain ⟨q, i, st1, -, h2⟩ := g_ai_inv h
    clear h
    split at h2
    all_goals first
      | (obtain ⟨-, h3⟩ := g_chk_inv h2
         exact g_on1.go h3 (by rfl))
      | cases h2
  | caload =>
    obtain ⟨q, i, st1, -, h2⟩ := g_ai_inv h
    clear h
    split at h2
    all_goals first
      | (obtain ⟨-, h3⟩ := g_chk_inv h2
         exact g_on1.go h3 (by rfl))
      | cases h2
  | baload =>
    obtain ⟨q, i, st1, -, h2⟩ := g_ai_inv h
    clear h
    split at h2
    all_goals first
      | (obtain ⟨-, h3⟩ := g_chk_inv h2
         exact g_on1.go h3 (by rfl))
      | cases h2
  | iastore =>
    obtain ⟨q, i, x, st1, -, h2⟩ := g_aii_inv h
    clear h
    split at h2
    all_goals first
      | (obtain ⟨-, h3⟩ := g_chk_inv h2
         exact g_on1.go h3 (by rfl))
      | cases h2
  | castore =>
    obtain ⟨q, i, x, st1, -, h2⟩ := g_aii_inv h
    clear h
    split at h2
    all_goals first
      | (obtain ⟨-, h3⟩ := g_chk_inv h2
         exact g_on1.go h3 (by rfl))
      | cases h2
  | bastore =>
    obtain ⟨q, i, x, st1, -, h2⟩ := g_aii_inv h
    clear h
    split at h2
    all_goals first
      | (obtain ⟨-, h3⟩ := g_chk_inv h2
         exact g_on1.go h3 (by rfl))
      | cases h2
  | lastore =>
    obtain ⟨q, i, x, st1, -, h2⟩ := g_ail_inv h
    clear h
    split at h2
    all_goals first
      | (obtain ⟨-, h3⟩ := g_chk_inv h2
         exact g_on1.go h3 (by rfl))
      | cases h2
  | getfield _ =>
    obtain ⟨q, st1, -, h2⟩ := g_a1_inv h
    clear h
    split at h2
    · obtain ⟨-, h2⟩ := g_cond_inv h2
      split at h2 <;> exact g_on1.go h2 (by rfl)
    · obtain ⟨-, h2⟩ := g_cond_inv h2
      split at h2 <;> first
        | exact g_on1.go h2 (by rfl)
        | cases h2
    · cases h2
  | putfield _ =>
    have h2 : g_set C (pc, .putfield _, len, a, b, c0) L st m k = some o := h
    clear h
    unfold g_set at h2
    split at h2
    · split at h2
      · obtain ⟨-, h2⟩ := g_cond_inv h2
        split at h2
        · exact g_on1.go h2 (by rfl)
        · exact g_on1.go h2 (by rfl)
        · obtain ⟨-, h2⟩ := g_cond_inv h2
          exact g_on1.go h2 (by rfl)
        · split at h2
          · exact g_on1.go h2 (by rfl)
          · cases h2
        · cases h2
      · cases h2
    · cases h2
  | new _ =>
    obtain ⟨-, h2⟩ := g_cond_inv h
    obtain ⟨h2, -⟩ := g_old_inv h2
    refine Or.inr ⟨_, _, _, _, ?_, h2⟩
    exact ⟨by simp, by rw [g_slots_app]; omega⟩
  | newarray _ =>
    obtain ⟨x, st1, -, h2⟩ := g_b1_inv h
    obtain ⟨-, h2⟩ := g_ite_inv h2
    obtain ⟨-, h2⟩ := g_cond_inv h2
    obtain ⟨h2, -⟩ := g_old_inv h2
    refine Or.inr ⟨_, _, _, _, ?_, h2⟩
    exact ⟨by simp, by rw [g_slots_app]; omega⟩
  | _ => exact absurd (show (none : gRs) = some o from h) (by simp)
theorem g_inv_mono (hfc : ∀ i As m v m1, fc i As m = some (v, m1) → g_le m m1) (h : g_inv C fc (pc, ins, len, a, b, c0) L st m k = some o) : g_on1 k m o := by
  have bind : ∀ {As : List Value} {st1 : List Value}, g_bind (fc a As m) (fun v m => k none L (v.toList ++ st1) m) = some o → g_on1 k m o := by
    intro As st1 h
    unfold g_bind at h
    split at h
    · cases h
    · rename_i v m1 hcl
      exact Or.inr ⟨_, _, _, _, hfc _ _ _ _ _ hcl, h⟩
  unfold g_inv at h
  split at h
  · obtain ⟨q, st1, -, h2⟩ := g_a1_inv h
    obtain ⟨-, h2⟩ := g_cond_inv h2
    exact g_on1.go h2 (by rfl)
  · split at h
    · split at h
      · obtain ⟨-, h⟩ := g_ite_inv h
        obtain ⟨-, h⟩ := g_condN_inv h
        obtain ⟨-, h⟩ := g_cond_inv h
        exact g_on1.go h (by rfl)
      · cases h
    · cases h
  · obtain ⟨x, y, st1, -, h2⟩ := g_b2_inv h
    obtain ⟨-, h2⟩ := g_cond_inv h2
    exact g_on1.go h2 (by rfl)
  · obtain ⟨x, y, st1, -, h2⟩ := g_b2_inv h
    obtain ⟨-, h2⟩ := g_cond_inv h2
    exact g_on1.go h2 (by rfl)
  · obtain ⟨x, st1, -, h2⟩ := g_b1_inv h
    obtain ⟨-, h2⟩ := g_cond_inv h2
    exact g_on1.go h2 (by rfl)
  · split at h
    · obtain ⟨-, h⟩ := g_cond_inv h
      exact bind (g_old_inv h).1
    · cases h
  · split at h
    · obtain ⟨-, h⟩ := g_cond_inv h
      exact bind (g_old_inv h).1
    · cases h
  · split at h
    · obtain ⟨-, h⟩ := g_cond_inv h
      obtain ⟨-, h⟩ := g_cond_inv h
      exact bind (g_old_inv h).1
    · cases h
theorem g_op_mono (hfc : ∀ i As m v m1, fc i As m = some (v, m1) → g_le m m1) (h : g_op C fc (pc, ins, len, a, b, c0) L st m k = some o) : g_on1 k m o := by
  unfold g_op at h
  cases ins <;> first
    | exact g_step_mono h
    | exact g_inv_mono hfc h
    | (simp only at h
       repeat' split at h
       all_goals first
         | exact Or.inl (by rw [← Option.some.inj h])
         | cases h)
theorem g_run_mono {jt : List (Nat × List gCE)} (hfc : ∀ i As m v m1, fc i As m = some (v, m1) → g_le m m1) : ∀ (n : Nat) (cur : List gCE) (L : gLs) (st : List Value) (m : gM), g_run C fc jt n cur L st m = some o → g_le m o.2 := by
  intro n
  induction n with
  | zero => intro cur L st m h; rw [g_run_zero] at h; cases h
  | succ n ih =>
    intro cur L st m h
    cases cur with
    | nil => rw [g_run_nil] at h; cases h
    | cons ce nx =>
      rw [g_run_succ] at h
      obtain ⟨pc, ins, len, a, b, c0⟩ := ce
      rcases g_op_mono hfc h with h | ⟨j, L, st, m1, hm, h⟩
      · rw [h]; exact g_le.rf
      · cases j with
        | none => exact hm.trans (ih _ _ _ _ h)
        | some t => exact hm.trans (ih _ _ _ _ h)
theorem g_exec_mono {T : Nat → Option gMD} {n : Nat} : ∀ (d i : Nat) (As : List Value) (m : gM) (v : Option Value) (m1 : gM), g_exec C T n d i As m = some (v, m1) → g_le m m1 := by
  intro d
  induction d with
  | zero => intro i As m v m1 h; cases h
  | succ d ih =>
    intro i As m v m1 h
    have h : (match T i with
      | none => none
      | some md => bif Nat.ble (g_args As).length md.2.2.1 then g_run C (g_exec C T n d) md.2.2.2.2.2 n md.2.2.2.2.1 (g_pad md.2.2.1 (g_args As)) [] m else none) = some (v, m1) := h
    split at h
    · cases h
    · obtain ⟨-, h⟩ := g_cond_inv h
      exact g_run_mono (fun i As m v m1 h => ih i As m v m1 h) _ _ _ _ _ h
end MONO

section WHOLE
variable {l : Launch} {X : gX} {T : Nat → Option gMD}
theorem g_pad_nth : ∀ (n : Nat) (L : gLs) (i : Nat) (v : Value), g_nth (g_pad n L) i = some v → g_nth L i = some v
  | 0, _, _, _, h => by simp [g_pad, g_nth] at h
  | n + 1, [], i, v, h => by
    cases i with
    | zero => simp [g_pad, g_nth] at h
    | succ i =>
      have := g_pad_nth n [] i v (by simpa [g_pad, g_nth] using h)
      simp [g_nth] at this
  | n + 1, w :: L, i, v, h => by
    cases i with
    | zero => simpa [g_pad, g_nth] using h
    | succ i => simpa [g_nth] using g_pad_nth n L i v (by simpa [g_pad, g_nth] using h)
theorem g_pad_len : ∀ (n : Nat) (L : gLs), (g_pad n L).length = n
  | 0, _ => rfl
  | n + 1, [] => by simp [g_pad, g_pad_len n []]
  | n + 1, _ :: L => by simp [g_pad, g_pad_len n L]
theorem g_args_at (hf : X.2.2.2.1 = .null ∨ ∃ a, X.2.2.2.1 = .ref a) : ∀ (As : List Value) (k i : Nat) (v : Value), g_nth (g_args As) i = some v → (k + i, g_cv X.2.2.1 X.2.2.2.1 v) ∈ lv_args k (As.map (g_cv X.2.2.1 X.2.2.2.1))
  | [], _, _, _, h => by simp [g_args, g_nth] at h
  | w :: As, k, i, v, h => by
    have one : w.category = 1 → (g_cv X.2.2.1 X.2.2.2.1 w).category = 1 → g_args (w :: As) = some w :: g_args As → (k + i, g_cv X.2.2.1 X.2.2.2.1 v) ∈ lv_args k ((w :: As).map (g_cv X.2.2.1 X.2.2.2.1)) := by
      intro _ hc he
      rw [he] at h
      simp only [List.map_cons, lv_args, hc]
      cases i with
      | zero =>
        simp only [g_nth, Option.some.injEq] at h
        rw [h]; exact List.mem_cons_self
      | succ i =>
        have := g_args_at hf As (k + 1) i v (by simpa [g_nth] using h)
        refine List.mem_cons_of_mem _ ?_
        have e : k + (i + 1) = k + 1 + i := by omega
        rw [e]
        simpa using this
    have two : (g_cv X.2.2.1 X.2.2.2.1 w).category = 2 → g_args (w :: As) = some w :: none :: g_args As → (k + i, g_cv X.2.2.1 X.2.2.2.1 v) ∈ lv_args k ((w :: As).map (g_cv X.2.2.1 X.2.2.2.1)) := by
      intro hc he
      rw [he] at h
      simp only [List.map_cons, lv_args, hc]
      match i with
      | 0 =>
        simp only [g_nth, Option.some.injEq] at h
        rw [h]; exact List.mem_cons_self
      | 1 => simp [g_nth] at h
      | i + 2 =>
        have := g_args_at hf As (k + 2) i v (by simpa [g_nth] using h)
        refine List.mem_cons_of_mem _ ?_
        have e : k + (i + 2) = k + 2 + i := by omega
        rw [e]
        simpa using this
    cases w with
    | long x => exact two rfl rfl
    | double x => exact two rfl rfl
    | float x => exact one rfl (by rcases hf with q | ⟨a, q⟩ <;> simp [g_cv, q, Value.category]) rfl
    | _ => exact one rfl rfl rfl
theorem g_sl_len (hf : X.2.2.2.1 = .null ∨ ∃ a, X.2.2.2.1 = .ref a) : ∀ (As : List Value), (lg_sl (As.map (g_cv X.2.2.1 X.2.2.2.1))).length = (g_args As).length
  | [] => rfl
  | w :: As => by
    have ih := g_sl_len hf As
    have e : lg_sl ((w :: As).map (g_cv X.2.2.1 X.2.2.2.1)) = (if (g_cv X.2.2.1 X.2.2.2.1 w).category = 2 then [Slot.val (g_cv X.2.2.1 X.2.2.2.1 w), .second] else [.val (g_cv X.2.2.1 X.2.2.2.1 w)]) ++ lg_sl (As.map (g_cv X.2.2.1 X.2.2.2.1)) := rfl
    rw [e, List.length_append, ih]
    cases w <;> first
      | (simp [g_args, g_cv, Value.category]; omega)
      | (rcases hf with q | ⟨a, q⟩ <;> simp [g_args, g_cv, q, Value.category] <;> omega)
/-- **The machine's methods do what the plain machine's do.** -/
theorem g_sim_exec {n : Nat} (hT : g_TOk T) (hM : ∀ i md, T i = some md → g_okM i md = true ∧ plainName md.1.cls = true) :
    ∀ (d : Nat) (X : gX) (i : Nat) (As : List Value) (m : gM) (v : Option Value) (m1 : gM), g_exec X.2.2.2.2.2.1 T n d i As m = some (v, m1) → g_Con X T l d i As m (v, m1) := by
  intro d
  induction d with
  | zero => intro X i As m v m1 h; cases h
  | succ d ih =>
    intro X i As m v m1 h0
    have hle := g_exec_mono (d + 1) i As m v m1 h0
    have h : (match T i with
      | none => none
      | some md => bif Nat.ble (g_args As).length md.2.2.1 then g_run X.2.2.2.2.2.1 (g_exec X.2.2.2.2.2.1 T n d) md.2.2.2.2.2 n md.2.2.2.2.1 (g_pad md.2.2.1 (g_args As)) [] m else none) = some (v, m1) := h0
    split at h
    · cases h
    · rename_i md hmd
      obtain ⟨hlen, h⟩ := g_cond_inv h
      have hlen := Nat.le_of_ble_eq_true hlen
      obtain ⟨hok, hpl⟩ := hM i md hmd
      obtain ⟨ty, tc, tm, tn⟩ := hT i md hmd
      simp only [g_okM, Bool.and_eq_true, decide_eq_true_eq] at hok
      obtain ⟨-, hhd, hokc, hjt⟩ := hok
      refine ⟨md, hmd, m1.2.2.2.1.length - m.2.2.2.1.length, g_slots m1.2.2.2.1 - g_slots m.2.2.2.1, by have := hle.1; show m.2.2.2.1.length + _ = m1.2.2.2.1.length; omega, by have := hle.2; show g_slots m.2.2.2.1 + _ = g_slots m1.2.2.2.1; omega, ?_⟩
      refine Met.ofW (cc := md.2.1) (maxL := md.2.2.1) (ret := md.2.2.2.1) hpl rfl ?_
      intro p e s mid args below meth c s₁ B hml hv
      obtain ⟨rfl, hW, hKn, hKc⟩ := hv
      have hts0 := atoms_spec (ws := Cond.code md.1 md.2.1 md.2.2.1 md.2.2.2.1 :: g_tw) B.pre
      have hts : ∀ w ∈ g_tw, w.before ((As.map (g_cv X.2.2.1 X.2.2.2.1)).toArray) s = true := fun w hw => hts0 w (List.mem_cons_of_mem _ hw)
      have hown : s.vm.findClass md.1.cls = some mid.cls := findClass_of_methodNamed B.named
      have hnm : md.1.name = meth.name := (name_of_methodNamed B.named B.method).1.symm
      have hf := hKc.2.2.2.2.2.2.2.1
      rw [ty] at hown
      have hctx : g_Ctx X p s ((As.map (g_cv X.2.2.1 X.2.2.2.1)).toArray) mid meth c (headSpec (Cond.code md.1 md.2.1 md.2.2.1 md.2.2.2.1 :: g_tw) (g_rm (d + 1) (m1.2.2.2.1.length - m.2.2.2.1.length) (g_slots m1.2.2.2.1 - g_slots m.2.2.2.1))).room (g_yo i) (decide (md.1.name = "<init>")) md.2.1 md.2.2.1 (d + 1) :=
        ⟨B.exec, B.bytes, hml, hown, hts, hKn, hKc, Nat.le_refl _, Nat.le_refl _, fun hi => by rw [← hnm]; exact of_decide_eq_true hi⟩
      have G := g_sim_run (X := X) (Q := fun mc ms => MQ below (g_Qc X m.2.2.2.1.length (v, m1)) ((As.map (g_cv X.2.2.1 X.2.2.2.1)).toArray) s mc ms (g_A X)) (n0 := m.2.2.2.1.length) (o := (v, m1)) (l := l) (e := e) (below := below) hT
        (fun X1 hX1 i As m v m1 hcl => ih X1 i As m v m1 (by rw [hX1]; exact hcl)) hjt n md.2.2.2.2.1 (g_pad md.2.2.1 (g_args As)) [] m X.2.2.1 hctx g_Fam.rf (Nat.le_refl _)
        (fun ad hF => g_ret_own hF B.exec B.bytes B.returns B.notSynchronized) hokc h 0 0
      obtain ⟨mc, ms, g1, g2, g3, g4, g5⟩ := G
      have e0 : g_pc md.2.2.2.2.1 = 0 := by
        cases hz : md.2.2.2.2.1 with
        | nil => rw [hz, g_run_nil] at h; cases h
        | cons e3 nx3 =>
          rw [hz] at hhd
          exact Nat.eq_of_beq_eq_true hhd
      obtain rfl : mc = m1.2.2.2.1.length - m.2.2.2.1.length := by have g3 : mc + m.2.2.2.1.length = 0 + m1.2.2.2.1.length := g3; omega
      obtain rfl : ms = g_slots m1.2.2.2.1 - g_slots m.2.2.2.1 := by have g4 : ms + g_slots m.2.2.2.1 = 0 + g_slots m1.2.2.2.1 := g4; omega
      have hl := lv_entry (As.map (g_cv X.2.2.1 X.2.2.2.1)) (n := md.2.2.1) (by rw [g_sl_len hf]; exact hlen)
      have hw := g5 (Nat.le_refl _) (Nat.le_refl _) s.heap [] _ ⟨hl.1, hl.2.1, g_pad_len _ _, fun i v hi => by
        have := g_args_at hf As 0 i v (g_pad_nth _ _ _ _ hi)
        rw [Nat.zero_add] at this
        exact hl.2.2 _ this⟩ hW va_S.rf
      rw [e0] at hw
      rw [lg_entry_eq]
      exact hw
end WHOLE

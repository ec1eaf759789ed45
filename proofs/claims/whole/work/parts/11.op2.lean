section OP2
variable {p : Program} {l : Launch} {e : Env} {R : Room} {s : State} {mid : MethodId} {args : Array Value} {below : List Frame} {meth : Method} {c : Code} {Q : Nat → Nat → State → Prop}
variable {X : gX} {on nL d : Nat} {ini : Bool} {bytes : ByteArray} {o : Option Value × gM} {ret : Option FieldType} {pc len a b c0 : Nat} {ins : Instr} {k : gK} {L : gLs} {st : List Value} {m : gM}

theorem g_o_ifCond (hc : g_Ctx X p s args mid meth c R on ini bytes nL d) {cd : Jvm.ClassFile.Cond} {z : Int} (hD : g_okD bytes (pc, .ifCond cd z, len, a, b, c0) = true) (hI : g_okI on ini ret (pc, .ifCond cd z, len, a, b, c0) = true)
    (hk : ∀ j L st m1, m1.2.2.2.1 = m.2.2.2.1 → k j L st m1 = some o → ∀ cells slots, g_G X p l e R s mid args below meth c Q nL o (match j with
    | none => pc + len
    | some t => t) L st m1 cells slots)
    (h : g_step X.2.2.2.2.2.1 (pc, .ifCond cd z, len, a, b, c0) L st m k = some o) (cells slots : Nat) : g_G X p l e R s mid args below meth c Q nL o pc L st m cells slots := by
  obtain ⟨hx, hb, hml, hown, hts, hKn, hKc, hfr, hlo, hin⟩ := hc
  have hdg := g_bo hD
  obtain rfl : 3 = len := g_ln hD
  have hv := of_decide_eq_true hI
  obtain ⟨x, st1, hst, h2⟩ := g_b1_inv h
  clear h
  subst hst
  have h := h2
  unfold g_ifc at h
  cases cd with
  | eq =>
    replace h : (if x = 0 then k (some a) L st1 m else k none L st1 m) = some o := h
    split at h
    · rename_i g
      exact g_G.pure (fun Q1 H locs ls hL hW hS kk => lv_if_eq hx hb hdg hv (fun _ => kk) (fun n => absurd g n)) (hk (some a) _ _ _ (by rfl) h cells slots)
    · rename_i g
      exact g_G.pure (fun Q1 H locs ls hL hW hS kk => lv_if_eq hx hb hdg hv (fun n => absurd n g) (fun _ => kk)) (hk none _ _ _ (by rfl) h cells slots)
  | ne =>
    replace h : (if x = 0 then k none L st1 m else k (some a) L st1 m) = some o := h
    split at h
    · rename_i g
      exact g_G.pure (fun Q1 H locs ls hL hW hS kk => lv_if_ne hx hb hdg hv (fun n => absurd g n) (fun _ => kk)) (hk none _ _ _ (by rfl) h cells slots)
    · rename_i g
      exact g_G.pure (fun Q1 H locs ls hL hW hS kk => lv_if_ne hx hb hdg hv (fun _ => kk) (fun n => absurd n g)) (hk (some a) _ _ _ (by rfl) h cells slots)
  | lt =>
    replace h : (if x < 0 then k (some a) L st1 m else k none L st1 m) = some o := h
    split at h
    · rename_i g
      exact g_G.pure (fun Q1 H locs ls hL hW hS kk => lv_if_lt hx hb hdg hv (fun _ => kk) (fun n => absurd g n)) (hk (some a) _ _ _ (by rfl) h cells slots)
    · rename_i g
      exact g_G.pure (fun Q1 H locs ls hL hW hS kk => lv_if_lt hx hb hdg hv (fun n => absurd n g) (fun _ => kk)) (hk none _ _ _ (by rfl) h cells slots)
  | ge =>
    replace h : (if 0 ≤ x then k (some a) L st1 m else k none L st1 m) = some o := h
    split at h
    · rename_i g
      exact g_G.pure (fun Q1 H locs ls hL hW hS kk => lv_if_ge hx hb hdg hv (fun _ => kk) (fun n => absurd g n)) (hk (some a) _ _ _ (by rfl) h cells slots)
    · rename_i g
      exact g_G.pure (fun Q1 H locs ls hL hW hS kk => lv_if_ge hx hb hdg hv (fun n => absurd n g) (fun _ => kk)) (hk none _ _ _ (by rfl) h cells slots)
  | gt =>
    replace h : (if 0 < x then k (some a) L st1 m else k none L st1 m) = some o := h
    split at h
    · rename_i g
      exact g_G.pure (fun Q1 H locs ls hL hW hS kk => lv_if_gt hx hb hdg hv (fun _ => kk) (fun n => absurd g n)) (hk (some a) _ _ _ (by rfl) h cells slots)
    · rename_i g
      exact g_G.pure (fun Q1 H locs ls hL hW hS kk => lv_if_gt hx hb hdg hv (fun n => absurd n g) (fun _ => kk)) (hk none _ _ _ (by rfl) h cells slots)
  | le =>
    replace h : (if x ≤ 0 then k (some a) L st1 m else k none L st1 m) = some o := h
    split at h
    · rename_i g
      exact g_G.pure (fun Q1 H locs ls hL hW hS kk => lv_if_le hx hb hdg hv (fun _ => kk) (fun n => absurd g n)) (hk (some a) _ _ _ (by rfl) h cells slots)
    · rename_i g
      exact g_G.pure (fun Q1 H locs ls hL hW hS kk => lv_if_le hx hb hdg hv (fun n => absurd n g) (fun _ => kk)) (hk none _ _ _ (by rfl) h cells slots)
theorem g_o_if_icmp (hc : g_Ctx X p s args mid meth c R on ini bytes nL d) {cd : Jvm.ClassFile.Cond} {z : Int} (hD : g_okD bytes (pc, .if_icmp cd z, len, a, b, c0) = true) (hI : g_okI on ini ret (pc, .if_icmp cd z, len, a, b, c0) = true)
    (hk : ∀ j L st m1, m1.2.2.2.1 = m.2.2.2.1 → k j L st m1 = some o → ∀ cells slots, g_G X p l e R s mid args below meth c Q nL o (match j with
    | none => pc + len
    | some t => t) L st m1 cells slots)
    (h : g_step X.2.2.2.2.2.1 (pc, .if_icmp cd z, len, a, b, c0) L st m k = some o) (cells slots : Nat) : g_G X p l e R s mid args below meth c Q nL o pc L st m cells slots := by
  obtain ⟨hx, hb, hml, hown, hts, hKn, hKc, hfr, hlo, hin⟩ := hc
  have hdg := g_bo hD
  obtain rfl : 3 = len := g_ln hD
  have hv := of_decide_eq_true hI
  obtain ⟨x, y, st1, hst, h2⟩ := g_b2_inv h
  clear h
  subst hst
  have h := h2
  unfold g_icmp at h
  cases cd with
  | eq =>
    replace h : (if x = y then k (some a) L st1 m else k none L st1 m) = some o := h
    split at h
    · rename_i g
      exact g_G.pure (fun Q1 H locs ls hL hW hS kk => lv_icmp_eq hx hb hdg hv (fun _ => kk) (fun n => absurd g n)) (hk (some a) _ _ _ (by rfl) h cells slots)
    · rename_i g
      exact g_G.pure (fun Q1 H locs ls hL hW hS kk => lv_icmp_eq hx hb hdg hv (fun n => absurd n g) (fun _ => kk)) (hk none _ _ _ (by rfl) h cells slots)
  | ne =>
    replace h : (if x = y then k none L st1 m else k (some a) L st1 m) = some o := h
    split at h
    · rename_i g
      exact g_G.pure (fun Q1 H locs ls hL hW hS kk => lv_icmp_ne hx hb hdg hv (fun n => absurd g n) (fun _ => kk)) (hk none _ _ _ (by rfl) h cells slots)
    · rename_i g
      exact g_G.pure (fun Q1 H locs ls hL hW hS kk => lv_icmp_ne hx hb hdg hv (fun _ => kk) (fun n => absurd n g)) (hk (some a) _ _ _ (by rfl) h cells slots)
  | lt =>
    replace h : (if x < y then k (some a) L st1 m else k none L st1 m) = some o := h
    split at h
    · rename_i g
      exact g_G.pure (fun Q1 H locs ls hL hW hS kk => lv_icmp_lt hx hb hdg hv (fun _ => kk) (fun n => absurd g n)) (hk (some a) _ _ _ (by rfl) h cells slots)
    · rename_i g
      exact g_G.pure (fun Q1 H locs ls hL hW hS kk => lv_icmp_lt hx hb hdg hv (fun n => absurd n g) (fun _ => kk)) (hk none _ _ _ (by rfl) h cells slots)
  | ge =>
    replace h : (if y ≤ x then k (some a) L st1 m else k none L st1 m) = some o := h
    split at h
    · rename_i g
      exact g_G.pure (fun Q1 H locs ls hL hW hS kk => lv_icmp_ge hx hb hdg hv (fun _ => kk) (fun n => absurd g n)) (hk (some a) _ _ _ (by rfl) h cells slots)
    · rename_i g
      exact g_G.pure (fun Q1 H locs ls hL hW hS kk => lv_icmp_ge hx hb hdg hv (fun n => absurd n g) (fun _ => kk)) (hk none _ _ _ (by rfl) h cells slots)
  | gt =>
    replace h : (if y < x then k (some a) L st1 m else k none L st1 m) = some o := h
    split at h
    · rename_i g
      exact g_G.pure (fun Q1 H locs ls hL hW hS kk => lv_icmp_gt hx hb hdg hv (fun _ => kk) (fun n => absurd g n)) (hk (some a) _ _ _ (by rfl) h cells slots)
    · rename_i g
      exact g_G.pure (fun Q1 H locs ls hL hW hS kk => lv_icmp_gt hx hb hdg hv (fun n => absurd n g) (fun _ => kk)) (hk none _ _ _ (by rfl) h cells slots)
  | le =>
    replace h : (if x ≤ y then k (some a) L st1 m else k none L st1 m) = some o := h
    split at h
    · rename_i g
      exact g_G.pure (fun Q1 H locs ls hL hW hS kk => lv_icmp_le hx hb hdg hv (fun _ => kk) (fun n => absurd g n)) (hk (some a) _ _ _ (by rfl) h cells slots)
    · rename_i g
      exact g_G.pure (fun Q1 H locs ls hL hW hS kk => lv_icmp_le hx hb hdg hv (fun n => absurd n g) (fun _ => kk)) (hk none _ _ _ (by rfl) h cells slots)
theorem g_o_tableswitch (hc : g_Ctx X p s args mid meth c R on ini bytes nL d) {df lo hi : Int} {offs : Array Int} (hD : g_okD bytes (pc, .tableswitch df lo hi offs, len, a, b, c0) = true) (hI : g_okI on ini ret (pc, .tableswitch df lo hi offs, len, a, b, c0) = true)
    (hk : ∀ j L st m1, m1.2.2.2.1 = m.2.2.2.1 → k j L st m1 = some o → ∀ cells slots, g_G X p l e R s mid args below meth c Q nL o (match j with
    | none => pc + len
    | some t => t) L st m1 cells slots)
    (h : g_step X.2.2.2.2.2.1 (pc, .tableswitch df lo hi offs, len, a, b, c0) L st m k = some o) (cells slots : Nat) : g_G X p l e R s mid args below meth c Q nL o pc L st m cells slots := by
  obtain ⟨hx, hb, hml, hown, hts, hKn, hKc, hfr, hlo, hin⟩ := hc
  have hdg := g_bo hD
  obtain ⟨x, st1, hst, h2⟩ := g_b1_inv h
  clear h
  subst hst
  have h := h2
  split at h
  · rename_i g
    obtain ⟨hp, h⟩ := g_ite_inv h
    exact g_G.pure (fun Q1 H locs ls hL hW hS kk => lv_tableOut hx hb hdg g (Int.toNat_of_nonneg (Int.not_lt.mp hp)).symm kk) (hk (some _) _ _ _ (by rfl) h cells slots)
  · rename_i g
    split at h
    · rename_i off ho
      obtain ⟨hp, h⟩ := g_ite_inv h
      exact g_G.pure (fun Q1 H locs ls hL hW hS kk => lv_tableIn hx hb hdg (fun q => g (Or.inl q)) (fun q => g (Or.inr q)) ho (Int.toNat_of_nonneg (Int.not_lt.mp hp)).symm kk) (hk (some _) _ _ _ (by rfl) h cells slots)
    · cases h
theorem g_o_ldc2 (hc : g_Ctx X p s args mid meth c R on ini bytes nL d) {z : Nat} (hD : g_okD bytes (pc, .ldc2_w z, len, a, b, c0) = true) (hI : g_okI on ini ret (pc, .ldc2_w z, len, a, b, c0) = true)
    (hk : ∀ j L st m1, m1.2.2.2.1 = m.2.2.2.1 → k j L st m1 = some o → ∀ cells slots, g_G X p l e R s mid args below meth c Q nL o (match j with
    | none => pc + len
    | some t => t) L st m1 cells slots)
    (h : g_step X.2.2.2.2.2.1 (pc, .ldc2_w z, len, a, b, c0) L st m k = some o) (cells slots : Nat) : g_G X p l e R s mid args below meth c Q nL o pc L st m cells slots := by
  obtain ⟨hx, hb, hml, hown, hts, hKn, hKc, hfr, hlo, hin⟩ := hc
  have hdg := g_bo hD
  obtain rfl : 3 = len := g_ln hD
  obtain ⟨r, hr, h1⟩ := List.any_eq_true.mp hI
  simp only [g_at2, Bool.and_eq_true] at h1
  have hw := g_w_in (g_ll_ok r hr)
  rw [Nat.eq_of_beq_eq_true h1.1.1, Nat.eq_of_beq_eq_true h1.1.2, Nat.eq_of_beq_eq_true h1.2] at hw
  exact g_G.pure (fun Q1 H locs ls hL hW hS kk => lv_ldc2 hx hb hown (hts _ hw) hdg kk) (hk none _ _ _ (by rfl) h cells slots)
theorem g_o_ldcw (hc : g_Ctx X p s args mid meth c R on ini bytes nL d) {z : Nat} (hD : g_okD bytes (pc, .ldc_w z, len, a, b, c0) = true) (hI : g_okI on ini ret (pc, .ldc_w z, len, a, b, c0) = true)
    (hk : ∀ j L st m1, m1.2.2.2.1 = m.2.2.2.1 → k j L st m1 = some o → ∀ cells slots, g_G X p l e R s mid args below meth c Q nL o (match j with
    | none => pc + len
    | some t => t) L st m1 cells slots)
    (h : g_step X.2.2.2.2.2.1 (pc, .ldc_w z, len, a, b, c0) L st m k = some o) (cells slots : Nat) : g_G X p l e R s mid args below meth c Q nL o pc L st m cells slots := by
  obtain ⟨hx, hb, hml, hown, hts, hKn, hKc, hfr, hlo, hin⟩ := hc
  have hdg := g_bo hD
  obtain rfl : 3 = len := g_ln hD
  obtain ⟨r, hr, h1⟩ := List.any_eq_true.mp hI
  simp only [g_at2, Bool.and_eq_true] at h1
  have hw := g_w_in (g_kl_ok r hr)
  rw [Nat.eq_of_beq_eq_true h1.1.1, Nat.eq_of_beq_eq_true h1.1.2, Nat.eq_of_beq_eq_true h1.2.1, Nat.eq_of_beq_eq_true h1.2.2] at hw
  exact g_G.pure (fun Q1 H locs ls hL hW hS kk => lv_ldcw hx hb hown (hts _ hw) hdg kk) (hk none _ _ _ (by rfl) h cells slots)
theorem g_o_ldc (hc : g_Ctx X p s args mid meth c R on ini bytes nL d) {z : Nat} (hD : g_okD bytes (pc, .ldc z, len, a, b, c0) = true) (hI : g_okI on ini ret (pc, .ldc z, len, a, b, c0) = true)
    (hk : ∀ j L st m1, m1.2.2.2.1 = m.2.2.2.1 → k j L st m1 = some o → ∀ cells slots, g_G X p l e R s mid args below meth c Q nL o (match j with
    | none => pc + len
    | some t => t) L st m1 cells slots)
    (h : g_step X.2.2.2.2.2.1 (pc, .ldc z, len, a, b, c0) L st m k = some o) (cells slots : Nat) : g_G X p l e R s mid args below meth c Q nL o pc L st m cells slots := by
  obtain ⟨hx, hb, hml, hown, hts, hKn, hKc, hfr, hlo, hin⟩ := hc
  have hdg := g_bo hD
  obtain rfl : 2 = len := g_ln hD
  by_cases hc2 : c0 = 2
  · subst hc2
    obtain ⟨r, hr, h1⟩ := List.any_eq_true.mp hI
    simp only [g_at2, Bool.and_eq_true] at h1
    obtain ⟨-, q1, q2⟩ := g_sl_ok r hr
    rw [Nat.eq_of_beq_eq_true h1.1.1, Nat.eq_of_beq_eq_true h1.1.2, Nat.eq_of_beq_eq_true h1.2] at q1
    rw [Nat.eq_of_beq_eq_true h1.2] at q2
    have hz := hKc.2.2.2.2.2.1 _ _ q1
    rw [← q2] at hz
    exact g_G.pure (fun Q1 H locs ls hL hW hS kk => va_ldcS hx hb hown hz hdg kk) (hk none _ _ _ (by rfl) h cells slots)
  · have hI : (g_kl.any fun r => g_at2 on z r && (Nat.beq r.2.2.1 a && Nat.beq r.2.2.2.1 c0)) = true := by
      unfold g_okI at hI
      simp only at hI
      first
        | exact hI
        | (split at hI
           · exact absurd rfl hc2
           · exact hI)
    obtain ⟨r, hr, h1⟩ := List.any_eq_true.mp hI
    simp only [g_at2, Bool.and_eq_true] at h1
    have hw := g_w_in (g_kl_ok r hr)
    rw [Nat.eq_of_beq_eq_true h1.1.1, Nat.eq_of_beq_eq_true h1.1.2, Nat.eq_of_beq_eq_true h1.2.1, Nat.eq_of_beq_eq_true h1.2.2] at hw
    unfold g_step at h
    simp only at h
    have h : k none L (Value.int (g_num (pc, Instr.ldc z, 2, a, b, c0)) :: st) m = some o := by
      first
        | exact h
        | (split at h
           · exact absurd rfl hc2
           · exact h)
    exact g_G.pure (fun Q1 H locs ls hL hW hS kk => lv_ldc hx hb hown (hts _ hw) hdg kk) (hk none _ _ _ (by rfl) h cells slots)
end OP2

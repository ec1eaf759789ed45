section OP
variable {p : Program} {l : Launch} {e : Env} {R : Room} {s : State} {mid : MethodId} {args : Array Value} {below : List Frame} {meth : Method} {c : Code} {Q : Nat → Nat → State → Prop}
variable {X : gX} {on nL d : Nat} {ini : Bool} {bytes : ByteArray} {o : Option Value × gM} {ret : Option FieldType} {pc len a b c0 : Nat} {ins : Instr} {k : gK} {L : gLs} {st : List Value} {m : gM}

theorem g_o_iadd (hc : g_Ctx X p s args mid meth c R on ini bytes nL d) (hD : g_okD bytes (pc, .iadd, len, a, b, c0) = true) (hI : g_okI on ini ret (pc, .iadd, len, a, b, c0) = true)
    (hk : ∀ j L st m1, m1.2.2.2.1 = m.2.2.2.1 → k j L st m1 = some o → ∀ cells slots, g_G X p l e R s mid args below meth c Q nL o (match j with
    | none => pc + len
    | some t => t) L st m1 cells slots)
    (h : g_step X.2.2.2.2.2.1 (pc, .iadd, len, a, b, c0) L st m k = some o) (cells slots : Nat) : g_G X p l e R s mid args below meth c Q nL o pc L st m cells slots := by
  obtain ⟨hx, hb, hml, hown, hts, hKn, hKc, hfr, hlo, hin⟩ := hc
  have hdg := g_bo hD
  obtain rfl : 1 = len := g_ln hD
  obtain ⟨x, y, st1, rfl, h⟩ := g_b2_inv h
  exact g_G.pure (fun Q1 H locs ls hL hW hS kk => lv_iadd hx hb hdg kk) (hk none _ _ _ (by rfl) h cells slots)
theorem g_o_isub (hc : g_Ctx X p s args mid meth c R on ini bytes nL d) (hD : g_okD bytes (pc, .isub, len, a, b, c0) = true) (hI : g_okI on ini ret (pc, .isub, len, a, b, c0) = true)
    (hk : ∀ j L st m1, m1.2.2.2.1 = m.2.2.2.1 → k j L st m1 = some o → ∀ cells slots, g_G X p l e R s mid args below meth c Q nL o (match j with
    | none => pc + len
    | some t => t) L st m1 cells slots)
    (h : g_step X.2.2.2.2.2.1 (pc, .isub, len, a, b, c0) L st m k = some o) (cells slots : Nat) : g_G X p l e R s mid args below meth c Q nL o pc L st m cells slots := by
  obtain ⟨hx, hb, hml, hown, hts, hKn, hKc, hfr, hlo, hin⟩ := hc
  have hdg := g_bo hD
  obtain rfl : 1 = len := g_ln hD
  obtain ⟨x, y, st1, rfl, h⟩ := g_b2_inv h
  exact g_G.pure (fun Q1 H locs ls hL hW hS kk => lv_isub hx hb hdg kk) (hk none _ _ _ (by rfl) h cells slots)
theorem g_o_imul (hc : g_Ctx X p s args mid meth c R on ini bytes nL d) (hD : g_okD bytes (pc, .imul, len, a, b, c0) = true) (hI : g_okI on ini ret (pc, .imul, len, a, b, c0) = true)
    (hk : ∀ j L st m1, m1.2.2.2.1 = m.2.2.2.1 → k j L st m1 = some o → ∀ cells slots, g_G X p l e R s mid args below meth c Q nL o (match j with
    | none => pc + len
    | some t => t) L st m1 cells slots)
    (h : g_step X.2.2.2.2.2.1 (pc, .imul, len, a, b, c0) L st m k = some o) (cells slots : Nat) : g_G X p l e R s mid args below meth c Q nL o pc L st m cells slots := by
  obtain ⟨hx, hb, hml, hown, hts, hKn, hKc, hfr, hlo, hin⟩ := hc
  have hdg := g_bo hD
  obtain rfl : 1 = len := g_ln hD
  obtain ⟨x, y, st1, rfl, h⟩ := g_b2_inv h
  exact g_G.pure (fun Q1 H locs ls hL hW hS kk => lv_imul hx hb hdg kk) (hk none _ _ _ (by rfl) h cells slots)
theorem g_o_iand (hc : g_Ctx X p s args mid meth c R on ini bytes nL d) (hD : g_okD bytes (pc, .iand, len, a, b, c0) = true) (hI : g_okI on ini ret (pc, .iand, len, a, b, c0) = true)
    (hk : ∀ j L st m1, m1.2.2.2.1 = m.2.2.2.1 → k j L st m1 = some o → ∀ cells slots, g_G X p l e R s mid args below meth c Q nL o (match j with
    | none => pc + len
    | some t => t) L st m1 cells slots)
    (h : g_step X.2.2.2.2.2.1 (pc, .iand, len, a, b, c0) L st m k = some o) (cells slots : Nat) : g_G X p l e R s mid args below meth c Q nL o pc L st m cells slots := by
  obtain ⟨hx, hb, hml, hown, hts, hKn, hKc, hfr, hlo, hin⟩ := hc
  have hdg := g_bo hD
  obtain rfl : 1 = len := g_ln hD
  obtain ⟨x, y, st1, rfl, h⟩ := g_b2_inv h
  exact g_G.pure (fun Q1 H locs ls hL hW hS kk => lv_iand hx hb hdg kk) (hk none _ _ _ (by rfl) h cells slots)
theorem g_o_ior (hc : g_Ctx X p s args mid meth c R on ini bytes nL d) (hD : g_okD bytes (pc, .ior, len, a, b, c0) = true) (hI : g_okI on ini ret (pc, .ior, len, a, b, c0) = true)
    (hk : ∀ j L st m1, m1.2.2.2.1 = m.2.2.2.1 → k j L st m1 = some o → ∀ cells slots, g_G X p l e R s mid args below meth c Q nL o (match j with
    | none => pc + len
    | some t => t) L st m1 cells slots)
    (h : g_step X.2.2.2.2.2.1 (pc, .ior, len, a, b, c0) L st m k = some o) (cells slots : Nat) : g_G X p l e R s mid args below meth c Q nL o pc L st m cells slots := by
  obtain ⟨hx, hb, hml, hown, hts, hKn, hKc, hfr, hlo, hin⟩ := hc
  have hdg := g_bo hD
  obtain rfl : 1 = len := g_ln hD
  obtain ⟨x, y, st1, rfl, h⟩ := g_b2_inv h
  exact g_G.pure (fun Q1 H locs ls hL hW hS kk => lv_ior hx hb hdg kk) (hk none _ _ _ (by rfl) h cells slots)
theorem g_o_ixor (hc : g_Ctx X p s args mid meth c R on ini bytes nL d) (hD : g_okD bytes (pc, .ixor, len, a, b, c0) = true) (hI : g_okI on ini ret (pc, .ixor, len, a, b, c0) = true)
    (hk : ∀ j L st m1, m1.2.2.2.1 = m.2.2.2.1 → k j L st m1 = some o → ∀ cells slots, g_G X p l e R s mid args below meth c Q nL o (match j with
    | none => pc + len
    | some t => t) L st m1 cells slots)
    (h : g_step X.2.2.2.2.2.1 (pc, .ixor, len, a, b, c0) L st m k = some o) (cells slots : Nat) : g_G X p l e R s mid args below meth c Q nL o pc L st m cells slots := by
  obtain ⟨hx, hb, hml, hown, hts, hKn, hKc, hfr, hlo, hin⟩ := hc
  have hdg := g_bo hD
  obtain rfl : 1 = len := g_ln hD
  obtain ⟨x, y, st1, rfl, h⟩ := g_b2_inv h
  exact g_G.pure (fun Q1 H locs ls hL hW hS kk => lv_ixor hx hb hdg kk) (hk none _ _ _ (by rfl) h cells slots)
theorem g_o_ishl (hc : g_Ctx X p s args mid meth c R on ini bytes nL d) (hD : g_okD bytes (pc, .ishl, len, a, b, c0) = true) (hI : g_okI on ini ret (pc, .ishl, len, a, b, c0) = true)
    (hk : ∀ j L st m1, m1.2.2.2.1 = m.2.2.2.1 → k j L st m1 = some o → ∀ cells slots, g_G X p l e R s mid args below meth c Q nL o (match j with
    | none => pc + len
    | some t => t) L st m1 cells slots)
    (h : g_step X.2.2.2.2.2.1 (pc, .ishl, len, a, b, c0) L st m k = some o) (cells slots : Nat) : g_G X p l e R s mid args below meth c Q nL o pc L st m cells slots := by
  obtain ⟨hx, hb, hml, hown, hts, hKn, hKc, hfr, hlo, hin⟩ := hc
  have hdg := g_bo hD
  obtain rfl : 1 = len := g_ln hD
  obtain ⟨x, y, st1, rfl, h⟩ := g_b2_inv h
  exact g_G.pure (fun Q1 H locs ls hL hW hS kk => lv_ishl hx hb hdg kk) (hk none _ _ _ (by rfl) h cells slots)
theorem g_o_ishr (hc : g_Ctx X p s args mid meth c R on ini bytes nL d) (hD : g_okD bytes (pc, .ishr, len, a, b, c0) = true) (hI : g_okI on ini ret (pc, .ishr, len, a, b, c0) = true)
    (hk : ∀ j L st m1, m1.2.2.2.1 = m.2.2.2.1 → k j L st m1 = some o → ∀ cells slots, g_G X p l e R s mid args below meth c Q nL o (match j with
    | none => pc + len
    | some t => t) L st m1 cells slots)
    (h : g_step X.2.2.2.2.2.1 (pc, .ishr, len, a, b, c0) L st m k = some o) (cells slots : Nat) : g_G X p l e R s mid args below meth c Q nL o pc L st m cells slots := by
  obtain ⟨hx, hb, hml, hown, hts, hKn, hKc, hfr, hlo, hin⟩ := hc
  have hdg := g_bo hD
  obtain rfl : 1 = len := g_ln hD
  obtain ⟨x, y, st1, rfl, h⟩ := g_b2_inv h
  exact g_G.pure (fun Q1 H locs ls hL hW hS kk => lv_ishr hx hb hdg kk) (hk none _ _ _ (by rfl) h cells slots)
theorem g_o_iushr (hc : g_Ctx X p s args mid meth c R on ini bytes nL d) (hD : g_okD bytes (pc, .iushr, len, a, b, c0) = true) (hI : g_okI on ini ret (pc, .iushr, len, a, b, c0) = true)
    (hk : ∀ j L st m1, m1.2.2.2.1 = m.2.2.2.1 → k j L st m1 = some o → ∀ cells slots, g_G X p l e R s mid args below meth c Q nL o (match j with
    | none => pc + len
    | some t => t) L st m1 cells slots)
    (h : g_step X.2.2.2.2.2.1 (pc, .iushr, len, a, b, c0) L st m k = some o) (cells slots : Nat) : g_G X p l e R s mid args below meth c Q nL o pc L st m cells slots := by
  obtain ⟨hx, hb, hml, hown, hts, hKn, hKc, hfr, hlo, hin⟩ := hc
  have hdg := g_bo hD
  obtain rfl : 1 = len := g_ln hD
  obtain ⟨x, y, st1, rfl, h⟩ := g_b2_inv h
  exact g_G.pure (fun Q1 H locs ls hL hW hS kk => lv_iushr hx hb hdg rfl kk) (hk none _ _ _ (by rfl) h cells slots)
theorem g_o_ladd (hc : g_Ctx X p s args mid meth c R on ini bytes nL d) (hD : g_okD bytes (pc, .ladd, len, a, b, c0) = true) (hI : g_okI on ini ret (pc, .ladd, len, a, b, c0) = true)
    (hk : ∀ j L st m1, m1.2.2.2.1 = m.2.2.2.1 → k j L st m1 = some o → ∀ cells slots, g_G X p l e R s mid args below meth c Q nL o (match j with
    | none => pc + len
    | some t => t) L st m1 cells slots)
    (h : g_step X.2.2.2.2.2.1 (pc, .ladd, len, a, b, c0) L st m k = some o) (cells slots : Nat) : g_G X p l e R s mid args below meth c Q nL o pc L st m cells slots := by
  obtain ⟨hx, hb, hml, hown, hts, hKn, hKc, hfr, hlo, hin⟩ := hc
  have hdg := g_bo hD
  obtain rfl : 1 = len := g_ln hD
  obtain ⟨x, y, st1, rfl, h⟩ := g_l2_inv h
  exact g_G.pure (fun Q1 H locs ls hL hW hS kk => lv_ladd hx hb hdg kk) (hk none _ _ _ (by rfl) h cells slots)
theorem g_o_lsub (hc : g_Ctx X p s args mid meth c R on ini bytes nL d) (hD : g_okD bytes (pc, .lsub, len, a, b, c0) = true) (hI : g_okI on ini ret (pc, .lsub, len, a, b, c0) = true)
    (hk : ∀ j L st m1, m1.2.2.2.1 = m.2.2.2.1 → k j L st m1 = some o → ∀ cells slots, g_G X p l e R s mid args below meth c Q nL o (match j with
    | none => pc + len
    | some t => t) L st m1 cells slots)
    (h : g_step X.2.2.2.2.2.1 (pc, .lsub, len, a, b, c0) L st m k = some o) (cells slots : Nat) : g_G X p l e R s mid args below meth c Q nL o pc L st m cells slots := by
  obtain ⟨hx, hb, hml, hown, hts, hKn, hKc, hfr, hlo, hin⟩ := hc
  have hdg := g_bo hD
  obtain rfl : 1 = len := g_ln hD
  obtain ⟨x, y, st1, rfl, h⟩ := g_l2_inv h
  exact g_G.pure (fun Q1 H locs ls hL hW hS kk => lv_lsub hx hb hdg kk) (hk none _ _ _ (by rfl) h cells slots)
theorem g_o_lmul (hc : g_Ctx X p s args mid meth c R on ini bytes nL d) (hD : g_okD bytes (pc, .lmul, len, a, b, c0) = true) (hI : g_okI on ini ret (pc, .lmul, len, a, b, c0) = true)
    (hk : ∀ j L st m1, m1.2.2.2.1 = m.2.2.2.1 → k j L st m1 = some o → ∀ cells slots, g_G X p l e R s mid args below meth c Q nL o (match j with
    | none => pc + len
    | some t => t) L st m1 cells slots)
    (h : g_step X.2.2.2.2.2.1 (pc, .lmul, len, a, b, c0) L st m k = some o) (cells slots : Nat) : g_G X p l e R s mid args below meth c Q nL o pc L st m cells slots := by
  obtain ⟨hx, hb, hml, hown, hts, hKn, hKc, hfr, hlo, hin⟩ := hc
  have hdg := g_bo hD
  obtain rfl : 1 = len := g_ln hD
  obtain ⟨x, y, st1, rfl, h⟩ := g_l2_inv h
  exact g_G.pure (fun Q1 H locs ls hL hW hS kk => lv_lmul hx hb hdg kk) (hk none _ _ _ (by rfl) h cells slots)
theorem g_o_land (hc : g_Ctx X p s args mid meth c R on ini bytes nL d) (hD : g_okD bytes (pc, .land, len, a, b, c0) = true) (hI : g_okI on ini ret (pc, .land, len, a, b, c0) = true)
    (hk : ∀ j L st m1, m1.2.2.2.1 = m.2.2.2.1 → k j L st m1 = some o → ∀ cells slots, g_G X p l e R s mid args below meth c Q nL o (match j with
    | none => pc + len
    | some t => t) L st m1 cells slots)
    (h : g_step X.2.2.2.2.2.1 (pc, .land, len, a, b, c0) L st m k = some o) (cells slots : Nat) : g_G X p l e R s mid args below meth c Q nL o pc L st m cells slots := by
  obtain ⟨hx, hb, hml, hown, hts, hKn, hKc, hfr, hlo, hin⟩ := hc
  have hdg := g_bo hD
  obtain rfl : 1 = len := g_ln hD
  obtain ⟨x, y, st1, rfl, h⟩ := g_l2_inv h
  exact g_G.pure (fun Q1 H locs ls hL hW hS kk => lv_land hx hb hdg kk) (hk none _ _ _ (by rfl) h cells slots)
theorem g_o_lor (hc : g_Ctx X p s args mid meth c R on ini bytes nL d) (hD : g_okD bytes (pc, .lor, len, a, b, c0) = true) (hI : g_okI on ini ret (pc, .lor, len, a, b, c0) = true)
    (hk : ∀ j L st m1, m1.2.2.2.1 = m.2.2.2.1 → k j L st m1 = some o → ∀ cells slots, g_G X p l e R s mid args below meth c Q nL o (match j with
    | none => pc + len
    | some t => t) L st m1 cells slots)
    (h : g_step X.2.2.2.2.2.1 (pc, .lor, len, a, b, c0) L st m k = some o) (cells slots : Nat) : g_G X p l e R s mid args below meth c Q nL o pc L st m cells slots := by
  obtain ⟨hx, hb, hml, hown, hts, hKn, hKc, hfr, hlo, hin⟩ := hc
  have hdg := g_bo hD
  obtain rfl : 1 = len := g_ln hD
  obtain ⟨x, y, st1, rfl, h⟩ := g_l2_inv h
  exact g_G.pure (fun Q1 H locs ls hL hW hS kk => lv_lor hx hb hdg kk) (hk none _ _ _ (by rfl) h cells slots)
theorem g_o_lshl (hc : g_Ctx X p s args mid meth c R on ini bytes nL d) (hD : g_okD bytes (pc, .lshl, len, a, b, c0) = true) (hI : g_okI on ini ret (pc, .lshl, len, a, b, c0) = true)
    (hk : ∀ j L st m1, m1.2.2.2.1 = m.2.2.2.1 → k j L st m1 = some o → ∀ cells slots, g_G X p l e R s mid args below meth c Q nL o (match j with
    | none => pc + len
    | some t => t) L st m1 cells slots)
    (h : g_step X.2.2.2.2.2.1 (pc, .lshl, len, a, b, c0) L st m k = some o) (cells slots : Nat) : g_G X p l e R s mid args below meth c Q nL o pc L st m cells slots := by
  obtain ⟨hx, hb, hml, hown, hts, hKn, hKc, hfr, hlo, hin⟩ := hc
  have hdg := g_bo hD
  obtain rfl : 1 = len := g_ln hD
  obtain ⟨x, y, st1, rfl, h⟩ := g_il_inv h
  exact g_G.pure (fun Q1 H locs ls hL hW hS kk => lv_lshl hx hb hdg rfl kk) (hk none _ _ _ (by rfl) h cells slots)
theorem g_o_lshr (hc : g_Ctx X p s args mid meth c R on ini bytes nL d) (hD : g_okD bytes (pc, .lshr, len, a, b, c0) = true) (hI : g_okI on ini ret (pc, .lshr, len, a, b, c0) = true)
    (hk : ∀ j L st m1, m1.2.2.2.1 = m.2.2.2.1 → k j L st m1 = some o → ∀ cells slots, g_G X p l e R s mid args below meth c Q nL o (match j with
    | none => pc + len
    | some t => t) L st m1 cells slots)
    (h : g_step X.2.2.2.2.2.1 (pc, .lshr, len, a, b, c0) L st m k = some o) (cells slots : Nat) : g_G X p l e R s mid args below meth c Q nL o pc L st m cells slots := by
  obtain ⟨hx, hb, hml, hown, hts, hKn, hKc, hfr, hlo, hin⟩ := hc
  have hdg := g_bo hD
  obtain rfl : 1 = len := g_ln hD
  obtain ⟨x, y, st1, rfl, h⟩ := g_il_inv h
  exact g_G.pure (fun Q1 H locs ls hL hW hS kk => lv_lshr hx hb hdg rfl kk) (hk none _ _ _ (by rfl) h cells slots)
theorem g_o_lushr (hc : g_Ctx X p s args mid meth c R on ini bytes nL d) (hD : g_okD bytes (pc, .lushr, len, a, b, c0) = true) (hI : g_okI on ini ret (pc, .lushr, len, a, b, c0) = true)
    (hk : ∀ j L st m1, m1.2.2.2.1 = m.2.2.2.1 → k j L st m1 = some o → ∀ cells slots, g_G X p l e R s mid args below meth c Q nL o (match j with
    | none => pc + len
    | some t => t) L st m1 cells slots)
    (h : g_step X.2.2.2.2.2.1 (pc, .lushr, len, a, b, c0) L st m k = some o) (cells slots : Nat) : g_G X p l e R s mid args below meth c Q nL o pc L st m cells slots := by
  obtain ⟨hx, hb, hml, hown, hts, hKn, hKc, hfr, hlo, hin⟩ := hc
  have hdg := g_bo hD
  obtain rfl : 1 = len := g_ln hD
  obtain ⟨x, y, st1, rfl, h⟩ := g_il_inv h
  exact g_G.pure (fun Q1 H locs ls hL hW hS kk => lv_lushr hx hb hdg rfl kk) (hk none _ _ _ (by rfl) h cells slots)
theorem g_o_lcmp (hc : g_Ctx X p s args mid meth c R on ini bytes nL d) (hD : g_okD bytes (pc, .lcmp, len, a, b, c0) = true) (hI : g_okI on ini ret (pc, .lcmp, len, a, b, c0) = true)
    (hk : ∀ j L st m1, m1.2.2.2.1 = m.2.2.2.1 → k j L st m1 = some o → ∀ cells slots, g_G X p l e R s mid args below meth c Q nL o (match j with
    | none => pc + len
    | some t => t) L st m1 cells slots)
    (h : g_step X.2.2.2.2.2.1 (pc, .lcmp, len, a, b, c0) L st m k = some o) (cells slots : Nat) : g_G X p l e R s mid args below meth c Q nL o pc L st m cells slots := by
  obtain ⟨hx, hb, hml, hown, hts, hKn, hKc, hfr, hlo, hin⟩ := hc
  have hdg := g_bo hD
  obtain rfl : 1 = len := g_ln hD
  obtain ⟨x, y, st1, rfl, h⟩ := g_l2_inv h
  exact g_G.pure (fun Q1 H locs ls hL hW hS kk => W.lcmp hx hb hdg kk) (hk none _ _ _ (by rfl) h cells slots)
theorem g_o_ineg (hc : g_Ctx X p s args mid meth c R on ini bytes nL d) (hD : g_okD bytes (pc, .ineg, len, a, b, c0) = true) (hI : g_okI on ini ret (pc, .ineg, len, a, b, c0) = true)
    (hk : ∀ j L st m1, m1.2.2.2.1 = m.2.2.2.1 → k j L st m1 = some o → ∀ cells slots, g_G X p l e R s mid args below meth c Q nL o (match j with
    | none => pc + len
    | some t => t) L st m1 cells slots)
    (h : g_step X.2.2.2.2.2.1 (pc, .ineg, len, a, b, c0) L st m k = some o) (cells slots : Nat) : g_G X p l e R s mid args below meth c Q nL o pc L st m cells slots := by
  obtain ⟨hx, hb, hml, hown, hts, hKn, hKc, hfr, hlo, hin⟩ := hc
  have hdg := g_bo hD
  obtain rfl : 1 = len := g_ln hD
  obtain ⟨x, st1, rfl, h⟩ := g_b1_inv h
  exact g_G.pure (fun Q1 H locs ls hL hW hS kk => lv_ineg hx hb hdg kk) (hk none _ _ _ (by rfl) h cells slots)
theorem g_o_i2l (hc : g_Ctx X p s args mid meth c R on ini bytes nL d) (hD : g_okD bytes (pc, .i2l, len, a, b, c0) = true) (hI : g_okI on ini ret (pc, .i2l, len, a, b, c0) = true)
    (hk : ∀ j L st m1, m1.2.2.2.1 = m.2.2.2.1 → k j L st m1 = some o → ∀ cells slots, g_G X p l e R s mid args below meth c Q nL o (match j with
    | none => pc + len
    | some t => t) L st m1 cells slots)
    (h : g_step X.2.2.2.2.2.1 (pc, .i2l, len, a, b, c0) L st m k = some o) (cells slots : Nat) : g_G X p l e R s mid args below meth c Q nL o pc L st m cells slots := by
  obtain ⟨hx, hb, hml, hown, hts, hKn, hKc, hfr, hlo, hin⟩ := hc
  have hdg := g_bo hD
  obtain rfl : 1 = len := g_ln hD
  obtain ⟨x, st1, rfl, h⟩ := g_b1_inv h
  exact g_G.pure (fun Q1 H locs ls hL hW hS kk => lv_i2l hx hb hdg rfl kk) (hk none _ _ _ (by rfl) h cells slots)
theorem g_o_l2i (hc : g_Ctx X p s args mid meth c R on ini bytes nL d) (hD : g_okD bytes (pc, .l2i, len, a, b, c0) = true) (hI : g_okI on ini ret (pc, .l2i, len, a, b, c0) = true)
    (hk : ∀ j L st m1, m1.2.2.2.1 = m.2.2.2.1 → k j L st m1 = some o → ∀ cells slots, g_G X p l e R s mid args below meth c Q nL o (match j with
    | none => pc + len
    | some t => t) L st m1 cells slots)
    (h : g_step X.2.2.2.2.2.1 (pc, .l2i, len, a, b, c0) L st m k = some o) (cells slots : Nat) : g_G X p l e R s mid args below meth c Q nL o pc L st m cells slots := by
  obtain ⟨hx, hb, hml, hown, hts, hKn, hKc, hfr, hlo, hin⟩ := hc
  have hdg := g_bo hD
  obtain rfl : 1 = len := g_ln hD
  obtain ⟨x, st1, rfl, h⟩ := g_l1_inv h
  exact g_G.pure (fun Q1 H locs ls hL hW hS kk => lv_l2i hx hb hdg rfl kk) (hk none _ _ _ (by rfl) h cells slots)
theorem g_o_i2c (hc : g_Ctx X p s args mid meth c R on ini bytes nL d) (hD : g_okD bytes (pc, .i2c, len, a, b, c0) = true) (hI : g_okI on ini ret (pc, .i2c, len, a, b, c0) = true)
    (hk : ∀ j L st m1, m1.2.2.2.1 = m.2.2.2.1 → k j L st m1 = some o → ∀ cells slots, g_G X p l e R s mid args below meth c Q nL o (match j with
    | none => pc + len
    | some t => t) L st m1 cells slots)
    (h : g_step X.2.2.2.2.2.1 (pc, .i2c, len, a, b, c0) L st m k = some o) (cells slots : Nat) : g_G X p l e R s mid args below meth c Q nL o pc L st m cells slots := by
  obtain ⟨hx, hb, hml, hown, hts, hKn, hKc, hfr, hlo, hin⟩ := hc
  have hdg := g_bo hD
  obtain rfl : 1 = len := g_ln hD
  obtain ⟨x, st1, rfl, h⟩ := g_b1_inv h
  exact g_G.pure (fun Q1 H locs ls hL hW hS kk => lv_i2c hx hb hdg rfl kk) (hk none _ _ _ (by rfl) h cells slots)
theorem g_o_i2b (hc : g_Ctx X p s args mid meth c R on ini bytes nL d) (hD : g_okD bytes (pc, .i2b, len, a, b, c0) = true) (hI : g_okI on ini ret (pc, .i2b, len, a, b, c0) = true)
    (hk : ∀ j L st m1, m1.2.2.2.1 = m.2.2.2.1 → k j L st m1 = some o → ∀ cells slots, g_G X p l e R s mid args below meth c Q nL o (match j with
    | none => pc + len
    | some t => t) L st m1 cells slots)
    (h : g_step X.2.2.2.2.2.1 (pc, .i2b, len, a, b, c0) L st m k = some o) (cells slots : Nat) : g_G X p l e R s mid args below meth c Q nL o pc L st m cells slots := by
  obtain ⟨hx, hb, hml, hown, hts, hKn, hKc, hfr, hlo, hin⟩ := hc
  have hdg := g_bo hD
  obtain rfl : 1 = len := g_ln hD
  obtain ⟨x, st1, rfl, h⟩ := g_b1_inv h
  exact g_G.pure (fun Q1 H locs ls hL hW hS kk => lv_i2b hx hb hdg rfl kk) (hk none _ _ _ (by rfl) h cells slots)
theorem g_o_idiv (hc : g_Ctx X p s args mid meth c R on ini bytes nL d) (hD : g_okD bytes (pc, .idiv, len, a, b, c0) = true) (hI : g_okI on ini ret (pc, .idiv, len, a, b, c0) = true)
    (hk : ∀ j L st m1, m1.2.2.2.1 = m.2.2.2.1 → k j L st m1 = some o → ∀ cells slots, g_G X p l e R s mid args below meth c Q nL o (match j with
    | none => pc + len
    | some t => t) L st m1 cells slots)
    (h : g_step X.2.2.2.2.2.1 (pc, .idiv, len, a, b, c0) L st m k = some o) (cells slots : Nat) : g_G X p l e R s mid args below meth c Q nL o pc L st m cells slots := by
  obtain ⟨hx, hb, hml, hown, hts, hKn, hKc, hfr, hlo, hin⟩ := hc
  have hdg := g_bo hD
  obtain rfl : 1 = len := g_ln hD
  obtain ⟨x, y, st1, rfl, h⟩ := g_b2_inv h
  obtain ⟨hne, h⟩ := g_ite_inv h
  exact g_G.pure (fun Q1 H locs ls hL hW hS kk => lv_idiv hx hb hdg hne kk) (hk none _ _ _ (by rfl) h cells slots)
theorem g_o_irem (hc : g_Ctx X p s args mid meth c R on ini bytes nL d) (hD : g_okD bytes (pc, .irem, len, a, b, c0) = true) (hI : g_okI on ini ret (pc, .irem, len, a, b, c0) = true)
    (hk : ∀ j L st m1, m1.2.2.2.1 = m.2.2.2.1 → k j L st m1 = some o → ∀ cells slots, g_G X p l e R s mid args below meth c Q nL o (match j with
    | none => pc + len
    | some t => t) L st m1 cells slots)
    (h : g_step X.2.2.2.2.2.1 (pc, .irem, len, a, b, c0) L st m k = some o) (cells slots : Nat) : g_G X p l e R s mid args below meth c Q nL o pc L st m cells slots := by
  obtain ⟨hx, hb, hml, hown, hts, hKn, hKc, hfr, hlo, hin⟩ := hc
  have hdg := g_bo hD
  obtain rfl : 1 = len := g_ln hD
  obtain ⟨x, y, st1, rfl, h⟩ := g_b2_inv h
  obtain ⟨hne, h⟩ := g_ite_inv h
  exact g_G.pure (fun Q1 H locs ls hL hW hS kk => lv_irem hx hb hdg hne kk) (hk none _ _ _ (by rfl) h cells slots)
theorem g_o_ldiv (hc : g_Ctx X p s args mid meth c R on ini bytes nL d) (hD : g_okD bytes (pc, .ldiv, len, a, b, c0) = true) (hI : g_okI on ini ret (pc, .ldiv, len, a, b, c0) = true)
    (hk : ∀ j L st m1, m1.2.2.2.1 = m.2.2.2.1 → k j L st m1 = some o → ∀ cells slots, g_G X p l e R s mid args below meth c Q nL o (match j with
    | none => pc + len
    | some t => t) L st m1 cells slots)
    (h : g_step X.2.2.2.2.2.1 (pc, .ldiv, len, a, b, c0) L st m k = some o) (cells slots : Nat) : g_G X p l e R s mid args below meth c Q nL o pc L st m cells slots := by
  obtain ⟨hx, hb, hml, hown, hts, hKn, hKc, hfr, hlo, hin⟩ := hc
  have hdg := g_bo hD
  obtain rfl : 1 = len := g_ln hD
  obtain ⟨x, y, st1, rfl, h⟩ := g_l2_inv h
  obtain ⟨hne, h⟩ := g_ite_inv h
  exact g_G.pure (fun Q1 H locs ls hL hW hS kk => lv_ldiv hx hb hdg hne kk) (hk none _ _ _ (by rfl) h cells slots)
theorem g_o_lrem (hc : g_Ctx X p s args mid meth c R on ini bytes nL d) (hD : g_okD bytes (pc, .lrem, len, a, b, c0) = true) (hI : g_okI on ini ret (pc, .lrem, len, a, b, c0) = true)
    (hk : ∀ j L st m1, m1.2.2.2.1 = m.2.2.2.1 → k j L st m1 = some o → ∀ cells slots, g_G X p l e R s mid args below meth c Q nL o (match j with
    | none => pc + len
    | some t => t) L st m1 cells slots)
    (h : g_step X.2.2.2.2.2.1 (pc, .lrem, len, a, b, c0) L st m k = some o) (cells slots : Nat) : g_G X p l e R s mid args below meth c Q nL o pc L st m cells slots := by
  obtain ⟨hx, hb, hml, hown, hts, hKn, hKc, hfr, hlo, hin⟩ := hc
  have hdg := g_bo hD
  obtain rfl : 1 = len := g_ln hD
  obtain ⟨x, y, st1, rfl, h⟩ := g_l2_inv h
  obtain ⟨hne, h⟩ := g_ite_inv h
  exact g_G.pure (fun Q1 H locs ls hL hW hS kk => lv_lrem hx hb hdg hne kk) (hk none _ _ _ (by rfl) h cells slots)
theorem g_o_iconst (hc : g_Ctx X p s args mid meth c R on ini bytes nL d) {z : Int} (hD : g_okD bytes (pc, .iconst z, len, a, b, c0) = true) (hI : g_okI on ini ret (pc, .iconst z, len, a, b, c0) = true)
    (hk : ∀ j L st m1, m1.2.2.2.1 = m.2.2.2.1 → k j L st m1 = some o → ∀ cells slots, g_G X p l e R s mid args below meth c Q nL o (match j with
    | none => pc + len
    | some t => t) L st m1 cells slots)
    (h : g_step X.2.2.2.2.2.1 (pc, .iconst z, len, a, b, c0) L st m k = some o) (cells slots : Nat) : g_G X p l e R s mid args below meth c Q nL o pc L st m cells slots := by
  obtain ⟨hx, hb, hml, hown, hts, hKn, hKc, hfr, hlo, hin⟩ := hc
  have hdg := g_bo hD
  obtain rfl : 1 = len := g_ln hD
  have hv := of_decide_eq_true hI
  exact g_G.pure (fun Q1 H locs ls hL hW hS kk => lv_iconst hx hb hdg hv kk) (hk none _ _ _ (by rfl) h cells slots)
theorem g_o_bipush (hc : g_Ctx X p s args mid meth c R on ini bytes nL d) {z : Int} (hD : g_okD bytes (pc, .bipush z, len, a, b, c0) = true) (hI : g_okI on ini ret (pc, .bipush z, len, a, b, c0) = true)
    (hk : ∀ j L st m1, m1.2.2.2.1 = m.2.2.2.1 → k j L st m1 = some o → ∀ cells slots, g_G X p l e R s mid args below meth c Q nL o (match j with
    | none => pc + len
    | some t => t) L st m1 cells slots)
    (h : g_step X.2.2.2.2.2.1 (pc, .bipush z, len, a, b, c0) L st m k = some o) (cells slots : Nat) : g_G X p l e R s mid args below meth c Q nL o pc L st m cells slots := by
  obtain ⟨hx, hb, hml, hown, hts, hKn, hKc, hfr, hlo, hin⟩ := hc
  have hdg := g_bo hD
  obtain rfl : 2 = len := g_ln hD
  have hv := of_decide_eq_true hI
  exact g_G.pure (fun Q1 H locs ls hL hW hS kk => lv_bipush hx hb hdg hv kk) (hk none _ _ _ (by rfl) h cells slots)
theorem g_o_sipush (hc : g_Ctx X p s args mid meth c R on ini bytes nL d) {z : Int} (hD : g_okD bytes (pc, .sipush z, len, a, b, c0) = true) (hI : g_okI on ini ret (pc, .sipush z, len, a, b, c0) = true)
    (hk : ∀ j L st m1, m1.2.2.2.1 = m.2.2.2.1 → k j L st m1 = some o → ∀ cells slots, g_G X p l e R s mid args below meth c Q nL o (match j with
    | none => pc + len
    | some t => t) L st m1 cells slots)
    (h : g_step X.2.2.2.2.2.1 (pc, .sipush z, len, a, b, c0) L st m k = some o) (cells slots : Nat) : g_G X p l e R s mid args below meth c Q nL o pc L st m cells slots := by
  obtain ⟨hx, hb, hml, hown, hts, hKn, hKc, hfr, hlo, hin⟩ := hc
  have hdg := g_bo hD
  obtain rfl : 3 = len := g_ln hD
  have hv := of_decide_eq_true hI
  exact g_G.pure (fun Q1 H locs ls hL hW hS kk => lv_sipush hx hb hdg hv kk) (hk none _ _ _ (by rfl) h cells slots)
theorem g_o_lconst (hc : g_Ctx X p s args mid meth c R on ini bytes nL d) {z : Fin 2} (hD : g_okD bytes (pc, .lconst z, len, a, b, c0) = true) (hI : g_okI on ini ret (pc, .lconst z, len, a, b, c0) = true)
    (hk : ∀ j L st m1, m1.2.2.2.1 = m.2.2.2.1 → k j L st m1 = some o → ∀ cells slots, g_G X p l e R s mid args below meth c Q nL o (match j with
    | none => pc + len
    | some t => t) L st m1 cells slots)
    (h : g_step X.2.2.2.2.2.1 (pc, .lconst z, len, a, b, c0) L st m k = some o) (cells slots : Nat) : g_G X p l e R s mid args below meth c Q nL o pc L st m cells slots := by
  obtain ⟨hx, hb, hml, hown, hts, hKn, hKc, hfr, hlo, hin⟩ := hc
  have hdg := g_bo hD
  obtain rfl : 1 = len := g_ln hD
  have hv := of_decide_eq_true hI
  exact g_G.pure (fun Q1 H locs ls hL hW hS kk => lv_lconst hx hb hdg hv kk) (hk none _ _ _ (by rfl) h cells slots)
theorem g_o_iload_n (hc : g_Ctx X p s args mid meth c R on ini bytes nL d) {z : Fin 4} (hD : g_okD bytes (pc, .iload_n z, len, a, b, c0) = true) (hI : g_okI on ini ret (pc, .iload_n z, len, a, b, c0) = true)
    (hk : ∀ j L st m1, m1.2.2.2.1 = m.2.2.2.1 → k j L st m1 = some o → ∀ cells slots, g_G X p l e R s mid args below meth c Q nL o (match j with
    | none => pc + len
    | some t => t) L st m1 cells slots)
    (h : g_step X.2.2.2.2.2.1 (pc, .iload_n z, len, a, b, c0) L st m k = some o) (cells slots : Nat) : g_G X p l e R s mid args below meth c Q nL o pc L st m cells slots := by
  obtain ⟨hx, hb, hml, hown, hts, hKn, hKc, hfr, hlo, hin⟩ := hc
  have hdg := g_bo hD
  obtain rfl : 1 = len := g_ln hD
  unfold g_step at h
  simp only [g_ldi] at h
  split at h
  · rename_i x hv
    exact g_G.pure (fun Q1 H locs ls hL hW hS kk => lv_iload_n hx hb hdg rfl (hL.2.2.2 _ _ hv) kk) (hk none _ _ _ (by rfl) h cells slots)
  · cases h
theorem g_o_iload (hc : g_Ctx X p s args mid meth c R on ini bytes nL d) {z : Nat} (hD : g_okD bytes (pc, .iload z, len, a, b, c0) = true) (hI : g_okI on ini ret (pc, .iload z, len, a, b, c0) = true)
    (hk : ∀ j L st m1, m1.2.2.2.1 = m.2.2.2.1 → k j L st m1 = some o → ∀ cells slots, g_G X p l e R s mid args below meth c Q nL o (match j with
    | none => pc + len
    | some t => t) L st m1 cells slots)
    (h : g_step X.2.2.2.2.2.1 (pc, .iload z, len, a, b, c0) L st m k = some o) (cells slots : Nat) : g_G X p l e R s mid args below meth c Q nL o pc L st m cells slots := by
  obtain ⟨hx, hb, hml, hown, hts, hKn, hKc, hfr, hlo, hin⟩ := hc
  have hdg := g_bo hD
  obtain rfl : 2 = len := g_ln hD
  unfold g_step at h
  simp only [g_ldi] at h
  split at h
  · rename_i x hv
    exact g_G.pure (fun Q1 H locs ls hL hW hS kk => lv_iload hx hb hdg (hL.2.2.2 _ _ hv) kk) (hk none _ _ _ (by rfl) h cells slots)
  · cases h
theorem g_o_lload_n (hc : g_Ctx X p s args mid meth c R on ini bytes nL d) {z : Fin 4} (hD : g_okD bytes (pc, .lload_n z, len, a, b, c0) = true) (hI : g_okI on ini ret (pc, .lload_n z, len, a, b, c0) = true)
    (hk : ∀ j L st m1, m1.2.2.2.1 = m.2.2.2.1 → k j L st m1 = some o → ∀ cells slots, g_G X p l e R s mid args below meth c Q nL o (match j with
    | none => pc + len
    | some t => t) L st m1 cells slots)
    (h : g_step X.2.2.2.2.2.1 (pc, .lload_n z, len, a, b, c0) L st m k = some o) (cells slots : Nat) : g_G X p l e R s mid args below meth c Q nL o pc L st m cells slots := by
  obtain ⟨hx, hb, hml, hown, hts, hKn, hKc, hfr, hlo, hin⟩ := hc
  have hdg := g_bo hD
  obtain rfl : 1 = len := g_ln hD
  unfold g_step at h
  simp only [g_ldl] at h
  split at h
  · rename_i x hv
    exact g_G.pure (fun Q1 H locs ls hL hW hS kk => lv_lload_n hx hb hdg rfl (hL.2.2.2 _ _ hv) kk) (hk none _ _ _ (by rfl) h cells slots)
  · cases h
theorem g_o_lload (hc : g_Ctx X p s args mid meth c R on ini bytes nL d) {z : Nat} (hD : g_okD bytes (pc, .lload z, len, a, b, c0) = true) (hI : g_okI on ini ret (pc, .lload z, len, a, b, c0) = true)
    (hk : ∀ j L st m1, m1.2.2.2.1 = m.2.2.2.1 → k j L st m1 = some o → ∀ cells slots, g_G X p l e R s mid args below meth c Q nL o (match j with
    | none => pc + len
    | some t => t) L st m1 cells slots)
    (h : g_step X.2.2.2.2.2.1 (pc, .lload z, len, a, b, c0) L st m k = some o) (cells slots : Nat) : g_G X p l e R s mid args below meth c Q nL o pc L st m cells slots := by
  obtain ⟨hx, hb, hml, hown, hts, hKn, hKc, hfr, hlo, hin⟩ := hc
  have hdg := g_bo hD
  obtain rfl : 2 = len := g_ln hD
  unfold g_step at h
  simp only [g_ldl] at h
  split at h
  · rename_i x hv
    exact g_G.pure (fun Q1 H locs ls hL hW hS kk => lv_lload hx hb hdg (hL.2.2.2 _ _ hv) kk) (hk none _ _ _ (by rfl) h cells slots)
  · cases h
theorem g_o_aload_n (hc : g_Ctx X p s args mid meth c R on ini bytes nL d) {z : Fin 4} (hD : g_okD bytes (pc, .aload_n z, len, a, b, c0) = true) (hI : g_okI on ini ret (pc, .aload_n z, len, a, b, c0) = true)
    (hk : ∀ j L st m1, m1.2.2.2.1 = m.2.2.2.1 → k j L st m1 = some o → ∀ cells slots, g_G X p l e R s mid args below meth c Q nL o (match j with
    | none => pc + len
    | some t => t) L st m1 cells slots)
    (h : g_step X.2.2.2.2.2.1 (pc, .aload_n z, len, a, b, c0) L st m k = some o) (cells slots : Nat) : g_G X p l e R s mid args below meth c Q nL o pc L st m cells slots := by
  obtain ⟨hx, hb, hml, hown, hts, hKn, hKc, hfr, hlo, hin⟩ := hc
  have hdg := g_bo hD
  obtain rfl : 1 = len := g_ln hD
  unfold g_step at h
  simp only [g_lda] at h
  split at h
  · rename_i x hv
    exact g_G.pure (fun Q1 H locs ls hL hW hS kk => lv_aload_n hx hb hdg rfl (hL.2.2.2 _ _ hv) kk) (hk none _ _ _ (by rfl) h cells slots)
  · cases h
theorem g_o_aload (hc : g_Ctx X p s args mid meth c R on ini bytes nL d) {z : Nat} (hD : g_okD bytes (pc, .aload z, len, a, b, c0) = true) (hI : g_okI on ini ret (pc, .aload z, len, a, b, c0) = true)
    (hk : ∀ j L st m1, m1.2.2.2.1 = m.2.2.2.1 → k j L st m1 = some o → ∀ cells slots, g_G X p l e R s mid args below meth c Q nL o (match j with
    | none => pc + len
    | some t => t) L st m1 cells slots)
    (h : g_step X.2.2.2.2.2.1 (pc, .aload z, len, a, b, c0) L st m k = some o) (cells slots : Nat) : g_G X p l e R s mid args below meth c Q nL o pc L st m cells slots := by
  obtain ⟨hx, hb, hml, hown, hts, hKn, hKc, hfr, hlo, hin⟩ := hc
  have hdg := g_bo hD
  obtain rfl : 2 = len := g_ln hD
  unfold g_step at h
  simp only [g_lda] at h
  split at h
  · rename_i x hv
    exact g_G.pure (fun Q1 H locs ls hL hW hS kk => lv_aload hx hb hdg (hL.2.2.2 _ _ hv) kk) (hk none _ _ _ (by rfl) h cells slots)
  · cases h
theorem g_o_istore_n (hc : g_Ctx X p s args mid meth c R on ini bytes nL d) {z : Fin 4} (hD : g_okD bytes (pc, .istore_n z, len, a, b, c0) = true) (hI : g_okI on ini ret (pc, .istore_n z, len, a, b, c0) = true)
    (hk : ∀ j L st m1, m1.2.2.2.1 = m.2.2.2.1 → k j L st m1 = some o → ∀ cells slots, g_G X p l e R s mid args below meth c Q nL o (match j with
    | none => pc + len
    | some t => t) L st m1 cells slots)
    (h : g_step X.2.2.2.2.2.1 (pc, .istore_n z, len, a, b, c0) L st m k = some o) (cells slots : Nat) : g_G X p l e R s mid args below meth c Q nL o pc L st m cells slots := by
  obtain ⟨hx, hb, hml, hown, hts, hKn, hKc, hfr, hlo, hin⟩ := hc
  have hdg := g_bo hD
  obtain rfl : 1 = len := g_ln hD
  obtain ⟨x, st1, rfl, h⟩ := g_b1_inv h
  obtain ⟨hz, h⟩ := g_cond_inv h
  have hz := Nat.lt_of_succ_le (Nat.le_of_ble_eq_true hz)
  exact g_G.step rfl (fun Q1 H locs ls hL hW hS kk => lv_istore_n hx hb hdg rfl (g_lv_has hL) (by rw [← hL.2.2.1]; exact hz) rfl fun ls1 h1 => kk H locs ls1 (g_Ls_put hKc.2.2.2.2.2.2.2.1 hL h1) hW hS) (hk none _ _ _ (by rfl) h cells slots)
theorem g_o_istore (hc : g_Ctx X p s args mid meth c R on ini bytes nL d) {z : Nat} (hD : g_okD bytes (pc, .istore z, len, a, b, c0) = true) (hI : g_okI on ini ret (pc, .istore z, len, a, b, c0) = true)
    (hk : ∀ j L st m1, m1.2.2.2.1 = m.2.2.2.1 → k j L st m1 = some o → ∀ cells slots, g_G X p l e R s mid args below meth c Q nL o (match j with
    | none => pc + len
    | some t => t) L st m1 cells slots)
    (h : g_step X.2.2.2.2.2.1 (pc, .istore z, len, a, b, c0) L st m k = some o) (cells slots : Nat) : g_G X p l e R s mid args below meth c Q nL o pc L st m cells slots := by
  obtain ⟨hx, hb, hml, hown, hts, hKn, hKc, hfr, hlo, hin⟩ := hc
  have hdg := g_bo hD
  obtain rfl : 2 = len := g_ln hD
  obtain ⟨x, st1, rfl, h⟩ := g_b1_inv h
  obtain ⟨hz, h⟩ := g_cond_inv h
  have hz := Nat.lt_of_succ_le (Nat.le_of_ble_eq_true hz)
  exact g_G.step rfl (fun Q1 H locs ls hL hW hS kk => lv_istore hx hb hdg (g_lv_has hL) (by rw [← hL.2.2.1]; exact hz) rfl fun ls1 h1 => kk H locs ls1 (g_Ls_put hKc.2.2.2.2.2.2.2.1 hL h1) hW hS) (hk none _ _ _ (by rfl) h cells slots)
theorem g_o_lstore_n (hc : g_Ctx X p s args mid meth c R on ini bytes nL d) {z : Fin 4} (hD : g_okD bytes (pc, .lstore_n z, len, a, b, c0) = true) (hI : g_okI on ini ret (pc, .lstore_n z, len, a, b, c0) = true)
    (hk : ∀ j L st m1, m1.2.2.2.1 = m.2.2.2.1 → k j L st m1 = some o → ∀ cells slots, g_G X p l e R s mid args below meth c Q nL o (match j with
    | none => pc + len
    | some t => t) L st m1 cells slots)
    (h : g_step X.2.2.2.2.2.1 (pc, .lstore_n z, len, a, b, c0) L st m k = some o) (cells slots : Nat) : g_G X p l e R s mid args below meth c Q nL o pc L st m cells slots := by
  obtain ⟨hx, hb, hml, hown, hts, hKn, hKc, hfr, hlo, hin⟩ := hc
  have hdg := g_bo hD
  obtain rfl : 1 = len := g_ln hD
  obtain ⟨x, st1, rfl, h⟩ := g_l1_inv h
  obtain ⟨hz, h⟩ := g_cond_inv h
  have hz := Nat.lt_of_succ_le (Nat.le_of_ble_eq_true hz)
  exact g_G.step rfl (fun Q1 H locs ls hL hW hS kk => lv_lstore_n hx hb hdg rfl (g_lv_has hL) (by rw [← hL.2.2.1]; exact hz) rfl fun ls1 h1 => kk H locs ls1 (g_Ls_put2 hKc.2.2.2.2.2.2.2.1 hL h1) hW hS) (hk none _ _ _ (by rfl) h cells slots)
theorem g_o_lstore (hc : g_Ctx X p s args mid meth c R on ini bytes nL d) {z : Nat} (hD : g_okD bytes (pc, .lstore z, len, a, b, c0) = true) (hI : g_okI on ini ret (pc, .lstore z, len, a, b, c0) = true)
    (hk : ∀ j L st m1, m1.2.2.2.1 = m.2.2.2.1 → k j L st m1 = some o → ∀ cells slots, g_G X p l e R s mid args below meth c Q nL o (match j with
    | none => pc + len
    | some t => t) L st m1 cells slots)
    (h : g_step X.2.2.2.2.2.1 (pc, .lstore z, len, a, b, c0) L st m k = some o) (cells slots : Nat) : g_G X p l e R s mid args below meth c Q nL o pc L st m cells slots := by
  obtain ⟨hx, hb, hml, hown, hts, hKn, hKc, hfr, hlo, hin⟩ := hc
  have hdg := g_bo hD
  obtain rfl : 2 = len := g_ln hD
  obtain ⟨x, st1, rfl, h⟩ := g_l1_inv h
  obtain ⟨hz, h⟩ := g_cond_inv h
  have hz := Nat.lt_of_succ_le (Nat.le_of_ble_eq_true hz)
  exact g_G.step rfl (fun Q1 H locs ls hL hW hS kk => lv_lstore hx hb hdg (g_lv_has hL) (by rw [← hL.2.2.1]; exact hz) rfl fun ls1 h1 => kk H locs ls1 (g_Ls_put2 hKc.2.2.2.2.2.2.2.1 hL h1) hW hS) (hk none _ _ _ (by rfl) h cells slots)
theorem g_o_astore_n (hc : g_Ctx X p s args mid meth c R on ini bytes nL d) {z : Fin 4} (hD : g_okD bytes (pc, .astore_n z, len, a, b, c0) = true) (hI : g_okI on ini ret (pc, .astore_n z, len, a, b, c0) = true)
    (hk : ∀ j L st m1, m1.2.2.2.1 = m.2.2.2.1 → k j L st m1 = some o → ∀ cells slots, g_G X p l e R s mid args below meth c Q nL o (match j with
    | none => pc + len
    | some t => t) L st m1 cells slots)
    (h : g_step X.2.2.2.2.2.1 (pc, .astore_n z, len, a, b, c0) L st m k = some o) (cells slots : Nat) : g_G X p l e R s mid args below meth c Q nL o pc L st m cells slots := by
  obtain ⟨hx, hb, hml, hown, hts, hKn, hKc, hfr, hlo, hin⟩ := hc
  have hdg := g_bo hD
  obtain rfl : 1 = len := g_ln hD
  obtain ⟨x, st1, rfl, h⟩ := g_a1_inv h
  obtain ⟨hz, h⟩ := g_cond_inv h
  have hz := Nat.lt_of_succ_le (Nat.le_of_ble_eq_true hz)
  exact g_G.step rfl (fun Q1 H locs ls hL hW hS kk => lv_astore_n hx hb hdg rfl (g_lv_has hL) (by rw [← hL.2.2.1]; exact hz) rfl fun ls1 h1 => kk H locs ls1 (g_Ls_put hKc.2.2.2.2.2.2.2.1 hL h1) hW hS) (hk none _ _ _ (by rfl) h cells slots)
theorem g_o_astore (hc : g_Ctx X p s args mid meth c R on ini bytes nL d) {z : Nat} (hD : g_okD bytes (pc, .astore z, len, a, b, c0) = true) (hI : g_okI on ini ret (pc, .astore z, len, a, b, c0) = true)
    (hk : ∀ j L st m1, m1.2.2.2.1 = m.2.2.2.1 → k j L st m1 = some o → ∀ cells slots, g_G X p l e R s mid args below meth c Q nL o (match j with
    | none => pc + len
    | some t => t) L st m1 cells slots)
    (h : g_step X.2.2.2.2.2.1 (pc, .astore z, len, a, b, c0) L st m k = some o) (cells slots : Nat) : g_G X p l e R s mid args below meth c Q nL o pc L st m cells slots := by
  obtain ⟨hx, hb, hml, hown, hts, hKn, hKc, hfr, hlo, hin⟩ := hc
  have hdg := g_bo hD
  obtain rfl : 2 = len := g_ln hD
  obtain ⟨x, st1, rfl, h⟩ := g_a1_inv h
  obtain ⟨hz, h⟩ := g_cond_inv h
  have hz := Nat.lt_of_succ_le (Nat.le_of_ble_eq_true hz)
  exact g_G.step rfl (fun Q1 H locs ls hL hW hS kk => lv_astore hx hb hdg (g_lv_has hL) (by rw [← hL.2.2.1]; exact hz) rfl fun ls1 h1 => kk H locs ls1 (g_Ls_put hKc.2.2.2.2.2.2.2.1 hL h1) hW hS) (hk none _ _ _ (by rfl) h cells slots)
theorem g_o_iinc (hc : g_Ctx X p s args mid meth c R on ini bytes nL d) {z : Nat} {y : Int} (hD : g_okD bytes (pc, .iinc z y, len, a, b, c0) = true) (hI : g_okI on ini ret (pc, .iinc z y, len, a, b, c0) = true)
    (hk : ∀ j L st m1, m1.2.2.2.1 = m.2.2.2.1 → k j L st m1 = some o → ∀ cells slots, g_G X p l e R s mid args below meth c Q nL o (match j with
    | none => pc + len
    | some t => t) L st m1 cells slots)
    (h : g_step X.2.2.2.2.2.1 (pc, .iinc z y, len, a, b, c0) L st m k = some o) (cells slots : Nat) : g_G X p l e R s mid args below meth c Q nL o pc L st m cells slots := by
  obtain ⟨hx, hb, hml, hown, hts, hKn, hKc, hfr, hlo, hin⟩ := hc
  have hdg := g_bo hD
  obtain rfl : 3 = len := g_ln hD
  have hv := of_decide_eq_true hI
  unfold g_step at h
  simp only at h
  split at h
  · rename_i x hx0
    obtain ⟨hz, h⟩ := g_cond_inv h
    have hz := Nat.lt_of_succ_le (Nat.le_of_ble_eq_true hz)
    exact g_G.step rfl (fun Q1 H locs ls hL hW hS kk => by
      obtain ⟨q, hq⟩ := List.getElem?_of_mem (g_lv_mem (X := X) hL.2.2.1 hx0)
      exact lv_iinc hx hb hdg (g_lv_has hL) hq (by rw [hv]) (by rw [← hL.2.2.1]; exact hz) rfl fun ls1 h1 => kk H locs ls1 (g_Ls_put (x := .int _) hKc.2.2.2.2.2.2.2.1 hL h1) hW hS) (hk none _ _ _ (by rfl) h cells slots)
  · cases h
theorem g_o_dup (hc : g_Ctx X p s args mid meth c R on ini bytes nL d) (hD : g_okD bytes (pc, .dup, len, a, b, c0) = true) (hI : g_okI on ini ret (pc, .dup, len, a, b, c0) = true)
    (hk : ∀ j L st m1, m1.2.2.2.1 = m.2.2.2.1 → k j L st m1 = some o → ∀ cells slots, g_G X p l e R s mid args below meth c Q nL o (match j with
    | none => pc + len
    | some t => t) L st m1 cells slots)
    (h : g_step X.2.2.2.2.2.1 (pc, .dup, len, a, b, c0) L st m k = some o) (cells slots : Nat) : g_G X p l e R s mid args below meth c Q nL o pc L st m cells slots := by
  obtain ⟨hx, hb, hml, hown, hts, hKn, hKc, hfr, hlo, hin⟩ := hc
  have hdg := g_bo hD
  obtain rfl : 1 = len := g_ln hD
  unfold g_step at h
  simp only at h
  split at h
  · exact g_G.pure (fun Q1 H locs ls hL hW hS kk => lv_dup hx hb hdg rfl kk) (hk none _ _ _ (by rfl) h cells slots)
  · exact g_G.pure (fun Q1 H locs ls hL hW hS kk => lv_dup hx hb hdg rfl kk) (hk none _ _ _ (by rfl) h cells slots)
  · cases h
theorem g_o_dup2 (hc : g_Ctx X p s args mid meth c R on ini bytes nL d) (hD : g_okD bytes (pc, .dup2, len, a, b, c0) = true) (hI : g_okI on ini ret (pc, .dup2, len, a, b, c0) = true)
    (hk : ∀ j L st m1, m1.2.2.2.1 = m.2.2.2.1 → k j L st m1 = some o → ∀ cells slots, g_G X p l e R s mid args below meth c Q nL o (match j with
    | none => pc + len
    | some t => t) L st m1 cells slots)
    (h : g_step X.2.2.2.2.2.1 (pc, .dup2, len, a, b, c0) L st m k = some o) (cells slots : Nat) : g_G X p l e R s mid args below meth c Q nL o pc L st m cells slots := by
  obtain ⟨hx, hb, hml, hown, hts, hKn, hKc, hfr, hlo, hin⟩ := hc
  have hdg := g_bo hD
  obtain rfl : 1 = len := g_ln hD
  unfold g_step at h
  simp only at h
  split at h
  · exact g_G.pure (fun Q1 H locs ls hL hW hS kk => lv_dup2_11 hx hb hdg rfl rfl kk) (hk none _ _ _ (by rfl) h cells slots)
  · exact g_G.pure (fun Q1 H locs ls hL hW hS kk => lv_dup2_11 hx hb hdg rfl rfl kk) (hk none _ _ _ (by rfl) h cells slots)
  · cases h
theorem g_o_pop (hc : g_Ctx X p s args mid meth c R on ini bytes nL d) (hD : g_okD bytes (pc, .pop, len, a, b, c0) = true) (hI : g_okI on ini ret (pc, .pop, len, a, b, c0) = true)
    (hk : ∀ j L st m1, m1.2.2.2.1 = m.2.2.2.1 → k j L st m1 = some o → ∀ cells slots, g_G X p l e R s mid args below meth c Q nL o (match j with
    | none => pc + len
    | some t => t) L st m1 cells slots)
    (h : g_step X.2.2.2.2.2.1 (pc, .pop, len, a, b, c0) L st m k = some o) (cells slots : Nat) : g_G X p l e R s mid args below meth c Q nL o pc L st m cells slots := by
  obtain ⟨hx, hb, hml, hown, hts, hKn, hKc, hfr, hlo, hin⟩ := hc
  have hdg := g_bo hD
  obtain rfl : 1 = len := g_ln hD
  unfold g_step at h
  simp only at h
  split at h
  · exact g_G.pure (fun Q1 H locs ls hL hW hS kk => lv_pop hx hb hdg rfl kk) (hk none _ _ _ (by rfl) h cells slots)
  · exact g_G.pure (fun Q1 H locs ls hL hW hS kk => lv_pop hx hb hdg rfl kk) (hk none _ _ _ (by rfl) h cells slots)
  · cases h
theorem g_o_goto (hc : g_Ctx X p s args mid meth c R on ini bytes nL d) {z : Int} (hD : g_okD bytes (pc, .goto z, len, a, b, c0) = true) (hI : g_okI on ini ret (pc, .goto z, len, a, b, c0) = true)
    (hk : ∀ j L st m1, m1.2.2.2.1 = m.2.2.2.1 → k j L st m1 = some o → ∀ cells slots, g_G X p l e R s mid args below meth c Q nL o (match j with
    | none => pc + len
    | some t => t) L st m1 cells slots)
    (h : g_step X.2.2.2.2.2.1 (pc, .goto z, len, a, b, c0) L st m k = some o) (cells slots : Nat) : g_G X p l e R s mid args below meth c Q nL o pc L st m cells slots := by
  obtain ⟨hx, hb, hml, hown, hts, hKn, hKc, hfr, hlo, hin⟩ := hc
  have hdg := g_bo hD
  obtain rfl : 3 = len := g_ln hD
  have hv := of_decide_eq_true hI
  exact g_G.pure (fun Q1 H locs ls hL hW hS kk => lv_goto hx hb hdg hv kk) (hk (some a) _ _ _ (by rfl) h cells slots)
end OP

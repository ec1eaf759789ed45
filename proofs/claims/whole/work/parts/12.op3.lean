section OP3
variable {p : Program} {l : Launch} {e : Env} {R : Room} {s : State} {mid : MethodId} {args : Array Value} {below : List Frame} {meth : Method} {c : Code} {Q : Nat → Nat → State → Prop}
variable {X : gX} {on nL d : Nat} {ini : Bool} {bytes : ByteArray} {o : Option Value × gM} {ret : Option FieldType} {pc len a b c0 : Nat} {ins : Instr} {k : gK} {L : gLs} {st : List Value} {m : gM} {H : Heap}
theorem g_sh_lt {q n t : Nat} (hC : g_Kc X s s.heap) (h : g_sh X.2.2.2.2.2.1.1 m q = some (t, n)) (ht : t ≤ 4) : q < 1000 := by
  rcases g_sh_cases h with ⟨h, -⟩ | ⟨j, -, h⟩ | ⟨-, h⟩
  · exact h
  · have h1 := hC.1 j _ h
    split at h1
    · rename_i e; simp only at e; omega
    · rename_i e; simp only at e; omega
    · rename_i e; simp only at e; omega
    · exact h1.elim
  · cases h; omega
theorem g_up_2000 {α : Type} {f : Nat → Nat → α} {q i : Nat} {x : α} (h : q < 1000) : g_up f q i x 2000 = f 2000 := g_up_ne (by omega)
theorem g_W_int (hW : g_W X m H) {q n t i : Nat} {x : Int32} {H1 : Heap} (own : m.2.2.2.1[q]? = some (t, n)) (hq : q < 1000) (ht : t = 1 ∨ t = 3 ∨ t = 4)
    (hP : va_P X.1 g_cls ((g_ws X m).set q (X.2.2.1 q, .inl (X.2.1 t, n, .inl (upd (m.1 q) i x)))) H1) (hD : va_D (g_A X) ((g_ws X m).set q (X.2.2.1 q, .inl (X.2.1 t, n, .inl (upd (m.1 q) i x))))) : g_W X (g_up m.1 q i x, m.2) H1 := by
  rw [g_ws_int own ht] at hP hD
  exact ⟨hP, hD, hW.2.2.1, hW.2.2.2.1, (g_up_2000 hq).trans hW.2.2.2.2.1, hW.2.2.2.2.2⟩
theorem g_W_long (hW : g_W X m H) {q n i : Nat} {x : Int64} {H1 : Heap} (own : m.2.2.2.1[q]? = some (2, n))
    (hP : va_P X.1 g_cls ((g_ws X m).set q (X.2.2.1 q, .inl (X.2.1 2, n, .inr (.inl (vp_updL (m.2.1 q) i x))))) H1) (hD : va_D (g_A X) ((g_ws X m).set q (X.2.2.1 q, .inl (X.2.1 2, n, .inr (.inl (vp_updL (m.2.1 q) i x)))))) : g_W X (m.1, g_up m.2.1 q i x, m.2.2) H1 := by
  rw [g_ws_long own] at hP hD
  exact ⟨hP, hD, hW.2.2.1, hW.2.2.2.1, hW.2.2.2.2.1, hW.2.2.2.2.2⟩
theorem g_W_row (hW : g_W X m H) {q n : Nat} {r : Nat → Int32} {H1 : Heap} (own : m.2.2.2.1[q]? = some (1, n)) (hq : q < 1000)
    (hP : va_P X.1 g_cls ((g_ws X m).set q (X.2.2.1 q, .inl (X.2.1 1, n, .inl r))) H1) (hD : va_D (g_A X) ((g_ws X m).set q (X.2.2.1 q, .inl (X.2.1 1, n, .inl r)))) : g_W X (g_row m.1 q r, m.2) H1 := by
  rw [g_ws_row own] at hP hD
  refine ⟨hP, hD, hW.2.2.1, hW.2.2.2.1, Eq.trans ?_ hW.2.2.2.2.1, hW.2.2.2.2.2⟩
  funext z; simp [g_row]; omega
theorem g_hs {n d0 v : String} : ∀ x, s.fieldFound? n d0 v = some x → s.fieldFound? n d0 v = some x := fun _ h => h

theorem g_o_iaload (hc : g_Ctx X p s args mid meth c R on ini bytes nL d) (hD : g_okD bytes (pc, .iaload, len, a, b, c0) = true) (hI : g_okI on ini ret (pc, .iaload, len, a, b, c0) = true)
    (hk : ∀ j L st m1, m1.2.2.2.1 = m.2.2.2.1 → k j L st m1 = some o → ∀ cells slots, g_G X p l e R s mid args below meth c Q nL o (match j with
    | none => pc + len
    | some t => t) L st m1 cells slots)
    (h : g_step X.2.2.2.2.2.1 (pc, .iaload, len, a, b, c0) L st m k = some o) (cells slots : Nat) : g_G X p l e R s mid args below meth c Q nL o pc L st m cells slots := by
  obtain ⟨hx, hb, hml, hown, hts, hKn, hKc, hfr, hlo, hin⟩ := hc
  have hdg := g_bo hD
  obtain rfl : 1 = len := g_ln hD
  obtain ⟨q, i, st1, hst, h2⟩ := g_ai_inv h
  clear h
  subst hst
  have h := h2
  split at h
  · rename_i n hsh
    obtain ⟨hin1, h⟩ := g_chk_inv h
    exact g_G.pure (fun Q1 H locs ls hL hW hS kk => va_iald hx hb hKn.1 hW.1 q 0 (g_ws_at (g_sh_own hW hKc hsh (by omega))) rfl hin1 hdg kk) (hk none _ _ _ (by rfl) h cells slots)
  · rename_i n hsh
    obtain ⟨hin1, h⟩ := g_chk_inv h
    refine g_G.pure (fun Q1 H locs ls hL hW hS kk => ?_) (hk none _ _ _ (by rfl) h cells slots)
    obtain ⟨j, rfl, hj⟩ := g_sh_const hW hsh (by omega) (by omega)
    exact va_ti hx hb (hKc.1 j _ hj) hS hin1 rfl hdg kk
  · rename_i n hsh
    obtain ⟨hin1, h⟩ := g_chk_inv h
    refine g_G.pure (fun Q1 H locs ls hL hW hS kk => ?_) (hk none _ _ _ (by rfl) h cells slots)
    obtain ⟨rfl, rfl⟩ := g_sh_script hW hKc hsh
    have hX := hKc.2.2.2.2.2.2.1
    rw [hW.2.2.2.2.1] at kk
    exact va_sld hx hb hX.1 (Nat.lt_of_lt_of_le hX.2 hKc.2.2.2.2.2.2.2.2) (Nat.not_le.mpr hX.2) hS hin1 hdg kk
  · cases h
theorem g_o_laload (hc : g_Ctx X p s args mid meth c R on ini bytes nL d) (hD : g_okD bytes (pc, .laload, len, a, b, c0) = true) (hI : g_okI on ini ret (pc, .laload, len, a, b, c0) = true)
    (hk : ∀ j L st m1, m1.2.2.2.1 = m.2.2.2.1 → k j L st m1 = some o → ∀ cells slots, g_G X p l e R s mid args below meth c Q nL o (match j with
    | none => pc + len
    | some t => t) L st m1 cells slots)
    (h : g_step X.2.2.2.2.2.1 (pc, .laload, len, a, b, c0) L st m k = some o) (cells slots : Nat) : g_G X p l e R s mid args below meth c Q nL o pc L st m cells slots := by
  obtain ⟨hx, hb, hml, hown, hts, hKn, hKc, hfr, hlo, hin⟩ := hc
  have hdg := g_bo hD
  obtain rfl : 1 = len := g_ln hD
  obtain ⟨q, i, st1, hst, h2⟩ := g_ai_inv h
  clear h
  subst hst
  have h := h2
  split at h
  · rename_i n hsh
    obtain ⟨hin1, h⟩ := g_chk_inv h
    exact g_G.pure (fun Q1 H locs ls hL hW hS kk => va_lald hx hb hKn.1 hW.1 q 1 (g_ws_at (g_sh_own hW hKc hsh (by omega))) rfl hin1 hdg kk) (hk none _ _ _ (by rfl) h cells slots)
  · cases h
theorem g_o_caload (hc : g_Ctx X p s args mid meth c R on ini bytes nL d) (hD : g_okD bytes (pc, .caload, len, a, b, c0) = true) (hI : g_okI on ini ret (pc, .caload, len, a, b, c0) = true)
    (hk : ∀ j L st m1, m1.2.2.2.1 = m.2.2.2.1 → k j L st m1 = some o → ∀ cells slots, g_G X p l e R s mid args below meth c Q nL o (match j with
    | none => pc + len
    | some t => t) L st m1 cells slots)
    (h : g_step X.2.2.2.2.2.1 (pc, .caload, len, a, b, c0) L st m k = some o) (cells slots : Nat) : g_G X p l e R s mid args below meth c Q nL o pc L st m cells slots := by
  obtain ⟨hx, hb, hml, hown, hts, hKn, hKc, hfr, hlo, hin⟩ := hc
  have hdg := g_bo hD
  obtain rfl : 1 = len := g_ln hD
  obtain ⟨q, i, st1, hst, h2⟩ := g_ai_inv h
  clear h
  subst hst
  have h := h2
  split at h
  · rename_i n hsh
    obtain ⟨hin1, h⟩ := g_chk_inv h
    exact g_G.pure (fun Q1 H locs ls hL hW hS kk => va_cald hx hb hKn.1 hW.1 q 2 (g_ws_at (g_sh_own hW hKc hsh (by omega))) rfl hin1 hdg kk) (hk none _ _ _ (by rfl) h cells slots)
  · cases h
theorem g_o_baload (hc : g_Ctx X p s args mid meth c R on ini bytes nL d) (hD : g_okD bytes (pc, .baload, len, a, b, c0) = true) (hI : g_okI on ini ret (pc, .baload, len, a, b, c0) = true)
    (hk : ∀ j L st m1, m1.2.2.2.1 = m.2.2.2.1 → k j L st m1 = some o → ∀ cells slots, g_G X p l e R s mid args below meth c Q nL o (match j with
    | none => pc + len
    | some t => t) L st m1 cells slots)
    (h : g_step X.2.2.2.2.2.1 (pc, .baload, len, a, b, c0) L st m k = some o) (cells slots : Nat) : g_G X p l e R s mid args below meth c Q nL o pc L st m cells slots := by
  obtain ⟨hx, hb, hml, hown, hts, hKn, hKc, hfr, hlo, hin⟩ := hc
  have hdg := g_bo hD
  obtain rfl : 1 = len := g_ln hD
  obtain ⟨q, i, st1, hst, h2⟩ := g_ai_inv h
  clear h
  subst hst
  have h := h2
  split at h
  · rename_i n hsh
    obtain ⟨hin1, h⟩ := g_chk_inv h
    exact g_G.pure (fun Q1 H locs ls hL hW hS kk => va_zald hx hb hKn.1 hW.1 q 3 (g_ws_at (g_sh_own hW hKc hsh (by omega))) rfl hin1 hdg kk) (hk none _ _ _ (by rfl) h cells slots)
  · rename_i n hsh
    obtain ⟨hin1, h⟩ := g_chk_inv h
    refine g_G.pure (fun Q1 H locs ls hL hW hS kk => ?_) (hk none _ _ _ (by rfl) h cells slots)
    obtain ⟨j, rfl, hj⟩ := g_sh_const hW hsh (by omega) (by omega)
    exact va_tb hx hb (hKc.1 j _ hj) hS hin1 rfl hdg kk
  · cases h
theorem g_o_iastore (hc : g_Ctx X p s args mid meth c R on ini bytes nL d) (hD : g_okD bytes (pc, .iastore, len, a, b, c0) = true) (hI : g_okI on ini ret (pc, .iastore, len, a, b, c0) = true)
    (hk : ∀ j L st m1, m1.2.2.2.1 = m.2.2.2.1 → k j L st m1 = some o → ∀ cells slots, g_G X p l e R s mid args below meth c Q nL o (match j with
    | none => pc + len
    | some t => t) L st m1 cells slots)
    (h : g_step X.2.2.2.2.2.1 (pc, .iastore, len, a, b, c0) L st m k = some o) (cells slots : Nat) : g_G X p l e R s mid args below meth c Q nL o pc L st m cells slots := by
  obtain ⟨hx, hb, hml, hown, hts, hKn, hKc, hfr, hlo, hin⟩ := hc
  have hdg := g_bo hD
  obtain rfl : 1 = len := g_ln hD
  obtain ⟨q, i, x, st1, hst, h2⟩ := g_aii_inv h
  clear h
  subst hst
  have h := h2
  split at h
  · rename_i n hsh
    obtain ⟨hin1, h⟩ := g_chk_inv h
    refine g_G.step (by rfl) (fun Q1 H locs ls hL hW hS kk => ?_) (hk none _ _ _ (by rfl) h cells slots)
    have own := g_sh_own hW hKc hsh (by omega)
    exact va_iast hx hb hKn.1 hW.1 hW.2.1 hS q 0 (g_ws_at own) rfl hin1 hdg fun H1 locs1 hP hD1 hS1 => kk H1 locs1 ls hL (g_W_int hW own (g_sh_lt hKc hsh (by omega)) (Or.inl rfl) hP hD1) hS1
  · cases h
theorem g_o_lastore (hc : g_Ctx X p s args mid meth c R on ini bytes nL d) (hD : g_okD bytes (pc, .lastore, len, a, b, c0) = true) (hI : g_okI on ini ret (pc, .lastore, len, a, b, c0) = true)
    (hk : ∀ j L st m1, m1.2.2.2.1 = m.2.2.2.1 → k j L st m1 = some o → ∀ cells slots, g_G X p l e R s mid args below meth c Q nL o (match j with
    | none => pc + len
    | some t => t) L st m1 cells slots)
    (h : g_step X.2.2.2.2.2.1 (pc, .lastore, len, a, b, c0) L st m k = some o) (cells slots : Nat) : g_G X p l e R s mid args below meth c Q nL o pc L st m cells slots := by
  obtain ⟨hx, hb, hml, hown, hts, hKn, hKc, hfr, hlo, hin⟩ := hc
  have hdg := g_bo hD
  obtain rfl : 1 = len := g_ln hD
  obtain ⟨q, i, x, st1, hst, h2⟩ := g_ail_inv h
  clear h
  subst hst
  have h := h2
  split at h
  · rename_i n hsh
    obtain ⟨hin1, h⟩ := g_chk_inv h
    refine g_G.step (by rfl) (fun Q1 H locs ls hL hW hS kk => ?_) (hk none _ _ _ (by rfl) h cells slots)
    have own := g_sh_own hW hKc hsh (by omega)
    exact va_last hx hb hKn.1 hW.1 hW.2.1 hS q 1 (g_ws_at own) rfl hin1 hdg fun H1 locs1 hP hD1 hS1 => kk H1 locs1 ls hL (g_W_long hW own hP hD1) hS1
  · cases h
theorem g_o_castore (hc : g_Ctx X p s args mid meth c R on ini bytes nL d) (hD : g_okD bytes (pc, .castore, len, a, b, c0) = true) (hI : g_okI on ini ret (pc, .castore, len, a, b, c0) = true)
    (hk : ∀ j L st m1, m1.2.2.2.1 = m.2.2.2.1 → k j L st m1 = some o → ∀ cells slots, g_G X p l e R s mid args below meth c Q nL o (match j with
    | none => pc + len
    | some t => t) L st m1 cells slots)
    (h : g_step X.2.2.2.2.2.1 (pc, .castore, len, a, b, c0) L st m k = some o) (cells slots : Nat) : g_G X p l e R s mid args below meth c Q nL o pc L st m cells slots := by
  obtain ⟨hx, hb, hml, hown, hts, hKn, hKc, hfr, hlo, hin⟩ := hc
  have hdg := g_bo hD
  obtain rfl : 1 = len := g_ln hD
  obtain ⟨q, i, x, st1, hst, h2⟩ := g_aii_inv h
  clear h
  subst hst
  have h := h2
  split at h
  · rename_i n hsh
    obtain ⟨hin1, h⟩ := g_chk_inv h
    refine g_G.step (by rfl) (fun Q1 H locs ls hL hW hS kk => ?_) (hk none _ _ _ (by rfl) h cells slots)
    have own := g_sh_own hW hKc hsh (by omega)
    exact va_cast hx hb hKn.1 hW.1 hW.2.1 hS q 2 (g_ws_at own) rfl hin1 hdg fun H1 locs1 hP hD1 hS1 => kk H1 locs1 ls hL (g_W_int hW own (g_sh_lt hKc hsh (by omega)) (Or.inr (Or.inl rfl)) hP hD1) hS1
  · cases h
theorem g_o_bastore (hc : g_Ctx X p s args mid meth c R on ini bytes nL d) (hD : g_okD bytes (pc, .bastore, len, a, b, c0) = true) (hI : g_okI on ini ret (pc, .bastore, len, a, b, c0) = true)
    (hk : ∀ j L st m1, m1.2.2.2.1 = m.2.2.2.1 → k j L st m1 = some o → ∀ cells slots, g_G X p l e R s mid args below meth c Q nL o (match j with
    | none => pc + len
    | some t => t) L st m1 cells slots)
    (h : g_step X.2.2.2.2.2.1 (pc, .bastore, len, a, b, c0) L st m k = some o) (cells slots : Nat) : g_G X p l e R s mid args below meth c Q nL o pc L st m cells slots := by
  obtain ⟨hx, hb, hml, hown, hts, hKn, hKc, hfr, hlo, hin⟩ := hc
  have hdg := g_bo hD
  obtain rfl : 1 = len := g_ln hD
  obtain ⟨q, i, x, st1, hst, h2⟩ := g_aii_inv h
  clear h
  subst hst
  have h := h2
  split at h
  · rename_i n hsh
    obtain ⟨hin1, h⟩ := g_chk_inv h
    refine g_G.step (by rfl) (fun Q1 H locs ls hL hW hS kk => ?_) (hk none _ _ _ (by rfl) h cells slots)
    have own := g_sh_own hW hKc hsh (by omega)
    exact va_zast hx hb hKn.1 hW.1 hW.2.1 hS q 3 (g_ws_at own) rfl hin1 hdg fun H1 locs1 hP hD1 hS1 => kk H1 locs1 ls hL (g_W_int hW own (g_sh_lt hKc hsh (by omega)) (Or.inr (Or.inr rfl)) hP hD1) hS1
  · cases h
theorem g_o_arraylength (hc : g_Ctx X p s args mid meth c R on ini bytes nL d) (hD : g_okD bytes (pc, .arraylength, len, a, b, c0) = true) (hI : g_okI on ini ret (pc, .arraylength, len, a, b, c0) = true)
    (hk : ∀ j L st m1, m1.2.2.2.1 = m.2.2.2.1 → k j L st m1 = some o → ∀ cells slots, g_G X p l e R s mid args below meth c Q nL o (match j with
    | none => pc + len
    | some t => t) L st m1 cells slots)
    (h : g_step X.2.2.2.2.2.1 (pc, .arraylength, len, a, b, c0) L st m k = some o) (cells slots : Nat) : g_G X p l e R s mid args below meth c Q nL o pc L st m cells slots := by
  obtain ⟨hx, hb, hml, hown, hts, hKn, hKc, hfr, hlo, hin⟩ := hc
  have hdg := g_bo hD
  obtain rfl : 1 = len := g_ln hD
  obtain ⟨q, st1, hst, h2⟩ := g_a1_inv h
  clear h
  subst hst
  have h := h2
  split at h
  · rename_i n hsh
    exact g_G.pure (fun Q1 H locs ls hL hW hS kk => va_alen hx hb hKn.1 hW.1 q 0 (g_ws_at (g_sh_own hW hKc hsh (by omega))) rfl rfl hdg kk) (hk none _ _ _ (by rfl) h cells slots)
  · rename_i n hsh
    exact g_G.pure (fun Q1 H locs ls hL hW hS kk => va_alen hx hb hKn.1 hW.1 q 1 (g_ws_at (g_sh_own hW hKc hsh (by omega))) rfl rfl hdg kk) (hk none _ _ _ (by rfl) h cells slots)
  · rename_i n hsh
    exact g_G.pure (fun Q1 H locs ls hL hW hS kk => va_alen hx hb hKn.1 hW.1 q 2 (g_ws_at (g_sh_own hW hKc hsh (by omega))) rfl rfl hdg kk) (hk none _ _ _ (by rfl) h cells slots)
  · rename_i n hsh
    exact g_G.pure (fun Q1 H locs ls hL hW hS kk => va_alen hx hb hKn.1 hW.1 q 3 (g_ws_at (g_sh_own hW hKc hsh (by omega))) rfl rfl hdg kk) (hk none _ _ _ (by rfl) h cells slots)
  · rename_i n hsh
    refine g_G.pure (fun Q1 H locs ls hL hW hS kk => ?_) (hk none _ _ _ (by rfl) h cells slots)
    obtain ⟨j, rfl, hj⟩ := g_sh_const hW hsh (by omega) (by omega)
    exact va_tlen hx hb (hKc.1 j _ hj) hS rfl hdg kk
  · rename_i n hsh
    refine g_G.pure (fun Q1 H locs ls hL hW hS kk => ?_) (hk none _ _ _ (by rfl) h cells slots)
    obtain ⟨rfl, rfl⟩ := g_sh_script hW hKc hsh
    have hX := hKc.2.2.2.2.2.2.1
    exact va_slen hx hb hX.1 (Nat.lt_of_lt_of_le hX.2 hKc.2.2.2.2.2.2.2.2) (Nat.not_le.mpr hX.2) hS hdg kk
  · rename_i n hsh
    refine g_G.pure (fun Q1 H locs ls hL hW hS kk => ?_) (hk none _ _ _ (by rfl) h cells slots)
    obtain ⟨j, rfl, hj⟩ := g_sh_const hW hsh (by omega) (by omega)
    exact va_tlen hx hb (hKc.1 j _ hj) hS rfl hdg kk
  · cases h
end OP3

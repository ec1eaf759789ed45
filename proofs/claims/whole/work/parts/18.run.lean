section RUN
variable {p : Program} {l : Launch} {e : Env} {R : Room} {s : State} {mid : MethodId} {args : Array Value} {below : List Frame} {meth : Method} {c : Code} {Q : Nat → Nat → State → Prop}
variable {X : gX} {on nL d : Nat} {ini : Bool} {bytes : ByteArray} {o : Option Value × gM} {ret : Option FieldType} {pc len a b c0 : Nat} {ins : Instr} {k : gK} {L : gLs} {st : List Value} {m : gM} {H : Heap} {ad : Nat → Nat} {T : Nat → Option gMD} {fc : gF}
theorem g_condN_inv {b : Bool} {k : gRs} {r : Option Value × gM} (h : (bif b then none else k) = some r) : b = false ∧ k = some r := by
  cases b
  · exact ⟨rfl, h⟩
  · cases h
theorem g_oi_in : Cond.instanceMethod Lib.objectInit ∈ g_tw ∧ Cond.code Lib.objectInit ⟨#[0xb1]⟩ 1 none ∈ g_tw := by
  have h : (Cond.instanceMethod Lib.objectInit ∈ lw_tbl ∧ Cond.code Lib.objectInit ⟨#[0xb1]⟩ 1 none ∈ lw_tbl) ∧ goodWord (Cond.instanceMethod Lib.objectInit) = true ∧ goodWord (Cond.code Lib.objectInit ⟨#[0xb1]⟩ 1 none) = true := by decide +kernel
  exact ⟨List.mem_filter.mpr ⟨h.1.1, h.2.1⟩, List.mem_filter.mpr ⟨h.1.2, h.2.2⟩⟩
theorem g_ac_in : Cond.native arraycopyName ∈ g_tw ∧ Cond.static arraycopyName ∈ g_tw ∧ Cond.initialized "java/lang/System" ∈ g_tw := by
  have h : (Cond.native arraycopyName ∈ lw_tbl ∧ Cond.static arraycopyName ∈ lw_tbl ∧ Cond.initialized "java/lang/System" ∈ lw_tbl) ∧ goodWord (Cond.native arraycopyName) = true ∧ goodWord (Cond.static arraycopyName) = true ∧ goodWord (Cond.initialized "java/lang/System") = true := by decide +kernel
  exact ⟨List.mem_filter.mpr ⟨h.1.1, h.2.1⟩, List.mem_filter.mpr ⟨h.1.2.1, h.2.2.1⟩, List.mem_filter.mpr ⟨h.1.2.2, h.2.2.2⟩⟩
theorem g_arith2 {x y n : Nat} (h : 128 * (x + 1 + 2) ≤ n) (hy : y ≤ 100) : y ≤ n := by
  have e : 128 * (x + 1 + 2) = 128 * (x + 2) + 128 := by rw [← Nat.mul_succ]
  rw [e] at h
  generalize 128 * (x + 2) = z at h
  omega
theorem g_o_objInit (hc : g_Ctx X p s args mid meth c R on ini bytes nL (d + 1)) {z : Nat} (hD : g_okD bytes (pc, .invokespecial z, len, a, b, 6) = true) (hI : g_okI on ini ret (pc, .invokespecial z, len, a, b, 6) = true)
    (hk : ∀ j L st m1, m1.2.2.2.1 = m.2.2.2.1 → k j L st m1 = some o → ∀ cells slots, g_G X p l e R s mid args below meth c Q nL o (match j with
    | none => pc + len
    | some t => t) L st m1 cells slots)
    (h : g_inv X.2.2.2.2.2.1 fc (pc, .invokespecial z, len, a, b, 6) L st m k = some o) (cells slots : Nat) : g_G X p l e R s mid args below meth c Q nL o pc L st m cells slots := by
  obtain ⟨hx, hb, hml, hown, hts, hKn, hKc, hfr, hlo, hin⟩ := hc
  have hdg := g_bo hD
  obtain rfl : 3 = len := g_ln hD
  have hI2 : (g_ol.any fun r => g_at2 on z r) = true := hI
  obtain ⟨r, hr, h1⟩ := List.any_eq_true.mp hI2
  simp only [g_at2, Bool.and_eq_true] at h1
  have hw := g_w_in (g_ol_ok r hr)
  rw [Nat.eq_of_beq_eq_true h1.1, Nat.eq_of_beq_eq_true h1.2] at hw
  obtain ⟨q, st1, hst, h2⟩ := g_a1_inv h
  clear h
  subst hst
  obtain ⟨hcat, h⟩ := g_cond_inv h2
  have hcat := Nat.le_of_ble_eq_true hcat
  refine g_G.pure (fun Q1 H locs ls hL hW hS kk => ?_) (hk none _ _ _ (by rfl) h cells slots)
  exact W.objInit hx hb hown (hts _ hw) (hts _ g_oi_in.1) (hts _ g_oi_in.2) rfl (by rw [hml]; exact hL.1) rfl hdg (by omega) (by
    show 2 * 0 + ((st1.map (g_cv X.2.2.1 X.2.2.2.1)).map fun v => v.category).sum + 12 ≤ R.locals
    rw [g_cats_eq hKc.2.2.2.2.2.2.2.1]
    exact g_arith2 hlo (by omega)) kk
theorem g_o_copy (hc : g_Ctx X p s args mid meth c R on ini bytes nL (d + 1)) {z : Nat} (hD : g_okD bytes (pc, .invokestatic z, len, a, b, 7) = true) (hI : g_okI on ini ret (pc, .invokestatic z, len, a, b, 7) = true)
    (hk : ∀ j L st m1, m1.2.2.2.1 = m.2.2.2.1 → k j L st m1 = some o → ∀ cells slots, g_G X p l e R s mid args below meth c Q nL o (match j with
    | none => pc + len
    | some t => t) L st m1 cells slots)
    (h : g_inv X.2.2.2.2.2.1 fc (pc, .invokestatic z, len, a, b, 7) L st m k = some o) (cells slots : Nat) : g_G X p l e R s mid args below meth c Q nL o pc L st m cells slots := by
  obtain ⟨hx, hb, hml, hown, hts, hKn, hKc, hfr, hlo, hin⟩ := hc
  have hdg := g_bo hD
  obtain rfl : 3 = len := g_ln hD
  have hI2 : (g_al.any fun r => g_at2 on z r) = true := hI
  obtain ⟨r, hr, h1⟩ := List.any_eq_true.mp hI2
  simp only [g_at2, Bool.and_eq_true] at h1
  have hw := g_w_in (g_al_ok r hr)
  rw [Nat.eq_of_beq_eq_true h1.1, Nat.eq_of_beq_eq_true h1.2] at hw
  unfold g_inv at h
  simp only at h
  split at h
  · rename_i n dp d1 sp a1 st1
    split at h
    · rename_i na nd ha hd
      obtain ⟨hcond, h⟩ := g_ite_inv h
      obtain ⟨-, h⟩ := g_condN_inv h
      obtain ⟨hcat, h⟩ := g_cond_inv h
      have hcat := Nat.le_of_ble_eq_true hcat
      refine g_G.step (by rfl) (fun Q1 H locs ls hL hW hS kk => ?_) (hk none _ _ _ (by rfl) h cells slots)
      have oa := g_sh_own hW hKc ha (by omega)
      have od := g_sh_own hW hKc hd (by omega)
      exact va_copyi hx hb (by rw [hml]; exact hL.1.symm) hown (hts _ hw) (hts _ g_ac_in.1) (hts _ g_ac_in.2.1) (hts _ g_ac_in.2.2) hKn.1 hW.1 hW.2.1 hS a1 d1 0 0 (g_ws_at oa) (g_ws_at od) rfl rfl rfl
        (fun q => hcond (Or.inl (Or.inl q))) (fun q => hcond (Or.inl (Or.inr (Or.inl q)))) (fun q => hcond (Or.inl (Or.inr (Or.inr q)))) (Nat.le_of_not_lt fun q => hcond (Or.inr (Or.inl q))) (Nat.le_of_not_lt fun q => hcond (Or.inr (Or.inr q))) (fun i hi => rfl)
        (by omega) (by
          show ((st1.map (g_cv X.2.2.1 X.2.2.2.1)).map fun v => v.category).sum + _ ≤ R.locals
          rw [g_cats_eq hKc.2.2.2.2.2.2.2.1]
          exact g_arith2 hlo (by
            have e : nativeFrameWords "java/lang/System" "arraycopy" 5 = 7 := by decide +kernel
            rw [e]; omega)) hdg fun H1 locs1 hP hD1 hS1 => kk H1 locs1 ls hL (g_W_row hW od (g_sh_lt hKc hd (by omega)) hP hD1) hS1
    · cases h
  · cases h
theorem g_mm_in : (Cond.static Lib.Math.max.name ∈ g_tw ∧ Cond.code Lib.Math.max.name Lib.Math.max.code 2 (some .int) ∈ g_tw) ∧ (Cond.static Lib.Math.min.name ∈ g_tw ∧ Cond.code Lib.Math.min.name Lib.Math.min.code 2 (some .int) ∈ g_tw) ∧
    (Cond.static Lib.Math.abs.name ∈ g_tw ∧ Cond.code Lib.Math.abs.name Lib.Math.abs.code 1 (some .int) ∈ g_tw) ∧ Cond.initialized "java/lang/Math" ∈ g_tw := by
  have h : (Cond.static Lib.Math.max.name ∈ lw_tbl ∧ Cond.code Lib.Math.max.name Lib.Math.max.code 2 (some .int) ∈ lw_tbl) ∧ (Cond.static Lib.Math.min.name ∈ lw_tbl ∧ Cond.code Lib.Math.min.name Lib.Math.min.code 2 (some .int) ∈ lw_tbl) ∧
    (Cond.static Lib.Math.abs.name ∈ lw_tbl ∧ Cond.code Lib.Math.abs.name Lib.Math.abs.code 1 (some .int) ∈ lw_tbl) ∧ Cond.initialized "java/lang/Math" ∈ lw_tbl := by decide +kernel
  exact ⟨⟨List.mem_filter.mpr ⟨h.1.1, rfl⟩, List.mem_filter.mpr ⟨h.1.2, rfl⟩⟩, ⟨List.mem_filter.mpr ⟨h.2.1.1, rfl⟩, List.mem_filter.mpr ⟨h.2.1.2, rfl⟩⟩, ⟨List.mem_filter.mpr ⟨h.2.2.1.1, rfl⟩, List.mem_filter.mpr ⟨h.2.2.1.2, rfl⟩⟩, List.mem_filter.mpr ⟨h.2.2.2, rfl⟩⟩
theorem g_G.room {pc pc1 : Nat} {L : gLs} {st st1 : List Value} {m : gM} {cells slots : Nat}
    (hw : ∀ (Q1 : State → Prop) (H : Heap) (locs : List Loc) (ls : Array Slot), cells ≤ R.cells → slots ≤ R.slots → g_Ls X ls nL L →
      W p l e R s mid args below meth c H locs cells slots Q1 (F0 mid pc1 ls (st1.map (g_cv X.2.2.1 X.2.2.2.1))) →
      W p l e R s mid args below meth c H locs cells slots Q1 (F0 mid pc ls (st.map (g_cv X.2.2.1 X.2.2.2.1))))
    (h : g_G X p l e R s mid args below meth c Q nL o pc1 L st1 m cells slots) : g_G X p l e R s mid args below meth c Q nL o pc L st m cells slots := by
  obtain ⟨mc, ms, h1, h2, h3, h4, h5⟩ := h
  exact ⟨mc, ms, h1, h2, h3, h4, fun a b H locs ls hL hW hS => hw _ H locs ls (Nat.le_trans h1 a) (Nat.le_trans h2 b) hL (h5 a b H locs ls hL hW hS)⟩
theorem g_o_math (hc : g_Ctx X p s args mid meth c R on ini bytes nL (d + 1)) {z : Nat} (h8 : c0 = 8 ∨ c0 = 9 ∨ c0 = 10) (hD : g_okD bytes (pc, .invokestatic z, len, a, b, c0) = true) (hI : g_okI on ini ret (pc, .invokestatic z, len, a, b, c0) = true)
    (hk : ∀ j L st m1, m1.2.2.2.1 = m.2.2.2.1 → k j L st m1 = some o → ∀ cells slots, g_G X p l e R s mid args below meth c Q nL o (match j with
    | none => pc + len
    | some t => t) L st m1 cells slots)
    (h : g_inv X.2.2.2.2.2.1 fc (pc, .invokestatic z, len, a, b, c0) L st m k = some o) (cells slots : Nat) : g_G X p l e R s mid args below meth c Q nL o pc L st m cells slots := by
  obtain ⟨hx, hb, hml, hown, hts, hKn, hKc, hfr, hlo, hin⟩ := hc
  have hdg := g_bo hD
  obtain rfl : 3 = len := g_ln hD
  have lk : Cond.methodLink (g_on on) z (g_mn c0) ∈ g_tw := by
    have hI2 : (g_mt.any fun r => g_at2 on z r && Nat.beq r.2.2.1 c0) = true := by rcases h8 with rfl | rfl | rfl <;> exact hI
    obtain ⟨r, hr, h1⟩ := List.any_eq_true.mp hI2
    simp only [g_at2, Bool.and_eq_true] at h1
    have hw := g_w_in (g_mt_ok r hr)
    rw [Nat.eq_of_beq_eq_true h1.1.1, Nat.eq_of_beq_eq_true h1.1.2, Nat.eq_of_beq_eq_true h1.2] at hw
    exact hw
  have room : ∀ {st1 : List Value}, Nat.ble (g_cats st1) 8 = true → ((st1.map (g_cv X.2.2.1 X.2.2.2.1)).map fun v => v.category).sum + 13 ≤ R.locals := by
    intro st1 hcat
    have hcat := Nat.le_of_ble_eq_true hcat
    rw [g_cats_eq hKc.2.2.2.2.2.2.2.1]
    exact g_arith2 hlo (by omega)
  rcases h8 with rfl | rfl | rfl
  · obtain ⟨x, y, st1, hst, h2⟩ := g_b2_inv h
    clear h
    subst hst
    obtain ⟨hcat, h⟩ := g_cond_inv h2
    exact g_G.room (fun Q1 H locs ls hc1 hs1 hL kk => va_mmax hx hb (by rw [hml]; exact hL.1.symm) hown (hts _ lk) (hts _ g_mm_in.1.1) (hts _ g_mm_in.2.2.2) (hts _ g_mm_in.1.2) (by omega) (room hcat) hc1 hs1 hdg kk) (hk none _ _ _ (by rfl) h cells slots)
  · obtain ⟨x, y, st1, hst, h2⟩ := g_b2_inv h
    clear h
    subst hst
    obtain ⟨hcat, h⟩ := g_cond_inv h2
    exact g_G.room (fun Q1 H locs ls hc1 hs1 hL kk => va_mmin hx hb (by rw [hml]; exact hL.1.symm) hown (hts _ lk) (hts _ g_mm_in.2.1.1) (hts _ g_mm_in.2.2.2) (hts _ g_mm_in.2.1.2) (by omega) (room hcat) hc1 hs1 hdg kk) (hk none _ _ _ (by rfl) h cells slots)
  · obtain ⟨x, st1, hst, h2⟩ := g_b1_inv h
    clear h
    subst hst
    obtain ⟨hcat, h⟩ := g_cond_inv h2
    exact g_G.room (fun Q1 H locs ls hc1 hs1 hL kk => va_mabs hx hb (by rw [hml]; exact hL.1.symm) hown (hts _ lk) (hts _ g_mm_in.2.2.1.1) (hts _ g_mm_in.2.2.2) (hts _ g_mm_in.2.2.1.2) (by omega) (room hcat) hc1 hs1 hdg kk) (hk none _ _ _ (by rfl) h cells slots)
/-- how a method ends -/
def g_Ret (X : gX) (p : Program) (l : Launch) (e : Env) (R : Room) (s : State) (mid : MethodId) (args : Array Value) (below : List Frame) (meth : Method) (c : Code) (Q : Nat → Nat → State → Prop) (bytes : ByteArray) (ret : Option FieldType) (o : Option Value × gM) : Prop :=
  ∀ (pc : Nat) (m : gM) (H : Heap) (locs : List Loc) (ls : Array Slot) (cells slots : Nat), g_W X m H → va_S (g_A X) s.heap H locs →
    (∀ x rt, decode bytes pc = .ok (.ireturn, 1) → ret = some rt → narrow rt (.int x) = .int x → (rt = .int ∨ rt ≠ .int) → o = (some (.int x), m) → W p l e R s mid args below meth c H locs cells slots (Q cells slots) (F0 mid pc ls [.int x])) ∧
    (∀ x, decode bytes pc = .ok (.lreturn, 1) → ret = some .long → o = (some (.long x), m) → W p l e R s mid args below meth c H locs cells slots (Q cells slots) (F0 mid pc ls [.long x])) ∧
    (decode bytes pc = .ok (.return_, 1) → ret = none → o = (none, m) → W p l e R s mid args below meth c H locs cells slots (Q cells slots) (F0 mid pc ls []))
theorem g_Gret {cells slots : Nat} (hm : o.2 = m) (hw : ∀ (H : Heap) (locs : List Loc) (ls : Array Slot), g_W X m H → va_S (g_A X) s.heap H locs → W p l e R s mid args below meth c H locs cells slots (Q cells slots) (F0 mid pc ls (st.map (g_cv X.2.2.1 X.2.2.2.1)))) :
    g_G X p l e R s mid args below meth c Q nL o pc L st m cells slots :=
  ⟨cells, slots, Nat.le_refl _, Nat.le_refl _, by rw [hm], by rw [hm], fun _ _ H locs ls _ hW hS => hw H locs ls hW hS⟩
/-- every row that is no call, no making and no end -/
def g_plain (ins : Instr) : Bool := match ins with
  | .new _ => false
  | .newarray _ => false
  | .invokevirtual _ => false
  | .invokespecial _ => false
  | .invokestatic _ => false
  | .ireturn => false
  | .lreturn => false
  | .return_ => false
  | _ => true
theorem g_o_plain (hc : g_Ctx X p s args mid meth c R on ini bytes nL d) (hp : g_plain ins = true) (hD : g_okD bytes (pc, ins, len, a, b, c0) = true) (hI : g_okI on ini ret (pc, ins, len, a, b, c0) = true)
    (hk : ∀ j L st m1, m1.2.2.2.1 = m.2.2.2.1 → k j L st m1 = some o → ∀ cells slots, g_G X p l e R s mid args below meth c Q nL o (match j with
    | none => pc + len
    | some t => t) L st m1 cells slots)
    (h : g_step X.2.2.2.2.2.1 (pc, ins, len, a, b, c0) L st m k = some o) (cells slots : Nat) : g_G X p l e R s mid args below meth c Q nL o pc L st m cells slots := by
  cases ins with
  | iadd => exact g_o_iadd hc hD hI hk h cells slots
  | isub => exact g_o_isub hc hD hI hk h cells slots
  | imul => exact g_o_imul hc hD hI hk h cells slots
  | iand => exact g_o_iand hc hD hI hk h cells slots
  | ior => exact g_o_ior hc hD hI hk h cells slots
  | ixor => exact g_o_ixor hc hD hI hk h cells slots
  | ishl => exact g_o_ishl hc hD hI hk h cells slots
  | ishr => exact g_o_ishr hc hD hI hk h cells slots
  | iushr => exact g_o_iushr hc hD hI hk h cells slots
  | ladd => exact g_o_ladd hc hD hI hk h cells slots
  | lsub => exact g_o_lsub hc hD hI hk h cells slots
  | lmul => exact g_o_lmul hc hD hI hk h cells slots
  | land => exact g_o_land hc hD hI hk h cells slots
  | lor => exact g_o_lor hc hD hI hk h cells slots
  | lshl => exact g_o_lshl hc hD hI hk h cells slots
  | lshr => exact g_o_lshr hc hD hI hk h cells slots
  | lushr => exact g_o_lushr hc hD hI hk h cells slots
  | lcmp => exact g_o_lcmp hc hD hI hk h cells slots
  | ineg => exact g_o_ineg hc hD hI hk h cells slots
  | i2l => exact g_o_i2l hc hD hI hk h cells slots
  | l2i => exact g_o_l2i hc hD hI hk h cells slots
  | i2c => exact g_o_i2c hc hD hI hk h cells slots
  | i2b => exact g_o_i2b hc hD hI hk h cells slots
  | idiv => exact g_o_idiv hc hD hI hk h cells slots
  | irem => exact g_o_irem hc hD hI hk h cells slots
  | ldiv => exact g_o_ldiv hc hD hI hk h cells slots
  | lrem => exact g_o_lrem hc hD hI hk h cells slots
  | dup => exact g_o_dup hc hD hI hk h cells slots
  | dup2 => exact g_o_dup2 hc hD hI hk h cells slots
  | pop => exact g_o_pop hc hD hI hk h cells slots
  | iaload => exact g_o_iaload hc hD hI hk h cells slots
  | laload => exact g_o_laload hc hD hI hk h cells slots
  | caload => exact g_o_caload hc hD hI hk h cells slots
  | baload => exact g_o_baload hc hD hI hk h cells slots
  | iastore => exact g_o_iastore hc hD hI hk h cells slots
  | lastore => exact g_o_lastore hc hD hI hk h cells slots
  | castore => exact g_o_castore hc hD hI hk h cells slots
  | bastore => exact g_o_bastore hc hD hI hk h cells slots
  | arraylength => exact g_o_arraylength hc hD hI hk h cells slots
  | iconst _ => exact g_o_iconst hc hD hI hk h cells slots
  | bipush _ => exact g_o_bipush hc hD hI hk h cells slots
  | sipush _ => exact g_o_sipush hc hD hI hk h cells slots
  | lconst _ => exact g_o_lconst hc hD hI hk h cells slots
  | iload_n _ => exact g_o_iload_n hc hD hI hk h cells slots
  | iload _ => exact g_o_iload hc hD hI hk h cells slots
  | lload_n _ => exact g_o_lload_n hc hD hI hk h cells slots
  | lload _ => exact g_o_lload hc hD hI hk h cells slots
  | aload_n _ => exact g_o_aload_n hc hD hI hk h cells slots
  | aload _ => exact g_o_aload hc hD hI hk h cells slots
  | istore_n _ => exact g_o_istore_n hc hD hI hk h cells slots
  | istore _ => exact g_o_istore hc hD hI hk h cells slots
  | lstore_n _ => exact g_o_lstore_n hc hD hI hk h cells slots
  | lstore _ => exact g_o_lstore hc hD hI hk h cells slots
  | astore_n _ => exact g_o_astore_n hc hD hI hk h cells slots
  | astore _ => exact g_o_astore hc hD hI hk h cells slots
  | iinc _ _ => exact g_o_iinc hc hD hI hk h cells slots
  | goto _ => exact g_o_goto hc hD hI hk h cells slots
  | ifCond _ _ => exact g_o_ifCond hc hD hI hk h cells slots
  | if_icmp _ _ => exact g_o_if_icmp hc hD hI hk h cells slots
  | tableswitch _ _ _ _ => exact g_o_tableswitch hc hD hI hk h cells slots
  | getfield _ => exact g_o_getfield hc hD hI hk h cells slots
  | putfield _ => exact g_o_putfield hc hD hI hk h cells slots
  | getstatic _ => exact g_o_getstatic hc hD hI hk h cells slots
  | ldc _ => exact g_o_ldc hc hD hI hk h cells slots
  | ldc2_w _ => exact g_o_ldc2 hc hD hI hk h cells slots
  | ldc_w _ => exact g_o_ldcw hc hD hI hk h cells slots
  | _ => first
    | exact absurd (show (none : gRs) = some o from h) (by simp)
    | exact absurd hp (by simp [g_plain])
/-- any row -/
theorem g_o_any (hc : g_Ctx X p s args mid meth c R on ini bytes nL (d + 1)) (hT : g_TOk T) (hcall : ∀ i As m v m1, fc i As m = some (v, m1) → g_Con X T l d i As m (v, m1)) (hret : g_Ret X p l e R s mid args below meth c Q bytes ret o)
    (hD : g_okD bytes (pc, ins, len, a, b, c0) = true) (hI : g_okI on ini ret (pc, ins, len, a, b, c0) = true)
    (hk : ∀ ad, g_Fam X m.2.2.2.1.length ad → ∀ j L st m1, m.2.2.2.1.length ≤ m1.2.2.2.1.length → k j L st m1 = some o → ∀ cells slots, g_G (g_xa X ad) p l e R s mid args below meth c Q nL o (match j with
    | none => pc + len
    | some t => t) L st m1 cells slots)
    (hk0 : ∀ j L st m1, m1.2.2.2.1 = m.2.2.2.1 → k j L st m1 = some o → ∀ cells slots, g_G X p l e R s mid args below meth c Q nL o (match j with
    | none => pc + len
    | some t => t) L st m1 cells slots)
    (h : g_op X.2.2.2.2.2.1 fc (pc, ins, len, a, b, c0) L st m k = some o) (cells slots : Nat) : g_G X p l e R s mid args below meth c Q nL o pc L st m cells slots := by
  cases hp : g_plain ins with
  | true =>
    refine g_o_plain (d := d + 1) hc hp hD hI hk0 ?_ cells slots
    unfold g_op at h
    cases ins <;> first | exact h | (exact absurd hp (by simp [g_plain]))
  | false =>
    have hlen := g_ln hD
    have hdg := g_bo hD
    cases ins with
    | new z => exact g_o_new hc hD hI hk h cells slots
    | newarray z => exact g_o_newarray hc hD hI hk h cells slots
    | invokevirtual z => exact g_o_virtual hc hT hcall hD hI hk h cells slots
    | invokespecial z =>
      by_cases h6 : c0 = 6
      · subst h6
        exact g_o_objInit (fc := fc) hc hD hI hk0 h cells slots
      · exact g_o_special hc hT hcall hD hI h6 hk h cells slots
    | invokestatic z =>
      by_cases h7 : c0 = 7
      · subst h7
        exact g_o_copy (fc := fc) hc hD hI hk0 h cells slots
      · by_cases h8 : c0 = 8 ∨ c0 = 9 ∨ c0 = 10
        · exact g_o_math (fc := fc) hc h8 hD hI hk0 h cells slots
        · exact g_o_static hc hT hcall hD hI ⟨h7, fun q => h8 (Or.inl q), fun q => h8 (Or.inr (Or.inl q)), fun q => h8 (Or.inr (Or.inr q))⟩ hk h cells slots
    | ireturn =>
      obtain rfl : 1 = len := hlen
      have hI2 : (ret, c0) ∈ [(some FieldType.int, 0), (some .boolean, 3), (some .byte, 3), (some .char, 4)] := of_decide_eq_true hI
      unfold g_op at h
      simp only at h
      split at h
      · rename_i x
        have fin : ∀ rt, ret = some rt → narrow rt (.int x) = .int x → some (some (Value.int x), m) = some o → g_G X p l e R s mid args below meth c Q nL o pc L [.int x] m cells slots := by
          intro rt h1 h2 h3
          have ho : o = (some (.int x), m) := (Option.some.inj h3).symm
          exact g_Gret (by rw [ho]) fun H locs ls hW hS => (hret pc m H locs ls cells slots hW hS).1 x rt hdg h1 h2 (Classical.em _) ho
        simp only [List.mem_cons, Prod.mk.injEq, List.not_mem_nil, or_false] at hI2
        rcases hI2 with ⟨h1, rfl⟩ | ⟨h1, rfl⟩ | ⟨h1, rfl⟩ | ⟨h1, rfl⟩
        · exact fin _ h1 rfl h
        · obtain ⟨hx, h⟩ : (x = 0 ∨ x = 1) ∧ some (some (Value.int x), m) = some o := by
            simp only at h
            split at h
            · exact ⟨by assumption, h⟩
            · cases h
          exact fin _ h1 (by rcases hx with rfl | rfl <;> rfl) h
        · obtain ⟨hx, h⟩ : (x = 0 ∨ x = 1) ∧ some (some (Value.int x), m) = some o := by
            simp only at h
            split at h
            · exact ⟨by assumption, h⟩
            · cases h
          exact fin _ h1 (by rcases hx with rfl | rfl <;> rfl) h
        · obtain ⟨hx, h⟩ : (x.toUInt32 % 65536).toInt32 = x ∧ some (some (Value.int x), m) = some o := by
            simp only at h
            split at h
            · exact ⟨by assumption, h⟩
            · cases h
          exact fin _ h1 (by show Value.int _ = _; exact congrArg Value.int hx) h
      · cases h
    | lreturn =>
      obtain rfl : 1 = len := hlen
      have hI2 : ret = some .long := of_decide_eq_true hI
      unfold g_op at h
      simp only at h
      split at h
      · have ho : o = _ := (Option.some.inj h).symm
        exact g_Gret (by rw [ho]) fun H locs ls hW hS => (hret pc m H locs ls cells slots hW hS).2.1 _ hdg hI2 ho
      · cases h
    | return_ =>
      obtain rfl : 1 = len := hlen
      have hI2 : ret = none := of_decide_eq_true hI
      unfold g_op at h
      simp only at h
      split at h
      · have ho : o = _ := (Option.some.inj h).symm
        exact g_Gret (by rw [ho]) fun H locs ls hW hS => (hret pc m H locs ls cells slots hW hS).2.2 hdg hI2 ho
      · cases h
    | _ => exact absurd hp (by simp [g_plain])
end RUN

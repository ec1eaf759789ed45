theorem g_arith {d n x : Nat} (h3 : x ≤ 60) (hlo : 128 * (d + 1 + 2) ≤ n) : 8 + (x + 11) + 128 * (d + 2) ≤ n := by
  have e : 128 * (d + 1 + 2) = 128 * (d + 2) + 128 := by rw [← Nat.mul_succ]
  rw [e] at hlo
  generalize 128 * (d + 2) = y at hlo ⊢
  omega
section INV
variable {p : Program} {l : Launch} {e : Env} {R : Room} {s : State} {mid : MethodId} {args : Array Value} {below : List Frame} {meth : Method} {c : Code} {Q : Nat → Nat → State → Prop}
variable {X : gX} {on nL d : Nat} {ini : Bool} {bytes : ByteArray} {o : Option Value × gM} {ret : Option FieldType} {pc len a b c0 : Nat} {ins : Instr} {k : gK} {L : gLs} {st : List Value} {m : gM} {H : Heap} {ad : Nat → Nat} {T : Nat → Option gMD} {fc : gF}
theorem g_recv_at {As : List Value} {cl : Nat} {locs : List Loc} (h : g_recv X.2.2.2.2.2.1 As m cl = true) (hKn : g_Kn X s) (hKc : g_Kc X s s.heap) (hW : g_W X m H) (hS : va_S (g_A X) s.heap H locs) :
    ∃ q rest, As = .ref q :: rest ∧ ∃ cell : Cell, H[X.2.2.1 q]? = some cell ∧ cell.vm.isStatics = false ∧ s.vm.findClass (g_on cl) = some cell.cls := by
  unfold g_recv at h
  split at h
  · rename_i q rest
    refine ⟨q, rest, rfl, ?_⟩
    split at h
    · rename_i c1 hsh
      obtain rfl := Nat.eq_of_beq_eq_true h
      have own := g_sh_own hW hKc hsh (by omega)
      have ha : c1 < 13 := by
        rcases hW.2.2.1 _ (List.mem_of_getElem? own) with ⟨-, h⟩ | ⟨h, -⟩
        · exact h
        · simp only at h; omega
      exact va_recv hKn.1 hW.1 (g_cls_at c1 ha) (g_ws_at own)
    · rename_i c1 hsh
      obtain rfl := Nat.eq_of_beq_eq_true h
      obtain ⟨j, rfl, hj⟩ := g_sh_const hW hsh (by omega) (by omega)
      obtain ⟨h17, ⟨cell, h1, h2, h3, h4⟩, -⟩ := hKc.1 j _ hj
      have h17 : c1 = 17 := h17
      subst h17
      exact ⟨cell, by rw [hS.2.1 _ (Array.getElem?_eq_some_iff.mp h1).1 h4]; exact h1, h2, h3⟩
    · cases h
  · cases h
/-- the callee's beginning and room, for every kind of call -/
theorem g_cb (hc : g_Ctx X p s args mid meth c R on ini bytes nL (d + 1)) (hT : g_TOk T) {md : gMD} (hmd : T a = some md) {mc ms : Nat} :
    md.1 = g_y a ∧ (∀ w ∈ (Cond.code md.1 md.2.1 md.2.2.1 md.2.2.2.1 :: g_tw), ∀ (a' : Array Value) (U : State), s.WarmedH U.vm → w.before a' U = true) ∧ (Cond.code md.1 md.2.1 md.2.2.1 md.2.2.2.1).before args s = true ∧
    (g_rm d mc ms).frames + 1 ≤ R.frames ∧ 8 + (md.2.2.1 + 11) + (g_rm d mc ms).locals ≤ R.locals := by
  obtain ⟨hx, hb, hml, hown, hts, hKn, hKc, hfr, hlo, hin⟩ := hc
  obtain ⟨h1, h2, h3, -⟩ := hT a md hmd
  refine ⟨h1, pay_in hts (g_code_good h2), hts _ h2, ?_, ?_⟩
  · simp only [g_rm]; omega
  · exact g_arith h3 hlo
theorem g_npar {y : MethodName} {n : Nat} (h : (parseMethodDescriptor y.desc).map (fun d => d.parameters.length) = some n) : ∀ sig, parseMethodDescriptor y.desc = some sig → n = sig.parameters.length := by
  intro sig hs
  rw [hs] at h
  exact (Option.some.inj h).symm
theorem g_o_virtual (hc : g_Ctx X p s args mid meth c R on ini bytes nL (d + 1)) (hT : g_TOk T) (hcall : ∀ i As m v m1, fc i As m = some (v, m1) → g_Con X T l d i As m (v, m1)) {z : Nat} (hD : g_okD bytes (pc, .invokevirtual z, len, a, b, c0) = true) (hI : g_okI on ini ret (pc, .invokevirtual z, len, a, b, c0) = true)
    (hk : ∀ ad, g_Fam X m.2.2.2.1.length ad → ∀ j L st m1, m.2.2.2.1.length ≤ m1.2.2.2.1.length → k j L st m1 = some o → ∀ cells slots, g_G (g_xa X ad) p l e R s mid args below meth c Q nL o (match j with
    | none => pc + len
    | some t => t) L st m1 cells slots)
    (h : g_inv X.2.2.2.2.2.1 fc (pc, .invokevirtual z, len, a, b, c0) L st m k = some o) (cells slots : Nat) : g_G X p l e R s mid args below meth c Q nL o pc L st m cells slots := by
  have hc' := hc
  obtain ⟨hx, hb, hml, hown, hts, hKn, hKc, hfr, hlo, hin⟩ := hc
  have hdg := g_bo hD
  obtain rfl : 3 = len := g_ln hD
  have hI2 : (g_ml.any fun r => g_at2 on z r && (Nat.beq r.2.2.1 a && (Nat.beq r.2.2.2.1 b && (Nat.beq r.2.2.2.2.1 c0 && Nat.beq (r.2.2.2.2.1 % 16) 0)))) = true := hI
  obtain ⟨r, hr, h1⟩ := List.any_eq_true.mp hI2
  simp only [g_at2, Bool.and_eq_true] at h1
  have hk0 := Nat.eq_of_beq_eq_true h1.2.2.2.2
  obtain ⟨wi, wm, wp, wk⟩ := g_mlc_of (g_ml_ok r hr)
  rw [Nat.eq_of_beq_eq_true h1.2.1] at wi wm wp wk
  rw [Nat.eq_of_beq_eq_true h1.1.1, Nat.eq_of_beq_eq_true h1.1.2] at wk
  rw [Nat.eq_of_beq_eq_true h1.2.2.1] at wp
  rw [Nat.eq_of_beq_eq_true h1.2.2.2.1] at wk hk0
  obtain ⟨-, w1, w2, w3, w4⟩ : c0 % 16 = 0 ∧ _ := by
    rcases wk with h | ⟨h, -⟩ | ⟨h, -⟩ | ⟨h, -⟩ | ⟨h, -⟩
    · exact h
    all_goals omega
  unfold g_inv at h
  simp only [hk0] at h
  split at h
  · rename_i As st1 hpop
    obtain ⟨hrv, h⟩ := g_cond_inv h
    obtain ⟨hcat, h⟩ := g_cond_inv h
    obtain ⟨h, hwf⟩ := g_old_inv h
    unfold g_bind at h
    split at h
    · cases h
    · rename_i v m1 hcl
      have hcon := hcall _ _ _ _ _ hcl
      have hlen : m.2.2.2.1.length ≤ m1.2.2.2.1.length := by
        obtain ⟨_, _, mc, _, e1, -⟩ := hcon
        have e1 : m.2.2.2.1.length + mc = m1.2.2.2.1.length := e1
        omega
      refine g_Gcall hcon hwf (fun md mc ms H locs ls hmd hM hc1 hs1 hL hW hS => ?_) (fun ad hF cells slots => hk ad hF none L _ m1 hlen h cells slots)
      obtain ⟨q, As1, rfl, hrc⟩ := g_recv_at hrv hKn hKc hW hS
      obtain ⟨l1, e1, e2, e3⟩ := g_pop_spec _ _ _ _ _ hpop
      obtain ⟨y1, y2, y3, y4, y5⟩ := g_cb (mc := mc) (ms := ms) hc' hT hmd
      have e3 : Value.ref q :: As1 = l1.reverse := by simpa using e3
      have el : l1 = As1.reverse ++ [.ref q] := by rw [← List.reverse_reverse l1, ← e3]; simp
      have hn : As1.length = b := by
        have := congrArg List.length el
        simp only [List.length_append, List.length_reverse, List.length_singleton] at this
        have e1 : l1.length = b + 1 := e1
        omega
      rw [← w4] at hrc
      rw [← y1] at w1 w2 w3 wi wm wp hrc
      refine va_runV (As := As1.map (g_cv X.2.2.1 X.2.2.2.1)) (b := X.2.2.1 q) (n := b) ⟨hx, hb, hml, hown, hts⟩ hM
        ⟨⟨rfl, rfl, y4, y5, y2, List.mem_cons_self, y3, hts _ wi, wm, g_npar wp, hts _ w1⟩, hts _ w2, hts _ w3⟩
        ⟨g_Pc_blind X _ m, hrc, fun U hU hw => g_Pc_at hKn hKc hW hS (.ref q :: As1) U hU hw⟩ rfl (by rw [List.length_map]; exact hn) hL.1 ?_ (lv_room (by rw [g_cats_eq hKc.2.2.2.2.2.2.2.1]; exact Nat.le_of_ble_eq_true hcat)) hdg ⟨hc1, hs1⟩
      show (st.map _) = _
      rw [e2, el]
      simp [g_cv]
  · cases h
theorem g_o_special (hc : g_Ctx X p s args mid meth c R on ini bytes nL (d + 1)) (hT : g_TOk T) (hcall : ∀ i As m v m1, fc i As m = some (v, m1) → g_Con X T l d i As m (v, m1)) {z : Nat} (hD : g_okD bytes (pc, .invokespecial z, len, a, b, c0) = true) (hI : g_okI on ini ret (pc, .invokespecial z, len, a, b, c0) = true) (h6 : c0 ≠ 6)
    (hk : ∀ ad, g_Fam X m.2.2.2.1.length ad → ∀ j L st m1, m.2.2.2.1.length ≤ m1.2.2.2.1.length → k j L st m1 = some o → ∀ cells slots, g_G (g_xa X ad) p l e R s mid args below meth c Q nL o (match j with
    | none => pc + len
    | some t => t) L st m1 cells slots)
    (h : g_inv X.2.2.2.2.2.1 fc (pc, .invokespecial z, len, a, b, c0) L st m k = some o) (cells slots : Nat) : g_G X p l e R s mid args below meth c Q nL o pc L st m cells slots := by
  have hc' := hc
  obtain ⟨hx, hb, hml, hown, hts, hKn, hKc, hfr, hlo, hin⟩ := hc
  have hdg := g_bo hD
  obtain rfl : 3 = len := g_ln hD
  have hI2 : (g_ml.any fun r => g_at2 on z r && (Nat.beq r.2.2.1 a && (Nat.beq r.2.2.2.1 b && (Nat.beq r.2.2.2.2.1 c0 && Nat.ble 4 (r.2.2.2.2.1 % 16))))) = true := by
    unfold g_okI at hI
    simp only at hI
    first
      | exact hI
      | (split at hI
         · exact absurd (by assumption) h6
         · exact hI)
  obtain ⟨r, hr, h1⟩ := List.any_eq_true.mp hI2
  simp only [g_at2, Bool.and_eq_true] at h1
  have hk0 := Nat.le_of_ble_eq_true h1.2.2.2.2
  obtain ⟨wi, wm, wp, wk⟩ := g_mlc_of (g_ml_ok r hr)
  rw [Nat.eq_of_beq_eq_true h1.2.1] at wi wm wp wk
  rw [Nat.eq_of_beq_eq_true h1.1.1, Nat.eq_of_beq_eq_true h1.1.2] at wk
  rw [Nat.eq_of_beq_eq_true h1.2.2.1] at wp
  rw [Nat.eq_of_beq_eq_true h1.2.2.2.1] at wk hk0
  have hkk : c0 % 16 = 4 ∨ c0 % 16 = 5 := by
    rcases wk with ⟨h, -⟩ | ⟨h, -⟩ | ⟨h, -⟩ | ⟨h, -⟩ | ⟨h, -⟩ <;> omega
  have hnm : (g_y a).name = "<init>" ∧ Cond.instanceMethod (g_y a) ∈ g_tw := by
    rcases wk with ⟨h, -⟩ | ⟨h, -⟩ | ⟨h, -⟩ | ⟨-, -, h⟩ | ⟨-, -, h⟩
    · omega
    · omega
    · omega
    · exact ⟨h.2, h.1⟩
    · exact ⟨h.2, h.1⟩
  have h : (match g_pop (b + 1) st [] with
    | some (As, st) => bif g_recv X.2.2.2.2.2.1 As m (c0 / 16) then bif Nat.ble (g_cats st) 8 then g_old X.2.2.2.2.2.1 L st m (g_bind (fc a As m) fun v m => k none L (v.toList ++ st) m) else none else none
    | none => none) = some o := by
    unfold g_inv at h
    rcases hkk with q | q <;> simp only [q] at h <;> exact h
  split at h
  · rename_i As st1 hpop
    obtain ⟨hrv, h⟩ := g_cond_inv h
    obtain ⟨hcat, h⟩ := g_cond_inv h
    obtain ⟨h, hwf⟩ := g_old_inv h
    unfold g_bind at h
    split at h
    · cases h
    · rename_i v m1 hcl
      have hcon := hcall _ _ _ _ _ hcl
      have hlen : m.2.2.2.1.length ≤ m1.2.2.2.1.length := by
        obtain ⟨_, _, mc, _, e1, -⟩ := hcon
        have e1 : m.2.2.2.1.length + mc = m1.2.2.2.1.length := e1
        omega
      refine g_Gcall hcon hwf (fun md mc ms H locs ls hmd hM hc1 hs1 hL hW hS => ?_) (fun ad hF cells slots => hk ad hF none L _ m1 hlen h cells slots)
      obtain ⟨q, As1, rfl, hrc⟩ := g_recv_at hrv hKn hKc hW hS
      obtain ⟨l1, e1, e2, e3⟩ := g_pop_spec _ _ _ _ _ hpop
      obtain ⟨y1, y2, y3, y4, y5⟩ := g_cb (mc := mc) (ms := ms) hc' hT hmd
      have hrt := (hT a md hmd).2.2.2 (by rw [y1]; exact hnm.1)
      have e3 : Value.ref q :: As1 = l1.reverse := by simpa using e3
      have el : l1 = As1.reverse ++ [.ref q] := by rw [← List.reverse_reverse l1, ← e3]; simp
      have hn : As1.length = b := by
        have := congrArg List.length el
        simp only [List.length_append, List.length_reverse, List.length_singleton] at this
        have e1 : l1.length = b + 1 := e1
        omega
      rw [← y1] at wi wm wp hnm
      rw [hrt] at hM y2 y3
      have hst : st.map (g_cv X.2.2.1 X.2.2.2.1) = (As1.map (g_cv X.2.2.1 X.2.2.2.1)).reverse ++ .ref (X.2.2.1 q) :: st1.map (g_cv X.2.2.1 X.2.2.2.1) := by
        rw [e2, el]
        simp [g_cv]
      have hcats := lv_room (pc := pc) (m := mid) (ls := ls) (rest := st.map (g_cv X.2.2.1 X.2.2.2.1)) (show ((st1.map (g_cv X.2.2.1 X.2.2.2.1)).map fun v => v.category).sum ≤ 8 by rw [g_cats_eq hKc.2.2.2.2.2.2.2.1]; exact Nat.le_of_ble_eq_true hcat)
      rcases wk with ⟨h, -⟩ | ⟨h, -⟩ | ⟨h, -⟩ | ⟨-, w1, -⟩ | ⟨-, w1, -⟩
      · omega
      · omega
      · omega
      · rw [← y1] at w1
        exact va_runI (As := As1.map (g_cv X.2.2.1 X.2.2.2.1)) (b := X.2.2.1 q) (n := b) ⟨hx, hb, hml, hown, hts⟩ hM
          ⟨⟨rfl, rfl, y4, y5, y2, List.mem_cons_self, y3, hts _ wi, wm, g_npar wp, hts _ w1⟩, hnm.1, hts _ hnm.2⟩
          ⟨g_Pc_blind X _ m, fun U hU hw => g_Pc_at hKn hKc hW hS (.ref q :: As1) U hU hw⟩ rfl (by rw [List.length_map]; exact hn) hL.1 hst hcats hdg ⟨hc1, hs1⟩
      · rw [← y1] at w1
        exact va_runIN (As := As1.map (g_cv X.2.2.1 X.2.2.2.1)) (b := X.2.2.1 q) (n := b) ⟨hx, hb, hml, hown, hts⟩ hM
          ⟨⟨⟨rfl, rfl, y4, y5, y2, List.mem_cons_self⟩, y3, hts _ wi, wm, g_npar wp, va_Nw.use rfl (hKn.2 _ w1 rfl)⟩, hnm.1, hts _ hnm.2⟩
          ⟨g_Pc_blind X _ m, fun U hU hw => g_Pc_at hKn hKc hW hS (.ref q :: As1) U hU hw⟩ rfl (by rw [List.length_map]; exact hn) hL.1 hst hcats hdg ⟨hc1, hs1⟩
  · cases h
theorem g_o_static (hc : g_Ctx X p s args mid meth c R on ini bytes nL (d + 1)) (hT : g_TOk T) (hcall : ∀ i As m v m1, fc i As m = some (v, m1) → g_Con X T l d i As m (v, m1)) {z : Nat} (hD : g_okD bytes (pc, .invokestatic z, len, a, b, c0) = true) (hI : g_okI on ini ret (pc, .invokestatic z, len, a, b, c0) = true) (h7 : c0 ≠ 7 ∧ c0 ≠ 8 ∧ c0 ≠ 9 ∧ c0 ≠ 10)
    (hk : ∀ ad, g_Fam X m.2.2.2.1.length ad → ∀ j L st m1, m.2.2.2.1.length ≤ m1.2.2.2.1.length → k j L st m1 = some o → ∀ cells slots, g_G (g_xa X ad) p l e R s mid args below meth c Q nL o (match j with
    | none => pc + len
    | some t => t) L st m1 cells slots)
    (h : g_inv X.2.2.2.2.2.1 fc (pc, .invokestatic z, len, a, b, c0) L st m k = some o) (cells slots : Nat) : g_G X p l e R s mid args below meth c Q nL o pc L st m cells slots := by
  have hc' := hc
  obtain ⟨hx, hb, hml, hown, hts, hKn, hKc, hfr, hlo, hin⟩ := hc
  have hdg := g_bo hD
  obtain rfl : 3 = len := g_ln hD
  have hI2 : (g_ml.any fun r => g_at2 on z r && (Nat.beq r.2.2.1 a && (Nat.beq r.2.2.2.1 b && (Nat.beq r.2.2.2.2.1 c0 && (Nat.beq (r.2.2.2.2.1 % 16) 2 || Nat.beq (r.2.2.2.2.1 % 16) 3))))) = true := by
    unfold g_okI at hI
    simp only at hI
    split at hI
    · exact absurd rfl h7.1
    · exact absurd rfl h7.2.1
    · exact absurd rfl h7.2.2.1
    · exact absurd rfl h7.2.2.2
    · exact hI
  obtain ⟨r, hr, h1⟩ := List.any_eq_true.mp hI2
  simp only [g_at2, Bool.and_eq_true, Bool.or_eq_true] at h1
  have hk0 : r.2.2.2.2.1 % 16 = 2 ∨ r.2.2.2.2.1 % 16 = 3 := h1.2.2.2.2.imp Nat.eq_of_beq_eq_true Nat.eq_of_beq_eq_true
  obtain ⟨wi, wm, wp, wk⟩ := g_mlc_of (g_ml_ok r hr)
  rw [Nat.eq_of_beq_eq_true h1.2.1] at wi wm wp wk
  rw [Nat.eq_of_beq_eq_true h1.1.1, Nat.eq_of_beq_eq_true h1.1.2] at wk
  rw [Nat.eq_of_beq_eq_true h1.2.2.1] at wp
  rw [Nat.eq_of_beq_eq_true h1.2.2.2.1] at wk hk0
  have hstt : Cond.static (g_y a) ∈ g_tw := by
    rcases wk with ⟨h, -⟩ | ⟨-, -, h⟩ | ⟨-, -, h⟩ | ⟨h, -⟩ | ⟨h, -⟩
    · omega
    · exact h
    · exact h
    · omega
    · omega
  have h : (match g_pop b st [] with
    | some (As, st) => bif Nat.ble (g_cats st) 8 then g_old X.2.2.2.2.2.1 L st m (g_bind (fc a As m) fun v m => k none L (v.toList ++ st) m) else none
    | none => none) = some o := by
    unfold g_inv at h
    rcases hk0 with q | q <;> simp only [q] at h <;> exact h
  split at h
  · rename_i As st1 hpop
    obtain ⟨hcat, h⟩ := g_cond_inv h
    obtain ⟨h, hwf⟩ := g_old_inv h
    unfold g_bind at h
    split at h
    · cases h
    · rename_i v m1 hcl
      have hcon := hcall _ _ _ _ _ hcl
      have hlen : m.2.2.2.1.length ≤ m1.2.2.2.1.length := by
        obtain ⟨_, _, mc, _, e1, -⟩ := hcon
        have e1 : m.2.2.2.1.length + mc = m1.2.2.2.1.length := e1
        omega
      refine g_Gcall hcon hwf (fun md mc ms H locs ls hmd hM hc1 hs1 hL hW hS => ?_) (fun ad hF cells slots => hk ad hF none L _ m1 hlen h cells slots)
      obtain ⟨l1, e1, e2, e3⟩ := g_pop_spec _ _ _ _ _ hpop
      obtain ⟨y1, y2, y3, y4, y5⟩ := g_cb (mc := mc) (ms := ms) hc' hT hmd
      have e3 : As = l1.reverse := by simpa using e3
      have hn : As.length = b := by rw [e3, List.length_reverse]; exact e1
      rw [← y1] at wi wm wp hstt
      have hst : st.map (g_cv X.2.2.1 X.2.2.2.1) = (As.map (g_cv X.2.2.1 X.2.2.2.1)).reverse ++ st1.map (g_cv X.2.2.1 X.2.2.2.1) := by
        rw [e2, e3]
        simp
      have hcats := lv_room (pc := pc) (m := mid) (ls := ls) (rest := st.map (g_cv X.2.2.1 X.2.2.2.1)) (show ((st1.map (g_cv X.2.2.1 X.2.2.2.1)).map fun v => v.category).sum ≤ 8 by rw [g_cats_eq hKc.2.2.2.2.2.2.2.1]; exact Nat.le_of_ble_eq_true hcat)
      rcases wk with ⟨h, -⟩ | ⟨-, w1, -⟩ | ⟨-, w1, -⟩ | ⟨h, -⟩ | ⟨h, -⟩
      · omega
      · rw [← y1] at w1
        exact va_runS (As := As.map (g_cv X.2.2.1 X.2.2.2.1)) (n := b) ⟨hx, hb, hml, hown, hts⟩ hM
          ⟨⟨rfl, rfl, y4, y5, y2, List.mem_cons_self, y3, hts _ wi, wm, g_npar wp, hts _ w1⟩, hts _ hstt⟩
          ⟨g_Pc_blind X _ m, fun U hU hw => g_Pc_at hKn hKc hW hS As U hU hw⟩ rfl (by rw [List.length_map]; exact hn) hL.1 hst hcats hdg ⟨hc1, hs1⟩
      · rw [← y1] at w1
        exact va_runSN (As := As.map (g_cv X.2.2.1 X.2.2.2.1)) (n := b) ⟨hx, hb, hml, hown, hts⟩ hM
          ⟨⟨⟨rfl, rfl, y4, y5, y2, List.mem_cons_self⟩, y3, hts _ wi, wm, g_npar wp, va_Nw.use rfl (hKn.2 _ w1 rfl)⟩, hts _ hstt, trivial⟩
          ⟨g_Pc_blind X _ m, fun U hU hw => g_Pc_at hKn hKc hW hS As U hU hw⟩ rfl (by rw [List.length_map]; exact hn) hL.1 hst hcats hdg ⟨hc1, hs1⟩
      · omega
      · omega
  · cases h
end INV

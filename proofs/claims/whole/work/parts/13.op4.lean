section OP4
variable {p : Program} {l : Launch} {e : Env} {R : Room} {s : State} {mid : MethodId} {args : Array Value} {below : List Frame} {meth : Method} {c : Code} {Q : Nat → Nat → State → Prop}
variable {X : gX} {on nL d : Nat} {ini : Bool} {bytes : ByteArray} {o : Option Value × gM} {ret : Option FieldType} {pc len a b c0 : Nat} {ins : Instr} {k : gK} {L : gLs} {st : List Value} {m : gM} {H : Heap}
theorem g_fw_lt {on ix cl sl : Nat} (h : cl < 13) : g_fw on ix cl sl = .fieldLink (g_on on) ix (g_fd cl sl).1 (g_fd cl sl).2.1 (g_fd cl sl).2.2.1 := by
  unfold g_fw
  split
  · omega
  · rfl
theorem g_fl_of {on ix a b c0 : Nat} (h : (g_fl.any fun r => g_at2 on ix r && (Nat.beq r.2.2.1 a && (Nat.beq r.2.2.2.1 b && Nat.beq r.2.2.2.2.1 c0))) = true) :
    g_fw on ix a b ∈ g_tw ∧ g_kd a b = c0 ∧ (a < 13 ∨ a = 17) ∧ b < (if a = 17 then 2 else g_nf a) := by
  obtain ⟨r, hr, h1⟩ := List.any_eq_true.mp h
  simp only [g_at2, Bool.and_eq_true] at h1
  obtain ⟨q1, q2, q3, q4⟩ := g_fl_ok r hr
  have hw := g_w_in q1
  rw [Nat.eq_of_beq_eq_true h1.1.1, Nat.eq_of_beq_eq_true h1.1.2, Nat.eq_of_beq_eq_true h1.2.1, Nat.eq_of_beq_eq_true h1.2.2.1] at hw
  rw [Nat.eq_of_beq_eq_true h1.2.1, Nat.eq_of_beq_eq_true h1.2.2.1, Nat.eq_of_beq_eq_true h1.2.2.2] at q2
  rw [Nat.eq_of_beq_eq_true h1.2.1] at q3
  rw [Nat.eq_of_beq_eq_true h1.2.1, Nat.eq_of_beq_eq_true h1.2.2.1] at q4
  exact ⟨hw, q2, q3, q4⟩
theorem g_fv {q : Nat} (ha : a < 13) (hb : b < g_nf a) (hk : g_kd a b = c0) : ((g_kinds.getD a []).mapIdx fun i t => g_fld X m q i t)[b]? = some (g_fld X m q b c0) := by
  simp only [List.getElem?_mapIdx, g_kd_at ha hb hk, Option.map_some]
theorem g_o_getfield (hc : g_Ctx X p s args mid meth c R on ini bytes nL d) {z : Nat} (hD : g_okD bytes (pc, .getfield z, len, a, b, c0) = true) (hI : g_okI on ini ret (pc, .getfield z, len, a, b, c0) = true)
    (hk : ∀ j L st m1, m1.2.2.2.1 = m.2.2.2.1 → k j L st m1 = some o → ∀ cells slots, g_G X p l e R s mid args below meth c Q nL o (match j with
    | none => pc + len
    | some t => t) L st m1 cells slots)
    (h : g_step X.2.2.2.2.2.1 (pc, .getfield z, len, a, b, c0) L st m k = some o) (cells slots : Nat) : g_G X p l e R s mid args below meth c Q nL o pc L st m cells slots := by
  obtain ⟨hx, hb, hml, hown, hts, hKn, hKc, hfr, hlo, hin⟩ := hc
  have hdg := g_bo hD
  obtain rfl : 3 = len := g_ln hD
  obtain ⟨hw, hkd, ha0, hb0⟩ : g_fw on z a b ∈ g_tw ∧ g_kd a b = c0 ∧ (a < 13 ∨ a = 17) ∧ b < (if a = 17 then 2 else g_nf a) := g_fl_of hI
  obtain ⟨q, st1, hst, h2⟩ := g_a1_inv h
  clear h
  subst hst
  have h := h2
  clear h2
  split at h
  · rename_i cl hsh
    obtain ⟨hcl, h⟩ := g_cond_inv h
    have hcl : cl = a := Nat.eq_of_beq_eq_true hcl
    subst hcl
    have fin : ∀ v, g_G X p l e R s mid args below meth c Q nL o (pc + 3) L (v :: st1) m cells slots → g_cv X.2.2.1 X.2.2.2.1 v = g_fld X m q b c0 → g_G X p l e R s mid args below meth c Q nL o pc L (Value.ref q :: st1) m cells slots := by
      intro v hg hv
      refine g_G.pure (fun Q1 H locs ls hL hW hS kk => ?_) hg
      have own := g_sh_own hW hKc hsh (by omega)
      have ha : cl < 13 := by
        rcases hW.2.2.1 _ (List.mem_of_getElem? own) with ⟨-, h⟩ | ⟨h, -⟩
        · exact h
        · simp only at h; omega
      have hb1 : b < g_nf cl := by rw [if_neg (by omega)] at hb0; exact hb0
      rw [g_fw_lt ha] at hw
      have kk : W p l e R s mid args below meth c H locs cells slots Q1 (F0 mid (pc + 3) ls (g_cv X.2.2.1 X.2.2.2.1 v :: st1.map (g_cv X.2.2.1 X.2.2.2.1))) := kk
      rw [hv] at kk
      exact va_get hx hb hts (g_lay_in ha) hown hKn.1 hW.1 q (g_ws_at own) (g_cls_at cl ha) b hb1 (hts _ hw) (fun _ h => h) (g_fv ha hb1 hkd) hdg kk
    split at h
    · exact fin _ (hk none _ _ _ (by rfl) h cells slots) (by unfold g_fld; split <;> simp_all [g_cv])
    · exact fin _ (hk none _ _ _ (by rfl) h cells slots) (by unfold g_fld; split <;> simp_all [g_cv])
    · exact fin _ (hk none _ _ _ (by rfl) h cells slots) (by unfold g_fld; split <;> simp_all [g_cv])
  · rename_i cl hsh
    obtain ⟨hcl, h⟩ := g_cond_inv h
    have hcl : cl = a := Nat.eq_of_beq_eq_true hcl
    subst hcl
    have hcl : ∀ {H : Heap}, g_W X m H → cl = 17 ∧ ∃ j, q = 1000 + j ∧ X.2.2.2.2.2.1.1[j]? = some (10, cl) := fun hW => by
      obtain ⟨j, rfl, hj⟩ := g_sh_const hW hsh (by omega) (by omega)
      exact ⟨(hKc.1 j _ hj).1, j, rfl, hj⟩
    split at h
    · cases h
    · rename_i hc2
      have hc2 : c0 = 2 := hc2
      refine g_G.pure (fun Q1 H locs ls hL hW hS kk => ?_) (hk none _ _ _ (by rfl) h cells slots)
      obtain ⟨rfl, j, rfl, hj⟩ := hcl hW
      obtain ⟨-, -, -, -, v, a5, a7, a6⟩ := hKc.1 j _ hj
      have hb2 : b < 2 := by simpa using hb0
      obtain rfl : b = 0 := by
        match b, hb2 with
        | 0, _ => rfl
        | 1, _ =>
          have h0 : (0 : Nat) = c0 := hkd
          omega
      have kk : W p l e R s mid args below meth c H locs cells slots Q1 (F0 mid (pc + 3) ls (g_cv X.2.2.1 X.2.2.2.1 (g_ref (X.2.2.2.2.2.1.2.2.1 (1000 + j) 0)) :: st1.map (g_cv X.2.2.1 X.2.2.2.1))) := kk
      rw [a5] at kk
      exact vk_getf hx hb a6 hS hown (hts _ hw) (fun _ h => h) hdg kk
    · rename_i n1 n2
      refine g_G.pure (fun Q1 H locs ls hL hW hS kk => ?_) (hk none _ _ _ (by rfl) h cells slots)
      obtain ⟨rfl, j, rfl, hj⟩ := hcl hW
      obtain ⟨-, -, a3, a4, -⟩ := hKc.1 j _ hj
      have hb2 : b < 2 := by simpa using hb0
      obtain rfl : b = 1 := by
        match b, hb2 with
        | 0, _ =>
          have h0 : (2 : Nat) = c0 := hkd
          exact absurd h0.symm n2
        | 1, _ => rfl
      have kk : W p l e R s mid args below meth c H locs cells slots Q1 (F0 mid (pc + 3) ls (Value.int (X.2.2.2.2.2.1.2.1 (1000 + j) 1) :: st1.map (g_cv X.2.2.1 X.2.2.2.1))) := kk
      rw [a4] at kk
      exact vk_getf hx hb a3 hS hown (hts _ hw) (fun _ h => h) hdg kk
  · cases h
theorem g_fld_off {m1 : gM} {q i t : Nat} (h1 : m1.1 q i = m.1 q i) (h2 : m1.2.1 q i = m.2.1 q i) (h3 : m1.2.2.1 q i = m.2.2.1 q i) : g_fld X m1 q i t = g_fld X m q i t := by
  unfold g_fld
  rw [h1, h2, h3]
theorem g_up_off {α : Type} {f : Nat → Nat → α} {q sl i : Nat} {x : α} (h : i ≠ sl) : g_up f q sl x q i = f q i := by simp [g_up, h]
theorem g_up_on {α : Type} {f : Nat → Nat → α} {q sl : Nat} {x : α} : g_up f q sl x q sl = x := by simp [g_up]
/-- the memory behind a field's write -/
theorem g_W_fld {m1 : gM} {q n sl t : Nat} {v : Value} {H1 : Heap} (hW : g_W X m H) (own : m.2.2.2.1[q]? = some (0, n)) (hq : q < 1000) (hs : m1.2.2.2 = m.2.2.2)
    (h1 : ∀ j, j ≠ q → m1.1 j = m.1 j ∧ m1.2.1 j = m.2.1 j ∧ m1.2.2.1 j = m.2.2.1 j) (h2 : ∀ i, i ≠ sl → m1.1 q i = m.1 q i ∧ m1.2.1 q i = m.2.1 q i ∧ m1.2.2.1 q i = m.2.2.1 q i)
    (hk : (g_kinds.getD n [])[sl]? = some t) (hv : g_fld X m1 q sl t = v) (hr : ∀ j, m1.2.2.1 q sl = j + 1 → m1.2.2.1 q sl ≠ m.2.2.1 q sl → j < m.2.2.2.1.length ∨ 1000 ≤ j)
    (hP : va_P X.1 g_cls ((g_ws X m).set q (X.2.2.1 q, .inr (n, ((g_kinds.getD n []).mapIdx fun i t => g_fld X m q i t).set sl v))) H1)
    (hD : va_D (g_A X) ((g_ws X m).set q (X.2.2.1 q, .inr (n, ((g_kinds.getD n []).mapIdx fun i t => g_fld X m q i t).set sl v)))) : g_W X m1 H1 := by
  have e := g_ws_fld (X := X) (m := m) (m1 := m1) (sl := sl) (v := v) own (by rw [hs]) h1 (fun i t' hi => by
    by_cases h : i = sl
    · subst h
      rw [if_pos rfl]
      rw [hk] at hi
      cases hi
      exact hv
    · rw [if_neg h]
      exact g_fld_off (h2 i h).1 (h2 i h).2.1 (h2 i h).2.2)
  rw [e] at hP hD
  refine ⟨hP, hD, by rw [hs]; exact hW.2.2.1, fun k0 q0 hk0 i j hj => ?_, by rw [(h1 2000 (by omega)).1]; exact hW.2.2.2.2.1, by rw [hs]; exact hW.2.2.2.2.2⟩
  rw [hs] at hk0 ⊢
  by_cases h : k0 = q
  · subst h
    by_cases h' : i = sl
    · subst h'
      by_cases h3 : m1.2.2.1 k0 i = m.2.2.1 k0 i
      · rw [h3] at hj
        exact hW.2.2.2.1 k0 q0 hk0 i j hj
      · exact hr j hj h3
    · rw [(h2 i h').2.2] at hj
      exact hW.2.2.2.1 k0 q0 hk0 i j hj
  · rw [(h1 k0 h).2.2] at hj
    exact hW.2.2.2.1 k0 q0 hk0 i j hj
theorem g_o_putfield (hc : g_Ctx X p s args mid meth c R on ini bytes nL d) {z : Nat} (hD : g_okD bytes (pc, .putfield z, len, a, b, c0) = true) (hI : g_okI on ini ret (pc, .putfield z, len, a, b, c0) = true)
    (hk : ∀ j L st m1, m1.2.2.2.1 = m.2.2.2.1 → k j L st m1 = some o → ∀ cells slots, g_G X p l e R s mid args below meth c Q nL o (match j with
    | none => pc + len
    | some t => t) L st m1 cells slots)
    (h : g_step X.2.2.2.2.2.1 (pc, .putfield z, len, a, b, c0) L st m k = some o) (cells slots : Nat) : g_G X p l e R s mid args below meth c Q nL o pc L st m cells slots := by
  obtain ⟨hx, hb, hml, hown, hts, hKn, hKc, hfr, hlo, hin⟩ := hc
  have hdg := g_bo hD
  obtain rfl : 3 = len := g_ln hD
  have hI2 : (Nat.blt a 13 && (((!(g_fd a b).2.2.2) || (ini && Nat.beq a on)) && g_fl.any fun r => g_at2 on z r && (Nat.beq r.2.2.1 a && (Nat.beq r.2.2.2.1 b && Nat.beq r.2.2.2.2.1 c0)))) = true := hI
  simp only [Bool.and_eq_true] at hI2
  obtain ⟨ha, hfin, hI3⟩ := hI2
  have ha : a < 13 := Nat.lt_of_succ_le (Nat.le_of_ble_eq_true ha)
  obtain ⟨hw, hkd, -, hb0⟩ : g_fw on z a b ∈ g_tw ∧ g_kd a b = c0 ∧ (a < 13 ∨ a = 17) ∧ b < (if a = 17 then 2 else g_nf a) := g_fl_of hI3
  have hb1 : b < g_nf a := by rw [if_neg (by omega)] at hb0; exact hb0
  rw [g_fw_lt ha] at hw
  have hkind := g_kd_at ha hb1 hkd
  have hty := g_kty ha hb1 hkd
  -- any written value
  have fin : ∀ (q : Nat) (v : Value) (st1 : List Value) (m1 : gM), g_sh X.2.2.2.2.2.1.1 m q = some (0, a) → m1.2.2.2 = m.2.2.2 →
      (∀ j, j ≠ q → m1.1 j = m.1 j ∧ m1.2.1 j = m.2.1 j ∧ m1.2.2.1 j = m.2.2.1 j) → (∀ i, i ≠ b → m1.1 q i = m.1 q i ∧ m1.2.1 q i = m.2.1 q i ∧ m1.2.2.1 q i = m.2.2.1 q i) →
      g_fld X m1 q b c0 = g_cv X.2.2.1 X.2.2.2.1 v → (∀ j, m1.2.2.1 q b = j + 1 → m1.2.2.1 q b ≠ m.2.2.1 q b → j < m.2.2.2.1.length ∨ 1000 ≤ j) →
      narrow (g_ft a b) (g_cv X.2.2.1 X.2.2.2.1 v) = g_cv X.2.2.1 X.2.2.2.1 v → fits (g_ft a b) (g_cv X.2.2.1 X.2.2.2.1 v) = true →
      g_G X p l e R s mid args below meth c Q nL o (pc + 3) L st1 m1 cells slots → g_G X p l e R s mid args below meth c Q nL o pc L (v :: .ref q :: st1) m cells slots := by
    intro q v st1 m1 hsh hs h1 h2 hv hr hn hf hg
    refine g_G.step (by rw [hs]) (fun Q1 H locs ls hL hW hS kk => ?_) hg
    have own := g_sh_own hW hKc hsh (by omega)
    have hq := g_sh_lt hKc hsh (by omega)
    have hl : b < ((g_kinds.getD a []).mapIdx fun i t => g_fld X m q i t).length := by
      rw [List.length_mapIdx, (g_fd_ok a ha).2.1]; exact hb1
    have kk2 : ∀ (H1 : Heap) (locs1 : List Loc), va_P X.1 g_cls ((g_ws X m).set q (X.2.2.1 q, .inr (a, ((g_kinds.getD a []).mapIdx fun i t => g_fld X m q i t).set b (g_cv X.2.2.1 X.2.2.2.1 v)))) H1 →
        va_D (g_A X) ((g_ws X m).set q (X.2.2.1 q, .inr (a, ((g_kinds.getD a []).mapIdx fun i t => g_fld X m q i t).set b (g_cv X.2.2.1 X.2.2.2.1 v)))) → va_S (g_A X) s.heap H1 locs1 →
        W p l e R s mid args below meth c H1 locs1 cells slots Q1 (F0 mid (pc + 3) ls (st1.map (g_cv X.2.2.1 X.2.2.2.1))) := fun H1 locs1 hP hD1 hS1 =>
      kk H1 locs1 ls hL (g_W_fld hW own hq hs h1 h2 hkind hv hr hP hD1) hS1
    cases hfl : (g_fd a b).2.2.2 with
    | false =>
      exact va_put hx hb hts (g_lay_in ha) (g_ft a) (fun k hk => g_ft_ok ha hk) (g_nm_ok a ha) hown hKn.1 hW.1 hW.2.1 hS q (g_ws_at own) (g_cls_at a ha) b hb1 (hts _ hw) (fun _ h => h) hfl (g_ft_ok ha hb1) hn hf hl hdg kk2
    | true =>
      rw [hfl] at hfin
      simp only [Bool.not_true, Bool.false_or, Bool.and_eq_true] at hfin
      have hao := Nat.eq_of_beq_eq_true hfin.2
      exact va_putF hx hb hts (g_lay_in ha) (g_ft a) (fun k hk => g_ft_ok ha hk) (g_nm_ok a ha) hown hKn.1 hW.1 hW.2.1 hS q (g_ws_at own) (g_cls_at a ha) b hb1 (hts _ hw) (fun _ h => h) hfl (hin hfin.1) (by rw [g_decl_ok a ha b hb1, hao]) (g_ft_ok ha hb1) hn hf hl hdg kk2
  replace h : g_set X.2.2.2.2.2.1 (pc, .putfield z, 3, a, b, c0) L st m k = some o := h
  unfold g_set at h
  split at h
  · rename_i v q st1
    split at h
    · rename_i cl hsh
      obtain ⟨hcl, h5⟩ := g_cond_inv h
      clear h
      replace hcl : cl = a := Nat.eq_of_beq_eq_true hcl
      subst hcl
      have h := h5
      clear h5
      split at h
      · rename_i x h0
        obtain rfl : c0 = 0 := h0
        have ht : g_ft cl b = .int := by rcases hty with h | h | h | h <;> first | exact h.2 | (exact absurd h.1 (by decide))
        exact fin q (.int x) st1 (g_up m.1 q b x, m.2) hsh rfl (fun j hj => ⟨g_up_ne hj, rfl, rfl⟩) (fun i hi => ⟨g_up_off hi, rfl, rfl⟩) (by show Value.int (g_up m.1 q b x q b) = _; rw [g_up_on]; rfl) (fun j _ hj => absurd rfl hj) (by rw [ht]; rfl) (by rw [ht]; rfl) (hk none _ _ _ (by rfl) h cells slots)
      · rename_i x h0
        obtain rfl : c0 = 1 := h0
        have ht : g_ft cl b = .long := by rcases hty with h | h | h | h <;> first | exact h.2 | (exact absurd h.1 (by decide))
        exact fin q (.long x) st1 (m.1, g_up m.2.1 q b x, m.2.2) hsh rfl (fun j hj => ⟨rfl, g_up_ne hj, rfl⟩) (fun i hi => ⟨rfl, g_up_off hi, rfl⟩) (by show Value.long (g_up m.2.1 q b x q b) = _; rw [g_up_on]; rfl) (fun j _ hj => absurd rfl hj) (by rw [ht]; rfl) (by rw [ht]; rfl) (hk none _ _ _ (by rfl) h cells slots)
      · rename_i x h0
        obtain rfl : c0 = 2 := h0
        obtain ⟨hwf, h⟩ := g_cond_inv h
        have hwf : x < m.2.2.2.1.length ∨ 1000 ≤ x := by
          simp only [g_wf, Bool.or_eq_true] at hwf
          rcases hwf with h | h
          · exact Or.inl (Nat.lt_of_succ_le (Nat.le_of_ble_eq_true h))
          · exact Or.inr (Nat.le_of_ble_eq_true h)
        have ht : (∃ n, g_ft cl b = .object n) ∨ ∃ n, g_ft cl b = .array n := by rcases hty with h | h | h | h <;> first | exact h.2 | (exact absurd h.1 (by decide))
        exact fin q (.ref x) st1 (m.1, m.2.1, g_up m.2.2.1 q b (x + 1), m.2.2.2) hsh rfl (fun j hj => ⟨rfl, rfl, g_up_ne hj⟩) (fun i hi => ⟨rfl, rfl, g_up_off hi⟩) (by show g_cv _ _ (g_ref (g_up m.2.2.1 q b (x + 1) q b)) = _; rw [g_up_on]; rfl)
          (fun j hj _ => by
            have this : x = j := Nat.succ.inj ((g_up_on (f := m.2.2.1) (q := q) (sl := b) (x := x + 1)).symm.trans hj)
            rw [← this]; exact hwf) (by rcases ht with ⟨n, ht⟩ | ⟨n, ht⟩ <;> rw [ht] <;> rfl) (by rcases ht with ⟨n, ht⟩ | ⟨n, ht⟩ <;> rw [ht] <;> rfl) (hk none _ _ _ (by rfl) h cells slots)
      · rename_i x h0
        obtain rfl : c0 = 3 := h0
        have ht : g_ft cl b = .boolean := by rcases hty with h | h | h | h <;> first | exact h.2 | (exact absurd h.1 (by decide))
        split at h
        · rename_i hx01
          exact fin q (.int x) st1 (g_up m.1 q b x, m.2) hsh rfl (fun j hj => ⟨g_up_ne hj, rfl, rfl⟩) (fun i hi => ⟨g_up_off hi, rfl, rfl⟩) (by show Value.int (g_up m.1 q b x q b) = _; rw [g_up_on]; rfl) (fun j _ hj => absurd rfl hj)
            (by rw [ht]; rcases hx01 with rfl | rfl <;> rfl) (by rw [ht]; rcases hx01 with rfl | rfl <;> rfl) (hk none _ _ _ (by rfl) h cells slots)
        · cases h
      · cases h
    · cases h
  · cases h
def g_gsf (a c : Nat) : String × String × String := match a, c with
  | 1000, _ => ("GutterNine", "SLIP_ASIDE", "[I")
  | 1001, _ => ("GutterNine", "SLIP_DOWN", "[I")
  | 1, _ => ("java/lang/String", "COMPACT_STRINGS", "Z")
  | _, _ => ("jdk/internal/util/Preconditions", "SIOOBE_FORMATTER", "Ljava/util/function/BiFunction;")
theorem g_gs_ok : ∀ r ∈ g_gs, (r.2.2.1, r.2.2.2.1) ∈ [(1000, 1), (1001, 1), (1, 0), (0, 2)] ∧ (if r.2.2.2.2 = true then Cond.fieldLinkNest (g_on r.1) r.2.1 (g_gsf r.2.2.1 r.2.2.2.1).1 (g_gsf r.2.2.1 r.2.2.2.1).2.1 (g_gsf r.2.2.1 r.2.2.2.1).2.2 "GutterNine" ∈ lw_tbl
    else Cond.fieldLink (g_on r.1) r.2.1 (g_gsf r.2.2.1 r.2.2.2.1).1 (g_gsf r.2.2.1 r.2.2.2.1).2.1 (g_gsf r.2.2.1 r.2.2.2.1).2.2 ∈ lw_tbl) := by decide +kernel
theorem g_o_getstatic (hc : g_Ctx X p s args mid meth c R on ini bytes nL d) {z : Nat} (hD : g_okD bytes (pc, .getstatic z, len, a, b, c0) = true) (hI : g_okI on ini ret (pc, .getstatic z, len, a, b, c0) = true)
    (hk : ∀ j L st m1, m1.2.2.2.1 = m.2.2.2.1 → k j L st m1 = some o → ∀ cells slots, g_G X p l e R s mid args below meth c Q nL o (match j with
    | none => pc + len
    | some t => t) L st m1 cells slots)
    (h : g_step X.2.2.2.2.2.1 (pc, .getstatic z, len, a, b, c0) L st m k = some o) (cells slots : Nat) : g_G X p l e R s mid args below meth c Q nL o pc L st m cells slots := by
  obtain ⟨hx, hb, hml, hown, hts, hKn, hKc, hfr, hlo, hin⟩ := hc
  have hdg := g_bo hD
  obtain rfl : 3 = len := g_ln hD
  obtain ⟨r, hr, h1⟩ := List.any_eq_true.mp hI
  simp only [g_at2, Bool.and_eq_true] at h1
  obtain ⟨h2, h3⟩ := g_gs_ok r hr
  rw [Nat.eq_of_beq_eq_true h1.1.1, Nat.eq_of_beq_eq_true h1.1.2, Nat.eq_of_beq_eq_true h1.2.1, Nat.eq_of_beq_eq_true h1.2.2] at h3
  rw [Nat.eq_of_beq_eq_true h1.2.1, Nat.eq_of_beq_eq_true h1.2.2] at h2
  have go : ∀ v, va_Z (g_gsf a c0).1 (g_gsf a c0).2.1 (g_gsf a c0).2.2 (g_cv X.2.2.1 X.2.2.2.1 v) (g_A X) s s.heap → g_G X p l e R s mid args below meth c Q nL o (pc + 3) L (v :: st) m cells slots → g_G X p l e R s mid args below meth c Q nL o pc L st m cells slots := by
    intro v hz hg
    refine g_G.pure (fun Q1 H locs ls hL hW hS kk => ?_) hg
    by_cases hn : r.2.2.2.2 = true
    · rw [if_pos hn] at h3
      exact va_getsN hx hb hz hS hown (va_Nw.use rfl (hKn.2 _ h3 rfl)) (fun _ h => h) hdg kk
    · rw [if_neg hn] at h3
      exact va_gets hx hb hz hS hown (hts _ (List.mem_filter.mpr ⟨h3, rfl⟩)) (fun _ h => h) hdg kk
  obtain ⟨-, z1, z2, z3, z4, -⟩ := hKc
  simp only [List.mem_cons, Prod.mk.injEq, List.not_mem_nil, or_false] at h2
  rcases h2 with ⟨rfl, rfl⟩ | ⟨rfl, rfl⟩ | ⟨rfl, rfl⟩ | ⟨rfl, rfl⟩
  · exact go (.ref 1000) z1 (hk none _ _ _ (by rfl) h cells slots)
  · exact go (.ref 1001) z2 (hk none _ _ _ (by rfl) h cells slots)
  · exact go (.int 1) z3 (hk none _ _ _ (by rfl) h cells slots)
  · exact go (.float 0) z4 (hk none _ _ _ (by rfl) h cells slots)
end OP4

section NEW
variable {p : Program} {l : Launch} {e : Env} {R : Room} {s : State} {mid : MethodId} {args : Array Value} {below : List Frame} {meth : Method} {c : Code} {Q : Nat → Nat → State → Prop}
variable {X : gX} {on nL d : Nat} {ini : Bool} {bytes : ByteArray} {o : Option Value × gM} {ret : Option FieldType} {pc len a b c0 : Nat} {ins : Instr} {k : gK} {L : gLs} {st : List Value} {m : gM} {H : Heap} {ad : Nat → Nat}
theorem g_xa_self : g_xa X X.2.2.1 = X := rfl
theorem g_all_ne {α : Type} {f : Nat → Nat → α} {q j : Nat} {x : α} (h : j ≠ q) : g_all f q x j = f j := by funext z; simp [g_all, h]
theorem g_all_at {α : Type} {f : Nat → Nat → α} {q : Nat} {x : α} : g_all f q x q = fun _ => x := by funext z; simp [g_all]
def g_mk (m : gM) (sh : Nat × Nat) : gM := (g_all m.1 m.2.2.2.1.length 0, g_all m.2.1 m.2.2.2.1.length 0, g_all m.2.2.1 m.2.2.2.1.length 0, m.2.2.2.1 ++ [sh], m.2.2.2.2)
theorem g_W_mk (hW : g_W X m H) {q : Nat} {sh : Nat × Nat} {H1 : Heap} (hlt : m.2.2.2.1.length < 1000) (hF : g_Fam X m.2.2.2.1.length ad) (hq : ad m.2.2.2.1.length = q)
    (hsh : (sh.1 = 0 ∧ sh.2 < 13) ∨ (1 ≤ sh.1 ∧ sh.1 ≤ 4)) {en : va_E} (hen : g_ent (g_xa X ad) (g_mk m sh) m.2.2.2.1.length sh = en) (hP : va_P X.1 g_cls (g_ws X m ++ [(q, en)]) H1) (hD : va_D (g_A X) (g_ws X m ++ [(q, en)])) : g_W (g_xa X ad) (g_mk m sh) H1 :=
  g_W_new hW hlt hF hq rfl rfl hsh (fun j hj => ⟨g_all_ne hj, g_all_ne hj, g_all_ne hj⟩) (fun i => by show g_all m.2.2.1 _ 0 _ i = 0; rw [g_all_at]) hen hP hD
/-- the addresses with one more cell -/
def g_ad1 (X : gX) (n q : Nat) : Nat → Nat := fun j => if j = n then q else X.2.2.1 j
theorem g_ad1_fam {n q : Nat} (hn : n < 1000) (h0 : X.2.2.2.2.2.1.2.2.2 ≠ 0) : g_Fam X n (g_ad1 X n q) :=
  ⟨fun k hk => if_neg (by omega), fun h => absurd h h0⟩
theorem g_ad1_at {n q : Nat} : g_ad1 X n q n = q := if_pos rfl
/-- a row that makes a cell, in the shape of the plain machine's -/
theorem g_G.make {pc1 : Nat} {sh : Nat × Nat} {st1 : List Value} {cells slots : Nat} (hlt : m.2.2.2.1.length < 1000) (h0 : X.2.2.2.2.2.1.2.2.2 ≠ 0) (hwL : g_wfL m.2.2.2.1.length L = true) (hwS : g_wfS m.2.2.2.1.length st1 = true)
    (hsh : (sh.1 = 0 ∧ sh.2 < 13) ∨ (1 ≤ sh.1 ∧ sh.1 ≤ 4)) (en : va_E) (hen : ∀ ad, g_ent (g_xa X ad) (g_mk m sh) m.2.2.2.1.length sh = en)
    (hrow : ∀ (Q1 : State → Prop) (H : Heap) (locs : List Loc) (ls : Array Slot), cells + 1 ≤ R.cells → slots + g_slots [sh] ≤ R.slots → g_Ls X ls nL L → g_W X m H → va_S (g_A X) s.heap H locs →
      (∀ (q : Nat) (H1 : Heap), va_P X.1 g_cls (g_ws X m ++ [(q, en)]) H1 → va_D (g_A X) (g_ws X m ++ [(q, en)]) → va_S (g_A X) s.heap H1 locs →
        W p l e R s mid args below meth c H1 locs (cells + 1) (slots + g_slots [sh]) Q1 (F0 mid pc1 ls (.ref q :: st1.map (g_cv X.2.2.1 X.2.2.2.1)))) →
      W p l e R s mid args below meth c H locs cells slots Q1 (F0 mid pc ls (st.map (g_cv X.2.2.1 X.2.2.2.1))))
    (hk : ∀ ad, g_Fam X m.2.2.2.1.length ad → ∀ cells slots, g_G (g_xa X ad) p l e R s mid args below meth c Q nL o pc1 L (.ref m.2.2.2.1.length :: st1) (g_mk m sh) cells slots) :
    g_G X p l e R s mid args below meth c Q nL o pc L st m cells slots := by
  have el : (g_mk m sh).2.2.2.1.length = m.2.2.2.1.length + 1 := by simp [g_mk]
  have es : g_slots (g_mk m sh).2.2.2.1 = g_slots m.2.2.2.1 + g_slots [sh] := g_slots_app _ _
  obtain ⟨mc, ms, h1, h2, h3, h4, -⟩ := hk X.2.2.1 g_Fam.rf (cells + 1) (slots + g_slots [sh])
  rw [el] at h3
  rw [es] at h4
  refine ⟨mc, ms, by omega, by omega, by omega, by omega, fun hc1 hs1 H locs ls hL hW hS => ?_⟩
  refine hrow _ H locs ls (by omega) (by omega) hL hW hS fun q H1 hP hD hS1 => ?_
  have hF := g_ad1_fam (X := X) (q := q) hlt h0
  obtain ⟨mc', ms', k1, k2, k3, k4, k5⟩ := hk _ hF (cells + 1) (slots + g_slots [sh])
  rw [el] at k3
  rw [es] at k4
  obtain rfl : mc' = mc := by omega
  obtain rfl : ms' = ms := by omega
  have hw := k5 hc1 hs1 H1 locs ls (g_Ls_xa hF hwL hL) (g_W_mk hW hlt hF g_ad1_at hsh (hen _) hP hD) hS1
  have e1 : (Value.ref m.2.2.2.1.length :: st1).map (g_cv (g_xa X (g_ad1 X m.2.2.2.1.length q)).2.2.1 (g_xa X (g_ad1 X m.2.2.2.1.length q)).2.2.2.1) = .ref q :: st1.map (g_cv X.2.2.1 X.2.2.2.1) := by
    show Value.ref (g_ad1 X _ q _) :: st1.map (g_cv (g_ad1 X m.2.2.2.1.length q) X.2.2.2.1) = _
    rw [g_ad1_at, g_wfS_cv hF X.2.2.2.1 hwS]
  rw [e1] at hw
  exact hw
theorem g_o_new (hc : g_Ctx X p s args mid meth c R on ini bytes nL d) {z : Nat} (hD : g_okD bytes (pc, .new z, len, a, b, c0) = true) (hI : g_okI on ini ret (pc, .new z, len, a, b, c0) = true)
    (hk : ∀ ad, g_Fam X m.2.2.2.1.length ad → ∀ j L st m1, m.2.2.2.1.length ≤ m1.2.2.2.1.length → k j L st m1 = some o → ∀ cells slots, g_G (g_xa X ad) p l e R s mid args below meth c Q nL o (match j with
    | none => pc + len
    | some t => t) L st m1 cells slots)
    (h : g_step X.2.2.2.2.2.1 (pc, .new z, len, a, b, c0) L st m k = some o) (cells slots : Nat) : g_G X p l e R s mid args below meth c Q nL o pc L st m cells slots := by
  obtain ⟨hx, hb, hml, hown, hts, hKn, hKc, hfr, hlo, hin⟩ := hc
  have hdg := g_bo hD
  obtain rfl : 3 = len := g_ln hD
  obtain ⟨r, hr, h1⟩ := List.any_eq_true.mp hI
  simp only [g_at2, Bool.and_eq_true] at h1
  obtain ⟨w1, w2, w3, ha⟩ := g_nl_ok r hr
  have w1 := g_w_in w1
  have w2 := g_w_in w2
  have w3 := g_w_in w3
  rw [Nat.eq_of_beq_eq_true h1.1.1, Nat.eq_of_beq_eq_true h1.1.2, Nat.eq_of_beq_eq_true h1.2] at w1
  rw [Nat.eq_of_beq_eq_true h1.2] at w2 w3 ha
  have ha : a < 13 := ha
  obtain ⟨hg, h2⟩ := g_cond_inv h
  simp only [Bool.and_eq_true] at hg
  have h0 : X.2.2.2.2.2.1.2.2.2 ≠ 0 := fun q => absurd (Nat.lt_of_succ_le (Nat.le_of_ble_eq_true hg.1)) (by rw [q]; omega)
  have hlt : m.2.2.2.1.length < 1000 := Nat.lt_of_succ_le (Nat.le_of_ble_eq_true hg.2)
  obtain ⟨h3, hwf⟩ := g_old_inv h2
  obtain ⟨hwL, hwS⟩ := hwf h0
  have hen : ∀ ad, g_ent (g_xa X ad) (g_mk m (0, a)) m.2.2.2.1.length (0, a) = .inr (a, (g_kinds.getD a []).map fun t => match t with
      | 1 => .long 0
      | 2 => .null
      | _ => .int 0) := by
    intro ad
    show Sum.inr (a, _) = _
    congr 2
    apply List.ext_getElem?
    intro i
    simp only [List.getElem?_mapIdx, List.getElem?_map]
    congr 1
    funext t
    unfold g_fld
    show (match t with
      | 1 => Value.long (g_all m.2.1 _ 0 _ i)
      | 2 => g_cv ad X.2.2.2.1 (g_ref (g_all m.2.2.1 _ 0 _ i))
      | _ => Value.int (g_all m.1 _ 0 _ i)) = _
    rw [g_all_at, g_all_at, g_all_at]
    split <;> rfl
  refine g_G.make hlt h0 hwL hwS (Or.inl ⟨rfl, ha⟩) _ hen (fun Q1 H locs ls hc1 hs1 hL hW hS kk => ?_) (fun ad hF cells slots => hk ad hF none L _ _ (by simp [g_mk]) h3 cells slots)
  have e2 : g_slots [(0, a)] = g_nf a := by simp [g_slots]
  rw [e2] at kk hs1
  refine va_new hx hb hts (g_lay_in ha) (g_ft a) (fun k hk => g_ft_ok ha hk) hown (hts _ w1) (hts _ w2) (hts _ w3) hKn.1 hW.1 hW.2.1 hS (fun q hq => Nat.le_trans hKc.2.2.2.2.2.2.2.2 hq) (g_cls_at a ha) (fun j hj => ?_) hc1 hs1 hdg kk
  have hkd : g_kd a j = g_kd a j := rfl
  have hat := g_kd_at ha hj hkd
  have hv : vp_V ((g_kinds.getD a []).map fun t => match t with
      | 1 => Value.long 0
      | 2 => .null
      | _ => .int 0) j = (match g_kd a j with
      | 1 => Value.long 0
      | 2 => .null
      | _ => .int 0) := by
    unfold vp_V
    rw [List.getD_eq_getElem?_getD, List.getElem?_map, hat]
    rfl
  rw [hv]
  rcases g_kty ha hj hkd with ⟨h, q⟩ | ⟨h, q⟩ | ⟨h, q⟩ | ⟨h, q⟩
  · rw [h, q]; rfl
  · rw [h, q]; rfl
  · rcases q with ⟨n, q⟩ | ⟨n, q⟩ <;> rw [h, q] <;> rfl
  · rw [h, q]; rfl
theorem g_arr_ok : ∀ t ∈ [FieldType.int, .long, .char, .boolean], Cond.arrayClass t ∈ g_tw := by
  intro t ht
  have h : ∀ t ∈ [FieldType.int, .long, .char, .boolean], Cond.arrayClass t ∈ lw_tbl ∧ goodWord (Cond.arrayClass t) = true := by decide +kernel
  exact List.mem_filter.mpr (h t ht)
theorem g_o_newarray (hc : g_Ctx X p s args mid meth c R on ini bytes nL d) {z : ArrayType} (hD : g_okD bytes (pc, .newarray z, len, a, b, c0) = true) (hI : g_okI on ini ret (pc, .newarray z, len, a, b, c0) = true)
    (hk : ∀ ad, g_Fam X m.2.2.2.1.length ad → ∀ j L st m1, m.2.2.2.1.length ≤ m1.2.2.2.1.length → k j L st m1 = some o → ∀ cells slots, g_G (g_xa X ad) p l e R s mid args below meth c Q nL o (match j with
    | none => pc + len
    | some t => t) L st m1 cells slots)
    (h : g_step X.2.2.2.2.2.1 (pc, .newarray z, len, a, b, c0) L st m k = some o) (cells slots : Nat) : g_G X p l e R s mid args below meth c Q nL o pc L st m cells slots := by
  obtain ⟨hx, hb, hml, hown, hts, hKn, hKc, hfr, hlo, hin⟩ := hc
  have hdg := g_bo hD
  obtain rfl : 2 = len := g_ln hD
  have hI2 : (newarray.typeOf z, a) ∈ [(FieldType.int, 1), (.long, 2), (.char, 3), (.boolean, 4)] := of_decide_eq_true hI
  obtain ⟨x, st1, hst, h2⟩ := g_b1_inv h
  clear h
  subst hst
  obtain ⟨hx0, h3⟩ := g_ite_inv h2
  obtain ⟨hg, h4⟩ := g_cond_inv h3
  simp only [Bool.and_eq_true] at hg
  have h0 : X.2.2.2.2.2.1.2.2.2 ≠ 0 := fun q => absurd (Nat.lt_of_succ_le (Nat.le_of_ble_eq_true hg.1)) (by rw [q]; omega)
  have hlt : m.2.2.2.1.length < 1000 := Nat.lt_of_succ_le (Nat.le_of_ble_eq_true hg.2)
  obtain ⟨h5, hwf⟩ := g_old_inv h4
  obtain ⟨hwL, hwS⟩ := hwf h0
  have hn0 : ¬ x < 0 := fun q => hx0 (Or.inl q)
  have hn1 : x.toNatClampNeg < 100000 := Nat.lt_of_not_le fun q => hx0 (Or.inr q)
  have go : ∀ (t : FieldType) (ti : Nat) (a0 : vp_A), newarray.typeOf z = t → (g_tys X)[ti]? = some (X.2.1 a, t) → t ∈ [FieldType.int, .long, .char, .boolean] → (1 ≤ a ∧ a ≤ 4) → g_slots [(a, x.toNatClampNeg)] = x.toNatClampNeg → (∀ cA, vp_cell cA a0 = arrV cA x.toNatClampNeg (fun _ => defaultValue t)) →
      componentBytes t ≤ 8 → (∀ cA, va_RA s cA t → s.vm.findClass ("[" ++ t.toString) = some cA) → (∀ ad, g_ent (g_xa X ad) (g_mk m (a, x.toNatClampNeg)) m.2.2.2.1.length (a, x.toNatClampNeg) = .inl (X.2.1 a, a0)) →
      g_G X p l e R s mid args below meth c Q nL o pc L (.int x :: st1) m cells slots := by
    intro t ti a0 ht hti hmem ha4 hsl ha0 hcb hra hen
    refine g_G.make hlt h0 hwL hwS (Or.inr ha4) _ hen (fun Q1 H locs ls hc1 hs1 hL hW hS kk => ?_) (fun ad hF cells slots => hk ad hF none L _ _ (by simp [g_mk]) h5 cells slots)
    rw [hsl] at kk hs1
    have hb1 : x.toNatClampNeg * componentBytes t ≤ 536870912 := by
      have := Nat.mul_le_mul (Nat.le_of_lt hn1) hcb
      exact Nat.le_trans this (Nat.le_of_ble_eq_true rfl)
    refine va_newa hx hb (by rw [ht]; exact hts _ (g_arr_ok t hmem)) ht hKn.1 hW.1 hW.2.1 hS (fun q hq => Nat.le_trans hKc.2.2.2.2.2.2.2.2 hq) ha0 hn0 rfl hb1 hc1 hs1 hdg (fun q cA H1 hK1 hP hD1 hS1 => ?_)
    have e1 := (hK1.2 4 (cA, t) rfl).2
    have e2 := (hKn.1.2 ti _ hti).2
    have e3 : cA = X.2.1 a := Option.some.inj ((hra cA e1).symm.trans (hra _ e2))
    subst e3
    exact kk q H1 hP hD1 hS1
  simp only [List.mem_cons, Prod.mk.injEq, List.not_mem_nil, or_false] at hI2
  rcases hI2 with ⟨ht, rfl⟩ | ⟨ht, rfl⟩ | ⟨ht, rfl⟩ | ⟨ht, rfl⟩
  · exact go .int 0 (_, .inl fun _ => 0) ht rfl (by simp) (by omega) (by simp [g_slots]) (fun cA => rfl) (by decide) (fun cA h => h) (fun ad => by show Sum.inl (X.2.1 1, _, Sum.inl (g_all m.1 _ 0 _)) = _; rw [g_all_at]; rfl)
  · exact go .long 1 (_, .inr (.inl fun _ => 0)) ht rfl (by simp) (by omega) (by simp [g_slots]) (fun cA => rfl) (by decide) (fun cA h => h) (fun ad => by show Sum.inl (X.2.1 2, _, Sum.inr (Sum.inl (g_all m.2.1 _ 0 _))) = _; rw [g_all_at]; rfl)
  · exact go .char 2 (_, .inl fun _ => 0) ht rfl (by simp) (by omega) (by simp [g_slots]) (fun cA => rfl) (by decide) (fun cA h => h) (fun ad => by show Sum.inl (X.2.1 3, _, Sum.inl (g_all m.1 _ 0 _)) = _; rw [g_all_at]; rfl)
  · exact go .boolean 3 (_, .inl fun _ => 0) ht rfl (by simp) (by omega) (by simp [g_slots]) (fun cA => rfl) (by decide) (fun cA h => h) (fun ad => by show Sum.inl (X.2.1 4, _, Sum.inl (g_all m.1 _ 0 _)) = _; rw [g_all_at]; rfl)
end NEW

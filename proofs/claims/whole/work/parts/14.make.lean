section MAKE
variable {p : Program} {l : Launch} {e : Env} {R : Room} {s : State} {mid : MethodId} {args : Array Value} {below : List Frame} {meth : Method} {c : Code} {Q : Nat → Nat → State → Prop}
variable {X : gX} {on nL d : Nat} {ini : Bool} {bytes : ByteArray} {o : Option Value × gM} {ret : Option FieldType} {pc len a b c0 : Nat} {ins : Instr} {k : gK} {L : gLs} {st : List Value} {m : gM} {H : Heap} {ad : Nat → Nat}
theorem g_Fam.rf {n : Nat} : g_Fam X n X.2.2.1 := ⟨fun _ _ => rfl, fun _ => rfl⟩
theorem g_Fam.trans {n n1 : Nat} {ad1 : Nat → Nat} (h : g_Fam X n ad) (hn : n ≤ n1) (h1 : g_Fam (g_xa X ad) n1 ad1) : g_Fam X n ad1 := by
  refine ⟨fun k hk => (h1.1 k (by omega)).trans (h.1 k hk), fun h0 => (h1.2 h0).trans (h.2 h0)⟩
theorem g_wf_cv {n : Nat} (hF : g_Fam X n ad) {v : Value} (h : g_wf n v = true) (fv : Value) : g_cv ad fv v = g_cv X.2.2.1 fv v := by
  cases v <;> first | rfl | skip
  rename_i j
  simp only [g_wf, Bool.or_eq_true] at h
  show Value.ref (ad j) = .ref (X.2.2.1 j)
  rw [hF.1 j (h.elim (fun h => Or.inl (Nat.lt_of_succ_le (Nat.le_of_ble_eq_true h))) (fun h => Or.inr (Nat.le_of_ble_eq_true h)))]
theorem g_wfS_cv {n : Nat} (hF : g_Fam X n ad) (fv : Value) : ∀ {st : List Value}, g_wfS n st = true → st.map (g_cv ad fv) = st.map (g_cv X.2.2.1 fv)
  | [], _ => rfl
  | v :: st, h => by
    simp only [g_wfS, Bool.and_eq_true] at h
    simp only [List.map_cons, g_wf_cv hF h.1 fv, g_wfS_cv hF fv h.2]
theorem g_wfL_nth {n : Nat} : ∀ {L : gLs} {i : Nat} {v : Value}, g_wfL n L = true → g_nth L i = some v → g_wf n v = true
  | [], _, _, _, h => by simp [g_nth] at h
  | none :: _, 0, _, _, h => by simp [g_nth] at h
  | some w :: _, 0, v, hL, h => by
    simp only [g_wfL, Bool.and_eq_true] at hL
    simp only [g_nth, Option.some.injEq] at h
    rw [← h]; exact hL.1
  | none :: l, i + 1, v, hL, h => g_wfL_nth (L := l) (by simpa [g_wfL] using hL) (by simpa [g_nth] using h)
  | some w :: l, i + 1, v, hL, h => g_wfL_nth (L := l) (by simp only [g_wfL, Bool.and_eq_true] at hL; exact hL.2) (by simpa [g_nth] using h)
theorem g_Ls_xa {n : Nat} (hF : g_Fam X n ad) {ls : Array Slot} (hw : g_wfL n L = true) (h : g_Ls X ls nL L) : g_Ls (g_xa X ad) ls nL L :=
  ⟨h.1, h.2.1, h.2.2.1, fun i v hv => by
    have := h.2.2.2 i v hv
    rw [← g_wf_cv hF (g_wfL_nth hw hv)] at this
    exact this⟩
theorem g_Kc_xa {n : Nat} (hF : g_Fam X n ad) {U : State} (h : g_Kc X U H) : g_Kc (g_xa X ad) U H := by
  have e : ∀ j, ad (1000 + j) = X.2.2.1 (1000 + j) := fun j => hF.1 _ (Or.inr (by omega))
  obtain ⟨h1, h2, h3, h4, h5, h6, h7, h8, h9⟩ := h
  refine ⟨fun k q hk => ?_, ?_, ?_, h4, h5, fun i q hi => ?_, ?_, h8, h9⟩
  · have h := h1 k q hk
    obtain ⟨q1, q2⟩ := q
    split at h
    · show va_T .int (ad (1000 + k)) _ _ _ U H
      rw [e]; exact h
    · show va_T .byte (ad (1000 + k)) _ _ _ U H
      rw [e]; exact h
    · obtain ⟨a1, a2, a3, a4, v, a5, a7, a6⟩ := h
      show q2 = 17 ∧ va_O "java/lang/String" (ad (1000 + k)) (g_A X) U H ∧ va_OF "java/lang/String" "coder" "B" (.int 0) (ad (1000 + k)) (g_A X) U H ∧ X.2.2.2.2.2.1.2.1 (1000 + k) 1 = 0 ∧ ∃ v, X.2.2.2.2.2.1.2.2.1 (1000 + k) 0 = v + 1 ∧ 1000 ≤ v ∧ va_OF "java/lang/String" "value" "[B" (.ref (ad v)) (ad (1000 + k)) (g_A X) U H
      exact ⟨a1, by rw [e]; exact a2, by rw [e]; exact a3, a4, v, a5, a7, by rw [e, hF.1 v (Or.inr a7)]; exact a6⟩
    · exact h.elim
  · show va_Z _ _ _ (.ref (ad 1000)) _ U H
    rw [hF.1 _ (Or.inr (by omega))]; exact h2
  · show va_Z _ _ _ (.ref (ad 1001)) _ U H
    rw [hF.1 _ (Or.inr (by omega))]; exact h3
  · show vk_R _ _ _ (ad (1010 + 2 * i)) U
    rw [hF.1 _ (Or.inr (by omega))]; exact h6 i q hi
  · show va_X (ad 2000) _ _ U H ∧ ad 2000 < _
    rw [hF.1 2000 (Or.inr (by omega))]; exact h7
/-- what is made is the same, for whoever makes more -/
theorem g_ent_xa (hW : g_W X m H) {m1 : gM} (hF : g_Fam X m.2.2.2.1.length ad) {j : Nat} {q : Nat × Nat} (hj : m.2.2.2.1[j]? = some q) (h1 : m1.1 j = m.1 j) (h2 : m1.2.1 j = m.2.1 j) (h3 : m1.2.2.1 j = m.2.2.1 j) : g_ent (g_xa X ad) m1 j q = g_ent X m j q := by
  have hf : ∀ i t, g_fld (g_xa X ad) m1 j i t = g_fld X m j i t := by
    intro i t
    unfold g_fld
    rw [h1, h2, h3]
    split
    · rfl
    · show g_cv ad _ _ = g_cv X.2.2.1 _ _
      cases hz : m.2.2.1 j i with
      | zero => rfl
      | succ z =>
        have hw := hW.2.2.2.1 j q hj i z hz
        show Value.ref (ad z) = .ref (X.2.2.1 z)
        rw [hF.1 z hw]
    · rfl
  unfold g_ent
  rw [h1, h2]
  simp only [hf]
  rfl
/-- a cell is made -/
theorem g_W_new (hW : g_W X m H) {m1 : gM} {q : Nat} {sh : Nat × Nat} {H1 : Heap} (hlt : m.2.2.2.1.length < 1000) (hF : g_Fam X m.2.2.2.1.length ad) (hq : ad m.2.2.2.1.length = q) (hs : m1.2.2.2.1 = m.2.2.2.1 ++ [sh]) (hL : m1.2.2.2.2 = m.2.2.2.2)
    (hsh : (sh.1 = 0 ∧ sh.2 < 13) ∨ (1 ≤ sh.1 ∧ sh.1 ≤ 4)) (h1 : ∀ j, j ≠ m.2.2.2.1.length → m1.1 j = m.1 j ∧ m1.2.1 j = m.2.1 j ∧ m1.2.2.1 j = m.2.2.1 j) (h0 : ∀ i, m1.2.2.1 m.2.2.2.1.length i = 0)
    {en : va_E} (hen : g_ent (g_xa X ad) m1 m.2.2.2.1.length sh = en) (hP : va_P X.1 g_cls (g_ws X m ++ [(q, en)]) H1) (hD : va_D (g_A X) (g_ws X m ++ [(q, en)])) : g_W (g_xa X ad) m1 H1 := by
  have e : g_ws (g_xa X ad) m1 = g_ws X m ++ [(q, en)] := by
    unfold g_ws
    rw [hs, List.mapIdx_append]
    congr 1
    · apply List.ext_getElem?
      intro j
      simp only [List.getElem?_mapIdx]
      cases hj : m.2.2.2.1[j]? with
      | none => rfl
      | some q0 =>
        have hjl := (List.getElem?_eq_some_iff.mp hj).1
        have hne : j ≠ m.2.2.2.1.length := by omega
        simp only [Option.map_some]
        rw [g_ent_xa hW hF hj (h1 j hne).1 (h1 j hne).2.1 (h1 j hne).2.2]
        show some (ad j, _) = some (X.2.2.1 j, _)
        rw [hF.1 j (Or.inl hjl)]
    · simp only [List.mapIdx_cons, List.mapIdx_nil, Nat.zero_add, hen]
      show [(ad _, en)] = _
      rw [hq]
  refine ⟨by rw [e]; exact hP, by rw [e]; exact hD, fun q0 hq0 => ?_, fun k0 q0 hk0 i j hj => ?_, by rw [(h1 2000 (by omega)).1]; exact hW.2.2.2.2.1, by rw [hL]; exact hW.2.2.2.2.2⟩
  · rw [hs] at hq0
    rcases List.mem_append.mp hq0 with h | h
    · exact hW.2.2.1 q0 h
    · rw [List.mem_singleton.mp h]; exact hsh
  · rw [hs] at hk0 ⊢
    rw [List.length_append, List.length_singleton]
    by_cases hk : k0 = m.2.2.2.1.length
    · subst hk; rw [h0 i] at hj; cases hj
    · rw [(h1 k0 hk).2.2] at hj
      have hkl : k0 < m.2.2.2.1.length := by
        have := (List.getElem?_eq_some_iff.mp hk0).1
        simp only [List.length_append, List.length_singleton] at this
        omega
      rw [List.getElem?_append_left hkl] at hk0
      rcases hW.2.2.2.1 k0 q0 hk0 i j hj with h | h
      · exact Or.inl (by omega)
      · exact Or.inr h
theorem g_old_inv {C : gC} {kr : gRs} (h : g_old C L st m kr = some o) : kr = some o ∧ (C.2.2.2 ≠ 0 → g_wfL m.2.2.2.1.length L = true ∧ g_wfS m.2.2.2.1.length st = true) := by
  unfold g_old at h
  split at h
  · rename_i h0
    exact ⟨h, fun h1 => absurd h0 h1⟩
  · obtain ⟨h1, h2⟩ := g_cond_inv h
    simp only [Bool.and_eq_true] at h1
    exact ⟨h2, fun _ => h1⟩
end MAKE

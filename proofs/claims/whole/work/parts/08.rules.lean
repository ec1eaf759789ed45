/-! Facts of the tables, as the machine's rows want them. -/
def g_ft (c k : Nat) : FieldType := (parseFieldDescriptor (g_fd c k).2.2.1).getD .int
def g_ktyc (c k : Nat) : Bool := match g_kd c k, parseFieldDescriptor (g_fd c k).2.2.1 with
  | 0, some .int => true
  | 1, some .long => true
  | 2, some (.object _) => true
  | 2, some (.array _) => true
  | 3, some .boolean => true
  | _, _ => false
theorem g_fd_ok : ∀ c, c < 13 → (∀ k, k < g_nf c → g_ktyc c k = true) ∧ (g_kinds.getD c []).length = g_nf c ∧ (g_flds.getD c []).length = g_nf c := by decide +kernel
theorem g_nm_ok : ∀ c, c < 13 → ∀ a, a < g_nf c → ∀ b, b < g_nf c → a ≠ b → (g_fd c a).2.1 ≠ (g_fd c b).2.1 := by decide +kernel
theorem g_decl_ok : ∀ c, c < 13 → ∀ k, k < g_nf c → (g_fd c k).1 = g_on c := by decide +kernel
theorem g_cls_at : ∀ c, c < 13 → g_cls[c]? = some (g_on c, g_fd c, g_nf c) := by
  intro c h
  have : c = 0 ∨ c = 1 ∨ c = 2 ∨ c = 3 ∨ c = 4 ∨ c = 5 ∨ c = 6 ∨ c = 7 ∨ c = 8 ∨ c = 9 ∨ c = 10 ∨ c = 11 ∨ c = 12 := by omega
  rcases this with rfl | rfl | rfl | rfl | rfl | rfl | rfl | rfl | rfl | rfl | rfl | rfl | rfl <;> rfl
theorem g_lay_in {c : Nat} (hc : c < 13) : ∀ w ∈ u_ws (g_on c) (g_fd c) (g_nf c), w ∈ g_tw := by
  intro w hw
  obtain ⟨k, hk, rfl⟩ := List.mem_map.mp hw
  exact g_w_in (g_lay_ok c hc k (List.mem_range.mp hk))
theorem g_ft_ok {c k : Nat} (hc : c < 13) (hk : k < g_nf c) : parseFieldDescriptor (g_fd c k).2.2.1 = some (g_ft c k) := by
  have h := (g_fd_ok c hc).1 k hk
  unfold g_ktyc at h
  unfold g_ft
  cases hp : parseFieldDescriptor (g_fd c k).2.2.1 with
  | none =>
    rw [hp] at h
    split at h <;> simp_all
  | some t => rfl
theorem g_kd_at {c k t : Nat} (hc : c < 13) (hk : k < g_nf c) (h : g_kd c k = t) : (g_kinds.getD c [])[k]? = some t := by
  have h1 := (g_fd_ok c hc).2.1
  have h2 : g_kd c k = (g_kinds.getD c []).getD k 9 := by
    unfold g_kd
    split
    · omega
    · rfl
  rw [h2] at h
  rw [List.getD_eq_getElem?_getD] at h
  have h3 : k < (g_kinds.getD c []).length := by rw [h1]; exact hk
  rw [List.getElem?_eq_getElem h3] at h ⊢
  simpa using h
theorem g_kty {c k t : Nat} (hc : c < 13) (hk : k < g_nf c) (h : g_kd c k = t) : (t = 0 ∧ g_ft c k = .int) ∨ (t = 1 ∧ g_ft c k = .long) ∨ (t = 2 ∧ ((∃ n, g_ft c k = .object n) ∨ ∃ n, g_ft c k = .array n)) ∨ (t = 3 ∧ g_ft c k = .boolean) := by
  have h1 := (g_fd_ok c hc).1 k hk
  unfold g_ktyc at h1
  unfold g_ft
  rw [h] at h1
  split at h1 <;> simp_all
/-! Locals. -/
def g_Ls (X : gX) (ls : Array Slot) (nL : Nat) (L : gLs) : Prop := ls.size = nL ∧ lv_wf ls ∧ L.length = nL ∧ ∀ i v, g_nth L i = some v → ls[i]? = some (.val (g_cv X.2.2.1 X.2.2.2.1 v))
def g_lv (X : gX) (L : gLs) (nL : Nat) : List (Nat × Value) := (List.range nL).filterMap fun j => (g_nth L j).map fun v => (j, g_cv X.2.2.1 X.2.2.2.1 v)
theorem g_nth_lt : ∀ {L : gLs} {i : Nat} {v : Value}, g_nth L i = some v → i < L.length
  | [], _, _, h => by simp [g_nth] at h
  | _ :: _, 0, _, _ => by simp
  | _ :: l, k + 1, v, h => by
    have := g_nth_lt (L := l) (i := k) (v := v) (by simpa [g_nth] using h)
    simp only [List.length_cons]; omega
theorem g_lv_has {X : gX} {ls : Array Slot} {nL : Nat} {L : gLs} (h : g_Ls X ls nL L) : lv_has ls nL (g_lv X L nL) := by
  refine ⟨h.1, h.2.1, fun q hq => ?_⟩
  obtain ⟨j, -, hj⟩ := List.mem_filterMap.mp hq
  obtain ⟨v, hv, rfl⟩ := Option.map_eq_some_iff.mp hj
  exact h.2.2.2 j v hv
theorem g_lv_mem {X : gX} {nL : Nat} {L : gLs} {j : Nat} {v : Value} (hl : L.length = nL) (h : g_nth L j = some v) : (j, g_cv X.2.2.1 X.2.2.2.1 v) ∈ g_lv X L nL :=
  List.mem_filterMap.mpr ⟨j, List.mem_range.mpr (by rw [← hl]; exact g_nth_lt h), by rw [h]; rfl⟩
theorem g_cat2 {X : gX} (hf : X.2.2.2.1 = .null ∨ ∃ a, X.2.2.2.1 = .ref a) (v : Value) (h : (g_cv X.2.2.1 X.2.2.2.1 v).category = 2) : v.category = 2 := by
  cases v <;> first | exact h | (rcases hf with q | ⟨a, q⟩ <;> simp [g_cv, q, Value.category] at h)
theorem g_Ls_put {X : gX} (hf : X.2.2.2.1 = .null ∨ ∃ a, X.2.2.2.1 = .ref a) {ls ls' : Array Slot} {nL i : Nat} {L : gLs} {x : Value} (h : g_Ls X ls nL L)
    (h' : lv_has ls' nL ((i, g_cv X.2.2.1 X.2.2.2.1 x) :: (g_lv X L nL).filter (fun q => !(q.1 == i) && !(q.1 + 1 == i && q.2.category == 2)))) : g_Ls X ls' nL (g_put L i x) := by
  refine ⟨h'.1, h'.2.1, by rw [g_put_len]; exact h.2.2.1, fun j v hj => ?_⟩
  rcases g_put_spec L i x j v hj with ⟨rfl, rfl⟩ | ⟨a, b, c⟩
  · exact h'.2.2 _ List.mem_cons_self
  · refine h'.2.2 (j, _) (List.mem_cons_of_mem _ (List.mem_filter.mpr ⟨g_lv_mem h.2.2.1 b, ?_⟩))
    have : ¬ (j + 1 = i ∧ (g_cv X.2.2.1 X.2.2.2.1 v).category = 2) := fun q => c ⟨q.1, g_cat2 hf v q.2⟩
    simp only [Bool.and_eq_true, Bool.not_eq_true', beq_eq_false_iff_ne, ne_eq, Bool.and_eq_false_iff]
    refine ⟨a, ?_⟩
    by_cases q : j + 1 = i
    · exact Or.inr fun z => this ⟨q, z⟩
    · exact Or.inl q
theorem g_Ls_put2 {X : gX} (hf : X.2.2.2.1 = .null ∨ ∃ a, X.2.2.2.1 = .ref a) {ls ls' : Array Slot} {nL i : Nat} {L : gLs} {x : Value} (h : g_Ls X ls nL L)
    (h' : lv_has ls' nL ((i, g_cv X.2.2.1 X.2.2.2.1 x) :: (g_lv X L nL).filter (fun q => !(q.1 == i) && (!(q.1 == i + 1) && !(q.1 + 1 == i && q.2.category == 2))))) : g_Ls X ls' nL (g_put2 L i x) := by
  refine ⟨h'.1, h'.2.1, by rw [g_put2, g_clr_len, g_put_len]; exact h.2.2.1, fun j v hj => ?_⟩
  obtain ⟨h0, hj⟩ := g_clr_spec _ _ _ _ hj
  rcases g_put_spec L i x j v hj with ⟨rfl, rfl⟩ | ⟨a, b, c⟩
  · exact h'.2.2 _ List.mem_cons_self
  · refine h'.2.2 (j, _) (List.mem_cons_of_mem _ (List.mem_filter.mpr ⟨g_lv_mem h.2.2.1 b, ?_⟩))
    have : ¬ (j + 1 = i ∧ (g_cv X.2.2.1 X.2.2.2.1 v).category = 2) := fun q => c ⟨q.1, g_cat2 hf v q.2⟩
    simp only [Bool.and_eq_true, Bool.not_eq_true', beq_eq_false_iff_ne, ne_eq, Bool.and_eq_false_iff]
    refine ⟨a, h0, ?_⟩
    by_cases q : j + 1 = i
    · exact Or.inr fun z => this ⟨q, z⟩
    · exact Or.inl q
theorem g_cats_eq {X : gX} (hf : X.2.2.2.1 = .null ∨ ∃ a, X.2.2.2.1 = .ref a) : ∀ st : List Value, ((st.map (g_cv X.2.2.1 X.2.2.2.1)).map fun v => v.category).sum = g_cats st
  | [] => rfl
  | v :: st => by
    have ih := g_cats_eq hf st
    simp only [List.map_cons, List.sum_cons, ih]
    cases v <;> first | (simp [g_cats, g_cv, Value.category]; done) | (simp [g_cats, g_cv, Value.category]; omega) | (rcases hf with q | ⟨a, q⟩ <;> simp [g_cats, g_cv, q, Value.category] <;> omega)
theorem g_pop_spec : ∀ (n : Nat) (st acc As st' : List Value), g_pop n st acc = some (As, st') → ∃ l, l.length = n ∧ st = l ++ st' ∧ As = l.reverse ++ acc
  | 0, st, acc, As, st', h => by
    simp only [g_pop, Option.some.injEq, Prod.mk.injEq] at h
    exact ⟨[], rfl, by rw [h.2]; rfl, by rw [h.1]; rfl⟩
  | n + 1, [], acc, As, st', h => by simp [g_pop] at h
  | n + 1, v :: st, acc, As, st', h => by
    obtain ⟨l, h1, h2, h3⟩ := g_pop_spec n st (v :: acc) As st' (by simpa [g_pop] using h)
    exact ⟨v :: l, by simp [h1], by rw [h2]; rfl, by rw [h3]; simp⟩

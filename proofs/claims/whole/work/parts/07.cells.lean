theorem g_sh1_eq : ∀ (l : List (Nat × Nat)) (k : Nat), g_sh1 l k = l[k]?
  | [], _ => by simp [g_sh1]
  | _ :: _, 0 => rfl
  | _ :: l, k + 1 => by simpa [g_sh1] using g_sh1_eq l k
theorem g_sh_cases {cs : List (Nat × Nat)} {m : gM} {k : Nat} {q : Nat × Nat} (h : g_sh cs m k = some q) : (k < 1000 ∧ m.2.2.2.1[k]? = some q) ∨ (∃ j, k = 1000 + j ∧ cs[j]? = some q) ∨ (k = 2000 ∧ q = (12, m.2.2.2.2)) := by
  unfold g_sh at h
  cases h1 : Nat.blt k 1000 with
  | true =>
    rw [h1] at h
    exact Or.inl ⟨Nat.lt_of_succ_le (Nat.le_of_ble_eq_true h1), by rw [← g_sh1_eq]; exact h⟩
  | false =>
    rw [h1] at h
    have k1 : 1000 ≤ k := by
      rcases Nat.lt_or_ge k 1000 with g | g
      · exact absurd (show Nat.blt k 1000 = true from Nat.ble_eq_true_of_le g) (by rw [h1]; decide)
      · exact g
    cases h2 : Nat.blt k 2000 with
    | true =>
      rw [h2] at h
      exact Or.inr (Or.inl ⟨k - 1000, by omega, by rw [← g_sh1_eq]; exact h⟩)
    | false =>
      rw [h2] at h
      cases h3 : Nat.beq k 2000 with
      | true =>
        rw [h3] at h
        exact Or.inr (Or.inr ⟨Nat.eq_of_beq_eq_true h3, (Option.some.inj h).symm⟩)
      | false => rw [h3] at h; cases h
section CELLS
variable {X : gX} {m : gM} {H : Heap} {s : State} {k n t : Nat} {q : Nat × Nat}
/-- a cell of ours -/
theorem g_sh_own (hW : g_W X m H) (hC : g_Kc X s s.heap) (h : g_sh X.2.2.2.2.2.1.1 m k = some (t, n)) (ht : t ≤ 4) : m.2.2.2.1[k]? = some (t, n) := by
  rcases g_sh_cases h with ⟨-, h⟩ | ⟨j, -, h⟩ | ⟨-, h⟩
  · exact h
  · have h1 := hC.1 j _ h
    split at h1
    · rename_i e; simp only at e; omega
    · rename_i e; simp only at e; omega
    · rename_i e; simp only at e; omega
    · exact h1.elim
  · cases h; omega
theorem g_sh_const (hW : g_W X m H) (h : g_sh X.2.2.2.2.2.1.1 m k = some (t, n)) (ht : 5 ≤ t) (h12 : t ≠ 12) : ∃ j, k = 1000 + j ∧ X.2.2.2.2.2.1.1[j]? = some (t, n) := by
  rcases g_sh_cases h with ⟨-, h⟩ | h | ⟨-, h⟩
  · rcases hW.2.2.1 _ (List.mem_of_getElem? h) with ⟨a, -⟩ | ⟨-, a⟩ <;> simp only at a <;> omega
  · exact h
  · cases h; omega
theorem g_sh_script (hW : g_W X m H) (hC : g_Kc X s s.heap) (h : g_sh X.2.2.2.2.2.1.1 m k = some (12, n)) : k = 2000 ∧ n = X.2.2.2.2.2.2.2 := by
  rcases g_sh_cases h with ⟨-, h⟩ | ⟨j, -, h⟩ | ⟨a, h⟩
  · rcases hW.2.2.1 _ (List.mem_of_getElem? h) with ⟨a, -⟩ | ⟨-, a⟩ <;> simp only at a <;> omega
  · have h1 := hC.1 j _ h
    exact h1.elim
  · cases h; exact ⟨a, hW.2.2.2.2.2⟩
theorem g_ws_at (h : m.2.2.2.1[k]? = some q) : (g_ws X m)[k]? = some (X.2.2.1 k, g_ent X m k q) := by
  simp [g_ws, List.getElem?_mapIdx, h]
theorem g_ws_upd {m1 : gM} (h : m.2.2.2.1[k]? = some q) (hs : m1.2.2.2.1 = m.2.2.2.1) (ho : ∀ j q', j ≠ k → g_ent X m1 j q' = g_ent X m j q') : (g_ws X m).set k (X.2.2.1 k, g_ent X m1 k q) = g_ws X m1 := by
  apply List.ext_getElem?
  intro j
  rw [List.getElem?_set]
  by_cases hj : k = j
  · subst hj
    have hl : k < (g_ws X m).length := by
      have := (List.getElem?_eq_some_iff.mp h).1
      simpa [g_ws] using this
    rw [if_pos rfl, if_pos hl, g_ws_at (m := m1) (q := q) (by rw [hs]; exact h)]
  · rw [if_neg hj]
    simp only [g_ws, List.getElem?_mapIdx, hs]
    cases m.2.2.2.1[j]? with
    | none => rfl
    | some q' => simp [ho j q' (fun e => hj e.symm)]
theorem g_up_ne {α : Type} {f : Nat → Nat → α} {a i j : Nat} {x : α} (h : j ≠ a) : g_up f a i x j = f j := by
  funext z; simp [g_up, h]
theorem g_up_at {α : Type} {f : Nat → Nat → α} {a i : Nat} {x : α} : g_up f a i x a = fun z => if z = i then x else f a z := by
  funext z; simp [g_up]
theorem g_ent_off {m1 : gM} {j : Nat} {q' : Nat × Nat} (h1 : m1.1 j = m.1 j) (h2 : m1.2.1 j = m.2.1 j) (h3 : m1.2.2.1 j = m.2.2.1 j) : g_ent X m1 j q' = g_ent X m j q' := by
  have hf : ∀ i t, g_fld X m1 j i t = g_fld X m j i t := by
    intro i t
    unfold g_fld
    rw [h1, h2, h3]
  unfold g_ent
  rw [h1, h2]
  simp only [hf]
theorem g_ws_int {i : Nat} {x : Int32} (h : m.2.2.2.1[k]? = some (t, n)) (ht : t = 1 ∨ t = 3 ∨ t = 4) : (g_ws X m).set k (X.2.2.1 k, .inl (X.2.1 t, n, .inl (upd (m.1 k) i x))) = g_ws X (g_up m.1 k i x, m.2) := by
  have e : g_ent X (g_up m.1 k i x, m.2) k (t, n) = .inl (X.2.1 t, n, .inl (upd (m.1 k) i x)) := by
    rcases ht with rfl | rfl | rfl <;> (simp only [g_ent, g_up_at]; rfl)
  rw [← e]
  exact g_ws_upd h rfl (fun j q' hj => g_ent_off (g_up_ne hj) rfl rfl)
theorem g_ws_long {i : Nat} {x : Int64} (h : m.2.2.2.1[k]? = some (2, n)) : (g_ws X m).set k (X.2.2.1 k, .inl (X.2.1 2, n, .inr (.inl (vp_updL (m.2.1 k) i x)))) = g_ws X (m.1, g_up m.2.1 k i x, m.2.2) := by
  have e : g_ent X (m.1, g_up m.2.1 k i x, m.2.2) k (2, n) = .inl (X.2.1 2, n, .inr (.inl (vp_updL (m.2.1 k) i x))) := by
    simp only [g_ent, g_up_at]; rfl
  rw [← e]
  exact g_ws_upd h rfl (fun j q' hj => g_ent_off rfl (g_up_ne hj) rfl)
theorem g_ws_row {r : Nat → Int32} (h : m.2.2.2.1[k]? = some (1, n)) : (g_ws X m).set k (X.2.2.1 k, .inl (X.2.1 1, n, .inl r)) = g_ws X (g_row m.1 k r, m.2) := by
  have e1 : g_row m.1 k r k = r := by funext z; simp [g_row]
  have e : g_ent X (g_row m.1 k r, m.2) k (1, n) = .inl (X.2.1 1, n, .inl r) := by
    simp only [g_ent, e1]
  rw [← e]
  exact g_ws_upd h rfl (fun j q' hj => g_ent_off (by funext z; simp [g_row, hj]) rfl rfl)
/-- a field is written -/
theorem g_ws_fld {m1 : gM} {sl : Nat} {v : Value} (h : m.2.2.2.1[k]? = some (0, n)) (hs : m1.2.2.2.1 = m.2.2.2.1) (h1 : ∀ j, j ≠ k → m1.1 j = m.1 j ∧ m1.2.1 j = m.2.1 j ∧ m1.2.2.1 j = m.2.2.1 j)
    (h2 : ∀ i t, (g_kinds.getD n [])[i]? = some t → g_fld X m1 k i t = if i = sl then v else g_fld X m k i t) :
    (g_ws X m).set k (X.2.2.1 k, .inr (n, ((g_kinds.getD n []).mapIdx fun i t => g_fld X m k i t).set sl v)) = g_ws X m1 := by
  have e : g_ent X m1 k (0, n) = .inr (n, ((g_kinds.getD n []).mapIdx fun i t => g_fld X m k i t).set sl v) := by
    show Sum.inr (n, _) = _
    congr 2
    apply List.ext_getElem?
    intro i
    rw [List.getElem?_set]
    simp only [List.getElem?_mapIdx, List.length_mapIdx]
    cases hg : (g_kinds.getD n [])[i]? with
    | none =>
      by_cases hi : sl = i
      · subst hi
        have : ¬ sl < (g_kinds.getD n []).length := by
          have := List.getElem?_eq_none_iff.mp hg
          omega
        rw [if_pos rfl, if_neg this]; rfl
      · simp [hi]
    | some t =>
      simp only [Option.map_some, h2 i t hg]
      by_cases hi : sl = i
      · subst hi
        have := (List.getElem?_eq_some_iff.mp hg).1
        rw [if_pos rfl, if_pos this, if_pos rfl]
      · simp [hi, Ne.symm hi]
  rw [← e]
  exact g_ws_upd h hs (fun j q' hj => g_ent_off (h1 j hj).1 (h1 j hj).2.1 (h1 j hj).2.2)
end CELLS

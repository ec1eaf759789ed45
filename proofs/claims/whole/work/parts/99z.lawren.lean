/-! Cells under other numbers: the same world. -/
def yl_mp (π : Nat → Nat) : Nat → Nat
  | 0 => 0
  | j + 1 => π j + 1
section LAWREN
variable {E : yl_E} {X : gX} {d pc L0 : Nat} {L : gLs} {st : List Value} {π : Nat → Nat} {ρ1 : Nat → Nat → Nat} {v : gI} {H : Heap} {m : gM} {k : Nat} {q : Nat × Nat}
theorem yl_ws_inv {w : Nat × va_E} (h : (g_ws X m)[k]? = some w) : ∃ q, m.2.2.2.1[k]? = some q ∧ w = (X.2.2.1 k, g_ent X m k q) := by
  unfold g_ws at h
  rw [List.getElem?_mapIdx] at h
  cases hq : m.2.2.2.1[k]? with
  | none => rw [hq] at h; cases h
  | some q =>
    rw [hq] at h
    exact ⟨q, rfl, (Option.some.inj h).symm⟩
/-- numbers that may be exchanged -/
def yl_P (π : Nat → Nat) (ρ1 : Nat → Nat → Nat) : Prop := (∀ k, π (π k) = k) ∧ (∀ k, 82 ≤ k → π k = k) ∧ (∀ k, g_shp[π k]? = g_shp[k]?) ∧ ∀ k i, g_rho k i = yl_mp π (ρ1 (π k) i)
theorem yl_lt (hπ : yl_P π ρ1) (h : k < 82) : π k < 82 := by
  rcases Nat.lt_or_ge (π k) 82 with g | g
  · exact g
  · have h1 := hπ.2.1 _ g
    rw [hπ.1 k] at h1
    omega
theorem yl_entR (hπ : yl_P π ρ1) : g_ent (g_xa X fun k => X.2.2.1 (π k)) (cM L0 (rn π v, g_rho)) k q = g_ent X (cM L0 (v, ρ1)) (π k) q := by
  have hf : ∀ i t, g_fld (g_xa X fun k => X.2.2.1 (π k)) (cM L0 (rn π v, g_rho)) k i t = g_fld X (cM L0 (v, ρ1)) (π k) i t := by
    intro i t
    unfold g_fld
    split
    · rfl
    · show g_cv (fun k => X.2.2.1 (π k)) X.2.2.2.1 (g_ref (g_rho k i)) = g_cv X.2.2.1 X.2.2.2.1 (g_ref (ρ1 (π k) i))
      rw [hπ.2.2.2 k i]
      cases hz : ρ1 (π k) i with
      | zero => rfl
      | succ z =>
        show Value.ref (X.2.2.1 (π (π z))) = .ref (X.2.2.1 z)
        rw [hπ.1 z]
    · rfl
  unfold g_ent
  simp only [hf]
  rfl
theorem yl_WR (hπ : yl_P π ρ1) (hW : g_W X (cM L0 (v, ρ1)) H) : g_W (g_xa X fun k => X.2.2.1 (π k)) (cM L0 (rn π v, g_rho)) H := by
  have back : ∀ {k : Nat} {w : Nat × va_E}, (g_ws (g_xa X fun k => X.2.2.1 (π k)) (cM L0 (rn π v, g_rho)))[k]? = some w → (g_ws X (cM L0 (v, ρ1)))[π k]? = some w := fun {k w} h => by
    obtain ⟨q, h1, h2⟩ := yl_ws_inv h
    have h3 : (cM L0 (v, ρ1)).2.2.2.1[π k]? = some q := (hπ.2.2.1 k).trans h1
    rw [h2, yl_entR hπ]
    exact g_ws_at h3
  obtain ⟨w1, w2, w3, w4, w5, w6⟩ := hW
  refine ⟨fun k w hk => w1 _ w (back hk), ⟨fun i j p q hi hj hpq => ?_, fun k w hk => w2.2 _ w (back hk)⟩, w3, fun k q hk i j hj => ?_, ?_, w6⟩
  · have := w2.1 _ _ p q (back hi) (back hj) hpq
    rw [← hπ.1 i, this, hπ.1 j]
  · have hj : g_rho k i = j + 1 := hj
    rw [hπ.2.2.2 k i] at hj
    cases hz : ρ1 (π k) i with
    | zero => rw [hz] at hj; cases hj
    | succ z =>
      rw [hz] at hj
      have hj : π z + 1 = j + 1 := hj
      have h3 : (cM L0 (v, ρ1)).2.2.2.1[π k]? = some q := (hπ.2.2.1 k).trans hk
      have := w4 (π k) q h3 i z hz
      have e82 : (cM L0 (v, ρ1)).2.2.2.1.length = 82 := rfl
      have e82' : (cM L0 (rn π v, g_rho)).2.2.2.1.length = 82 := rfl
      rw [e82] at this
      rw [e82']
      rcases this with h | h
      · have := yl_lt hπ h
        omega
      · have := hπ.2.1 z (by omega)
        omega
  · have e : π 2000 = 2000 := hπ.2.1 _ (by decide)
    show (fun j : Nat => Int32.ofInt ((rn π v).1 2000 (j : Int))) = _
    have : (rn π v).1 2000 = v.1 2000 := by show v.1 (π 2000) = _; rw [e]
    rw [this]
    exact w5
theorem yl_KcR (hπ : yl_P π ρ1) {U : State} (h : g_Kc X U H) : g_Kc (g_xa X fun k => X.2.2.1 (π k)) U H :=
  g_Kc_xa (X := (X.1, X.2.1, X.2.2.1, X.2.2.2.1, X.2.2.2.2.1, (X.2.2.2.2.2.1.1, X.2.2.2.2.2.1.2.1, X.2.2.2.2.2.1.2.2.1, 1), X.2.2.2.2.2.2)) (n := 0) (ad := fun k => X.2.2.1 (π k)) ⟨fun k hk => by show X.2.2.1 (π k) = X.2.2.1 k; rw [hπ.2.1 k (by omega)], fun h0 => absurd (show (1 : Nat) = 0 from h0) (by decide)⟩ h
theorem yl_HR (hπ : yl_P π ρ1) (h : yl_H E X d) : yl_H E (g_xa X fun k => X.2.2.1 (π k)) d := by
  obtain ⟨⟨h1, h2, h3, h4, h5, h6, h7, h8⟩, hC⟩ := h
  exact ⟨⟨h1, h2, h3, h4, h5, h6, yl_KcR hπ h7, h8⟩, hC⟩
/-- from here on under other numbers -/
theorem yl_GR (hπ : yl_P π ρ1) (hL : ∀ i w, g_nth L i = some w → g_cv (fun k => X.2.2.1 (π k)) X.2.2.2.1 w = g_cv X.2.2.1 X.2.2.2.1 w) (hst : st.map (g_cv (fun k => X.2.2.1 (π k)) X.2.2.2.1) = st.map (g_cv X.2.2.1 X.2.2.2.1)) (h : yl_G E (g_xa X fun k => X.2.2.1 (π k)) pc L st (cM L0 (rn π v, g_rho))) : yl_G E X pc L st (cM L0 (v, ρ1)) := by
  intro cells slots
  obtain ⟨mc, ms, a1, a2, a3, a4, a5⟩ := h cells slots
  refine ⟨mc, ms, a1, a2, a3, a4, fun h1 h2 H locs ls kL kW kS => ?_⟩
  have := a5 h1 h2 H locs ls ⟨kL.1, kL.2.1, kL.2.2.1, fun i w hi => by
    have := kL.2.2.2 i w hi
    rw [← hL i w hi] at this
    exact this⟩ (yl_WR hπ kW) kS
  have e : st.map (g_cv (g_xa X fun k => X.2.2.1 (π k)).2.2.1 (g_xa X fun k => X.2.2.1 (π k)).2.2.2.1) = st.map (g_cv X.2.2.1 X.2.2.2.1) := hst
  rw [e] at this
  exact this
theorem yl_bnd : ∀ k : Nat, k < 90 ∨ 90 ≤ k := fun k => Nat.lt_or_ge k 90
theorem yl_shpR : ∀ k : Fin 90, g_shp[swR k.val]? = g_shp[k.val]? ∧ swR (swR k.val) = k.val ∧ g_shp[swY k.val]? = g_shp[k.val]? ∧ swY (swY k.val) = k.val := by decide +kernel
theorem yl_rhoT : ∀ k : Fin 90, (g_rho_t.getD k.val []).length ≤ 40 ∧ ∀ i : Fin 40, g_rho k.val i.val = yl_mp swR (i_rhoR (swR k.val) i.val) ∧ g_rho k.val i.val = yl_mp swY (i_rhoY (swY k.val) i.val) := by decide +kernel
theorem yl_rho0 {k i : Nat} (h : 90 ≤ k ∨ 40 ≤ i) : g_rho k i = 0 := by
  have e90 : g_rho_t.length ≤ 90 := by decide +kernel
  unfold g_rho
  by_cases g : k < 90
  · have := (yl_rhoT ⟨k, g⟩).1
    have : (g_rho_t.getD k []).length ≤ 40 := this
    rw [List.getD_eq_getElem?_getD, List.getElem?_eq_none (by omega)]
    rfl
  · have : g_rho_t.getD k [] = [] := by rw [List.getD_eq_getElem?_getD, List.getElem?_eq_none (by omega)]; rfl
    rw [this]
    rfl
theorem yl_swR : yl_P swR i_rhoR := by
  have hid : ∀ k, 82 ≤ k → swR k = k := fun k h => by unfold swR; rw [if_neg (by omega), if_neg (by omega)]
  have up : ∀ k i, (90 ≤ k ∨ 40 ≤ i) → i_rhoR (swR k) i = 0 := fun k i h => by
    have hk : 90 ≤ swR k ∨ 40 ≤ i := by
      rcases h with h | h
      · left; rw [hid k (by omega)]; exact h
      · exact Or.inr h
    unfold i_rhoR i_rhoR1 g_up
    by_cases g : swR k = 0
    · rw [if_pos g]
      rw [if_neg (by omega)]
      rw [if_neg (by decide)]
      exact yl_rho0 (by omega)
    · rw [if_neg g]
      by_cases g2 : swR k = 11
      · rw [if_pos g2, if_neg (by omega)]
        exact yl_rho0 (by omega)
      · rw [if_neg g2]
        exact yl_rho0 hk
  refine ⟨fun k => ?_, hid, fun k => ?_, fun k i => ?_⟩
  · rcases yl_bnd k with h | h
    · exact (yl_shpR ⟨k, h⟩).2.1
    · rw [hid k (by omega), hid k (by omega)]
  · rcases yl_bnd k with h | h
    · exact (yl_shpR ⟨k, h⟩).1
    · rw [hid k (by omega)]
  · by_cases h : 90 ≤ k ∨ 40 ≤ i
    · rw [yl_rho0 h, up k i h]; rfl
    · exact ((yl_rhoT ⟨k, by omega⟩).2 ⟨i, by omega⟩).1
theorem yl_swY : yl_P swY i_rhoY := by
  have hid : ∀ k, 82 ≤ k → swY k = k := fun k h => by unfold swY; rw [if_neg (by omega), if_neg (by omega)]
  have up : ∀ k i, (90 ≤ k ∨ 40 ≤ i) → i_rhoY (swY k) i = 0 := fun k i h => by
    have hk : 90 ≤ swY k ∨ 40 ≤ i := by
      rcases h with h | h
      · left; rw [hid k (by omega)]; exact h
      · exact Or.inr h
    unfold i_rhoY i_rhoY1 g_up
    by_cases g : swY k = 0
    · rw [if_pos g]
      rw [if_neg (by omega)]
      rw [if_neg (by decide)]
      exact yl_rho0 (by omega)
    · rw [if_neg g]
      by_cases g2 : swY k = 11
      · rw [if_pos g2, if_neg (by omega)]
        exact yl_rho0 (by omega)
      · rw [if_neg g2]
        exact yl_rho0 hk
  refine ⟨fun k => ?_, hid, fun k => ?_, fun k i => ?_⟩
  · rcases yl_bnd k with h | h
    · exact (yl_shpR ⟨k, h⟩).2.2.2
    · rw [hid k (by omega), hid k (by omega)]
  · rcases yl_bnd k with h | h
    · exact (yl_shpR ⟨k, h⟩).2.2.1
    · rw [hid k (by omega)]
  · by_cases h : 90 ≤ k ∨ 40 ≤ i
    · rw [yl_rho0 h, up k i h]; rfl
    · exact ((yl_rhoT ⟨k, by omega⟩).2 ⟨i, by omega⟩).2
end LAWREN

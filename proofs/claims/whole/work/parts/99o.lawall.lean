/-! Laws read whole: run ends, and ends alike; the reference's law; how high numbers pile up. -/
section LAWW
variable {N : Nat} {s t u v v1 : gI} {F G A B C T : Int → Int} {n e st lo hi c m zn br w k d l cc : Int} {r i i2 lc a b : Nat} {σ τ o L : List Int}
theorem run_mono : ∀ (r : Nat) (σ o : List Int) (br w : Int) (b : Bool) (i : Nat) (x : Int × Nat × List Int), run F n r σ o br w b i = some x → run F n (r + 1) σ o br w b i = some x
  | 0, σ, o, br, w, b, i, x, h => by cases h
  | r + 1, σ, o, br, w, true, i, x, h => by
    unfold run at h ⊢
    by_cases g : pc F n i = -1
    · rw [if_pos g] at h ⊢; exact h
    rw [if_neg g] at h ⊢
    by_cases g5 : 5 ≤ w
    · rw [if_pos g5] at h ⊢; exact h
    rw [if_neg g5] at h ⊢
    by_cases g3 : pc F n i = 10003
    · rw [if_pos g3] at h ⊢; exact run_mono r _ _ _ _ _ _ _ h
    rw [if_neg g3] at h ⊢
    by_cases g11 : pc F n i = 10011
    · rw [if_pos g11] at h ⊢; exact run_mono r _ _ _ _ _ _ _ h
    rw [if_neg g11] at h ⊢
    exact run_mono r _ _ _ _ _ _ _ h
  | r + 1, σ, o, br, w, false, i, x, h => by
    unfold run at h ⊢
    by_cases g : jc F n i = -1
    · rw [if_pos g] at h ⊢; exact h
    rw [if_neg g] at h ⊢
    by_cases g12 : jc F n i = 10012
    · rw [if_pos g12] at h ⊢
      by_cases gb : br = 0
      · rw [if_pos gb] at h ⊢; exact h
      rw [if_neg gb] at h ⊢
      exact run_mono r _ _ _ _ _ _ _ h
    rw [if_neg g12] at h ⊢
    by_cases g2 : str (jc F n i) = 2
    · rw [if_pos g2] at h ⊢
      by_cases gt : top (rlR 3 σ) = 2
      · rw [if_pos gt] at h ⊢; exact h
      rw [if_neg gt] at h ⊢
      exact run_mono r _ _ _ _ _ _ _ h
    rw [if_neg g2] at h ⊢
    exact run_mono r _ _ _ _ _ _ _ h
theorem run_le {x : Int × Nat × List Int} {b : Bool} {r2 : Nat} (h : r ≤ r2) (hr : run F n r σ o br w b i = some x) : run F n r2 σ o br w b i = some x := by
  induction h with
  | refl => exact hr
  | step _ ih => exact run_mono _ _ _ _ _ _ _ _ ih
theorem run_det {x y : Int × Nat × List Int} {b : Bool} {r2 : Nat} (h1 : run F n r σ o br w b i = some x) (h2 : run F n r2 σ o br w b i = some y) : x = y := by
  have a1 := run_le (Nat.le_max_left r r2) h1
  have a2 := run_le (Nat.le_max_right r r2) h2
  exact Option.some.inj (a1.symm.trans a2)
/-- it ends -/
theorem run_ex (hn : 0 ≤ n) : ∀ (r : Nat) (σ o : List Int) (br w : Int) (b : Bool) (i : Nat), lv F n i → n + 2 ≤ r + i → ∃ x, run F n r σ o br w b i = some x
  | 0, σ, o, br, w, b, i, hv, hr => by
    have := lv_mx hn hv
    omega
  | r + 1, σ, o, br, w, true, i, hv, hr => by
    unfold run
    by_cases g : pc F n i = -1
    · rw [if_pos g]; exact ⟨_, rfl⟩
    rw [if_neg g]
    have hv2 := lv_s hv (pc_rg g).1
    by_cases g5 : 5 ≤ w
    · rw [if_pos g5]; exact ⟨_, rfl⟩
    rw [if_neg g5]
    by_cases g3 : pc F n i = 10003
    · rw [if_pos g3]; exact run_ex hn r _ _ _ _ _ _ hv2 (by omega)
    rw [if_neg g3]
    by_cases g11 : pc F n i = 10011
    · rw [if_pos g11]; exact run_ex hn r _ _ _ _ _ _ hv2 (by omega)
    rw [if_neg g11]
    exact run_ex hn r _ _ _ _ _ _ hv2 (by omega)
  | r + 1, σ, o, br, w, false, i, hv, hr => by
    unfold run
    by_cases g : jc F n i = -1
    · rw [if_pos g]
      by_cases gb : br = 0
      · rw [if_pos gb]; exact ⟨_, rfl⟩
      · rw [if_neg gb]; exact ⟨_, rfl⟩
    rw [if_neg g]
    have hv2 := lv_s hv (jc_rg g).1
    by_cases g12 : jc F n i = 10012
    · rw [if_pos g12]
      by_cases gb : br = 0
      · rw [if_pos gb]; exact ⟨_, rfl⟩
      rw [if_neg gb]
      exact run_ex hn r _ _ _ _ _ _ hv2 (by omega)
    rw [if_neg g12]
    by_cases g2 : str (jc F n i) = 2
    · rw [if_pos g2]
      by_cases gt : top (rlR 3 σ) = 2
      · rw [if_pos gt]; exact ⟨_, rfl⟩
      rw [if_neg gt]
      exact run_ex hn r _ _ _ _ _ _ hv2 (by omega)
    rw [if_neg g2]
    exact run_ex hn r _ _ _ _ _ _ hv2 (by omega)
/-- the law of the reference, its end told -/
theorem m_lawRun (hN : 5000 ≤ N) (hT : tpF F n) (hm : mAt F n i t) (hc : t.1 63 15 = c) (c0 : 0 ≤ c) (ci : c + 1 ≤ i) {z : Int} {j : Nat} {o2 : List Int} (hr : run F n r [] [] 0 0 true i = some (z, j, o2)) :
    ∃ v, (i_o1 (f208 N (f212 N 7) 0 t) fun s6 => i_o1 (f207 N 0 0 s6) fun s7 => some s7) = some v ∧ frK c t v ∧ 0 ≤ v.1 63 15 ∧
      ((z = 0 ∧ mAt F n j v ∧ v.1 63 15 = c + (o2.length : Int) + 1 ∧ i ≤ j ∧ c + (o2.length : Int) + 1 ≤ j ∧ stq v c o2 ∧ v.1 72 (1100 + c + (o2.length : Int)) = 0 ∧ wl 64 o2 0 1) ∨
       (0 < z ∧ (mBad z v ∨ ∃ j2, mAt F n j2 v ∧ z = 1 + 16 * tP F n j2 ∧ ¬ isS F n (tP F n j2) 59))) := by
  have i1 := (mAt_i hT hm).1
  obtain ⟨v1, a1, a2, a3⟩ := m_law1 (N := N) hN hT t i c hm hc c0 (by omega)
  rw [a1, i_o1_some]
  rcases a3 with ⟨i2, L, h1, h2, h3, h4, h5, h6, h7, h8⟩ | ⟨z2, h1, h2, h3, h4⟩
  · have i3 := (mAt_i hT h1).1
    have rg := tP_rg (F := F) hT.1.1 i2
    obtain ⟨τ, o3, g1, g2, g3, g4⟩ := h8 [] [] 0 (by show (0 : Int) < 1; decide)
    obtain ⟨k, g1⟩ := g1
    obtain ⟨v, b1, b2, b3, b4, b5, b6, b7⟩ := m_emit (N := N) (s := v1) (x := 0) (y := 0) h2 (by omega) (by omega)
    rw [b1, i_o1_some]
    have hv := mAt_K h1 b2 b4 b5
    have fr : frK c t v := a2.tr b2 (by omega)
    refine ⟨v, rfl, fr, by omega, ?_⟩
    by_cases gj : jc F n i2 = -1
    · have e := g1 1
      have e1 : run F n 1 (τ ++ []) o3 ((0 : Nat) : Int) 0 false i2 = some (0, i2, o3 ++ rlP 1 (τ ++ [])) := by
        unfold run
        rw [if_pos gj, if_pos (show ((0 : Nat) : Int) = 0 from rfl)]
      rw [e1] at e
      have e2 := run_det e hr
      have ep := (rl_all (τ := τ) (σ := []) (k := 1) g3 (by show (0 : Int) < 1; decide)).2
      rw [ep, g2] at e2
      have z0 : 0 = z := congrArg (·.1) e2
      have z1 : i2 = j := congrArg (·.2.1) e2
      have z2 : [] ++ L = o2 := congrArg (·.2.2) e2
      rw [List.nil_append] at z2
      subst z0 z1 z2
      exact Or.inl ⟨rfl, hv, by omega, by omega, by omega, stq_fr h5 b2 (Int.le_refl _), by rw [Int.add_assoc]; exact b6, h6 0 64 (by decide) (by decide)⟩
    · obtain ⟨k2, j2, o4, e3⟩ := bd_end (F := F) (n := n) (o := o3) (br := ((0 : Nat) : Int)) (w := 0) h7 g4 (Or.inr ⟨rfl, gj⟩)
      have e4 := e3 0
      have e5 := g1 (0 + k2)
      rw [e4] at e5
      have e2 := run_det e5 hr
      have z0 : 1 + 16 * tP F n i2 = z := congrArg (·.1) e2
      refine Or.inr ⟨by omega, Or.inr ⟨i2, hv, z0.symm, fun q => gj ?_⟩⟩
      rw [jc_S q]
      rfl
  · obtain ⟨v, b1, b2, b3, b4, b5, -, -⟩ := m_emit (N := N) (s := v1) (x := 0) (y := 0) (c := v1.1 63 15) rfl (by omega) (by omega)
    rw [b1, i_o1_some]
    refine ⟨v, rfl, a2.tr b2 h2, by omega, Or.inr ?_⟩
    obtain ⟨k, j2, o3, e1⟩ := h4 [] [] 0 (by show (0 : Int) < 1; decide)
    have e2 := run_det (e1 0) hr
    have z0 : z2 = z := congrArg (·.1) e2
    subst z0
    exact ⟨h1.2.1, Or.inl (h1.of b4 b5)⟩
/-- what is told pile by pile holds for the class' row of codes -/
theorem wl_dep {f : Int → Int} : ∀ (L : List Int) (k : Nat) (b2 : Int), wl 64 L (depC f k) b2 → (∀ j : Nat, j < L.length → f ((k + j : Nat) : Int) = L.getD j 0) → (∀ i : Nat, k ≤ i → i < k + L.length → (f i < 10003 → depC f i < 64) ∧ (f i = 10003 → 1 ≤ depC f i) ∧ (10003 < f i → 2 ≤ depC f i)) ∧ depC f (k + L.length) = b2
  | [], k, b2, h, _ => ⟨fun i h1 h2 => by have h2 : i < k + 0 := h2; omega, (show b2 = depC f k from h).symm⟩
  | c :: L, k, b2, h, hf => by
    have fk : f (k : Int) = c := hf 0 (by show 0 < L.length + 1; omega)
    have h : (if c < 10003 then depC f k < 64 ∧ wl 64 L (depC f k + 1) b2 else if c = 10003 then 1 ≤ depC f k ∧ wl 64 L (depC f k) b2 else 2 ≤ depC f k ∧ wl 64 L (depC f k - 1) b2) := h
    have e : depC f (k + 1) = if f (k : Int) < 10003 then depC f k + 1 else if f (k : Int) = 10003 then depC f k else depC f k - 1 := rfl
    have hf2 : ∀ j : Nat, j < L.length → f ((k + 1 + j : Nat) : Int) = L.getD j 0 := fun j hj => by
      have := hf (j + 1) (by show j + 1 < L.length + 1; omega)
      rw [show k + 1 + j = k + (j + 1) by omega]
      exact this
    have go : wl 64 L (depC f (k + 1)) b2 → ((f (k : Int) < 10003 → depC f k < 64) ∧ (f (k : Int) = 10003 → 1 ≤ depC f k) ∧ (10003 < f (k : Int) → 2 ≤ depC f k)) → (∀ i : Nat, k ≤ i → i < k + (c :: L).length → (f i < 10003 → depC f i < 64) ∧ (f i = 10003 → 1 ≤ depC f i) ∧ (10003 < f i → 2 ≤ depC f i)) ∧ depC f (k + (c :: L).length) = b2 := fun g1 g2 => by
      obtain ⟨i1, i2⟩ := wl_dep L (k + 1) b2 g1 hf2
      refine ⟨fun i h1 h2 => ?_, ?_⟩
      · have h2 : i < k + (L.length + 1) := h2
        by_cases q : i = k
        · subst q; exact g2
        · exact i1 i (by omega) (by omega)
      · show depC f (k + (L.length + 1)) = b2
        rw [show k + (L.length + 1) = k + 1 + L.length by omega]
        exact i2
    rw [fk] at e
    by_cases g : c < 10003
    · rw [if_pos g] at h e
      exact go (by rw [e]; exact h.2) (by rw [fk]; exact ⟨fun _ => h.1, fun q => by omega, fun q => by omega⟩)
    · rw [if_neg g] at h e
      by_cases g2 : c = 10003
      · rw [if_pos g2] at h e
        exact go (by rw [e]; exact h.2) (by rw [fk]; exact ⟨fun q => by omega, fun _ => h.1, fun q => by omega⟩)
      · rw [if_neg g2] at h e
        exact go (by rw [e]; exact h.2) (by rw [fk]; exact ⟨fun q => by omega, fun q => absurd q g2, fun _ => h.1⟩)
theorem wfC_of {f : Int → Int} (h : wl 64 L 0 1) (hf : oto f L) : wfC f L.length := by
  obtain ⟨a1, a2⟩ := wl_dep (f := f) L 0 1 h (fun j hj => by rw [show 0 + j = j by omega]; exact hf j hj)
  rw [Nat.zero_add] at a1 a2
  exact ⟨fun i hi => a1 i (by omega) hi, by rw [a2]; decide⟩
end LAWW

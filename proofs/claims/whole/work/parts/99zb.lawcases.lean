/-! The law's other calls without a FAULT of the machine: feed, mark, roof, yard; its loop's head and foot. (Partly written by a program of mine.) -/
section LAWCASES2
variable {E : yl_E} {X : gX} {L0 : Nat} {s : gI} {k : Int} {i : Int32} {u5 u6 : Option Value}
/-- what isn't a cell of ours -/
def yl_u (u : Option Value) : Prop := ∀ w, u = some w → ∃ z, w = .int z
/-- two numbers of the script as one -/
def yl_lg (a b : Int32) : Int64 := (a.toInt64 <<< ((Int32.ofNat 32).toInt64 &&& 63)) ||| (b.toInt64 &&& Int64.ofNat 4294967295)
theorem yl_nthL {u5 u6 : Option Value} {π : Nat → Nat} {ρ1 : Nat → Nat → Nat} (hπ : yl_P π ρ1) (h0 : π 0 = 0) (h63 : π 63 = 63) (h81 : π 81 = 81) (h5 : yl_u u5) (h6 : yl_u u6) : ∀ j w, g_nth (yl_L i u5 u6) j = some w → g_cv (fun k => X.2.2.1 (π k)) X.2.2.2.1 w = g_cv X.2.2.1 X.2.2.2.1 w := by
  intro j w h
  have e2000 : π 2000 = 2000 := hπ.2.1 _ (by decide)
  match j with
  | 0 => cases h; show Value.ref (X.2.2.1 (π 2000)) = _; rw [e2000]; rfl
  | 1 => cases h; show Value.ref (X.2.2.1 (π 0)) = _; rw [h0]; rfl
  | 2 => cases h; show Value.ref (X.2.2.1 (π 63)) = _; rw [h63]; rfl
  | 3 => cases h; show Value.ref (X.2.2.1 (π 81)) = _; rw [h81]; rfl
  | 4 => cases h; rfl
  | 5 => obtain ⟨z, rfl⟩ := h5 w h; rfl
  | 6 => obtain ⟨z, rfl⟩ := h6 w h; rfl
  | j + 7 => cases h
theorem yl_KR {cur : List gCE} {st : List Value} {π : Nat → Nat} {ρ1 : Nat → Nat → Nat} {v : gI} (hπ : yl_P π ρ1) (h0 : π 0 = 0) (h63 : π 63 = 63) (h81 : π 81 = 81) (h5 : yl_u u5) (h6 : yl_u u6) (hst : st.map (g_cv (fun k => X.2.2.1 (π k)) X.2.2.2.1) = st.map (g_cv X.2.2.1 X.2.2.2.1)) (h : yl_K E (g_xa X fun k => X.2.2.1 (π k)) cur (yl_L i u5 u6) st (cM L0 (rn π v, g_rho))) : yl_K E X cur (yl_L i u5 u6) st (cM L0 (v, ρ1)) := fun hok => yl_GR hπ (yl_nthL hπ h0 h63 h81 h5 h6) hst (h hok)
theorem yl_c180 {s1 s2 : gI} {x : Int32} (H : yl_H E X 100) (hx : (cM L0 (s, g_rho)).1 2000 = X.2.2.2.2.2.2.1) (hi : yl_in L0 i)
    (hA : g_Con X g_T E.2.1 100 134 [.ref 0, .long (yl_lg (yl_s X i 1) (yl_s X i 2)), .long (yl_lg (yl_s X i 3) (yl_s X i 4)), .long (yl_lg (yl_s X i 5) (yl_s X i 6))] (cM L0 (s, g_rho)) (some (.int x), cM L0 (s1, g_rho))) (hB : g_Con X g_T E.2.1 100 174 [.ref 63, .long (yl_lg (yl_s X i 1) (yl_s X i 2)), .long (yl_lg (yl_s X i 3) (yl_s X i 4)), .long (yl_lg (yl_s X i 5) (yl_s X i 6))] (cM L0 (s1, g_rho)) (some (.int x), cM L0 (s2, g_rho)))
    (hend : yl_G E X 1498 (yl_L i u5 u6) [] (cM L0 (s2, g_rho))) : yl_K E X k327_180 (yl_L i u5 u6) [] (cM L0 (s, g_rho)) := by
  refine yl_row H (fun k => rfl) ?_
  refine yl_arg (kk := Int32.ofNat 1) H hx rfl (fun k st => rfl) (hi 1 (by decide)) ?_
  refine yl_row H (fun k => rfl) ?_
  refine yl_row H (fun k => rfl) ?_
  refine yl_row H (fun k => rfl) ?_
  refine yl_arg (kk := Int32.ofNat 2) H hx rfl (fun k st => rfl) (hi 2 (by decide)) ?_
  refine yl_row H (fun k => rfl) ?_
  refine yl_row H (fun k => rfl) ?_
  refine yl_row H (fun k => rfl) ?_
  refine yl_row H (fun k => rfl) ?_
  refine yl_arg (kk := Int32.ofNat 3) H hx rfl (fun k st => rfl) (hi 3 (by decide)) ?_
  refine yl_row H (fun k => rfl) ?_
  refine yl_row H (fun k => rfl) ?_
  refine yl_row H (fun k => rfl) ?_
  refine yl_arg (kk := Int32.ofNat 4) H hx rfl (fun k st => rfl) (hi 4 (by decide)) ?_
  refine yl_row H (fun k => rfl) ?_
  refine yl_row H (fun k => rfl) ?_
  refine yl_row H (fun k => rfl) ?_
  refine yl_row H (fun k => rfl) ?_
  refine yl_arg (kk := Int32.ofNat 5) H hx rfl (fun k st => rfl) (hi 5 (by decide)) ?_
  refine yl_row H (fun k => rfl) ?_
  refine yl_row H (fun k => rfl) ?_
  refine yl_row H (fun k => rfl) ?_
  refine yl_arg (kk := Int32.ofNat 6) H hx rfl (fun k st => rfl) (hi 6 (by decide)) ?_
  refine yl_row H (fun k => rfl) ?_
  refine yl_row H (fun k => rfl) ?_
  refine yl_row H (fun k => rfl) ?_
  refine yl_row H (fun k => rfl) ?_
  refine yl_call H g_T_ok rfl rfl rfl rfl hA rfl ?_
  refine yl_scrK rfl (fun hx1 => ?_)
  refine yl_row H (fun k => rfl) ?_
  refine yl_arg (kk := Int32.ofNat 1) H hx1 rfl (fun k st => rfl) (hi 1 (by decide)) ?_
  refine yl_row H (fun k => rfl) ?_
  refine yl_row H (fun k => rfl) ?_
  refine yl_row H (fun k => rfl) ?_
  refine yl_arg (kk := Int32.ofNat 2) H hx1 rfl (fun k st => rfl) (hi 2 (by decide)) ?_
  refine yl_row H (fun k => rfl) ?_
  refine yl_row H (fun k => rfl) ?_
  refine yl_row H (fun k => rfl) ?_
  refine yl_row H (fun k => rfl) ?_
  refine yl_arg (kk := Int32.ofNat 3) H hx1 rfl (fun k st => rfl) (hi 3 (by decide)) ?_
  refine yl_row H (fun k => rfl) ?_
  refine yl_row H (fun k => rfl) ?_
  refine yl_row H (fun k => rfl) ?_
  refine yl_arg (kk := Int32.ofNat 4) H hx1 rfl (fun k st => rfl) (hi 4 (by decide)) ?_
  refine yl_row H (fun k => rfl) ?_
  refine yl_row H (fun k => rfl) ?_
  refine yl_row H (fun k => rfl) ?_
  refine yl_row H (fun k => rfl) ?_
  refine yl_arg (kk := Int32.ofNat 5) H hx1 rfl (fun k st => rfl) (hi 5 (by decide)) ?_
  refine yl_row H (fun k => rfl) ?_
  refine yl_row H (fun k => rfl) ?_
  refine yl_row H (fun k => rfl) ?_
  refine yl_arg (kk := Int32.ofNat 6) H hx1 rfl (fun k st => rfl) (hi 6 (by decide)) ?_
  refine yl_row H (fun k => rfl) ?_
  refine yl_row H (fun k => rfl) ?_
  refine yl_row H (fun k => rfl) ?_
  refine yl_row H (fun k => rfl) ?_
  refine yl_call H g_T_ok rfl rfl rfl rfl hB rfl ?_
  exact yl_jmp H (fun k => if_pos rfl) hend
theorem yl_d180 (H : yl_H E X 100) (hx : (cM L0 (s, g_rho)).1 2000 = X.2.2.2.2.2.2.1) (hi : yl_in L0 i) (hM : okM (s, g_rho)) (hI : INV k s) (hend : ∀ s2, INV (k + 1) s2 → okM (s2, g_rho) → yl_G E X 1498 (yl_L i u5 u6) [] (cM L0 (s2, g_rho))) : yl_K E X k327_180 (yl_L i u5 u6) [] (cM L0 (s, g_rho)) := by
  obtain ⟨x, s1, s2, h1, h2, h3⟩ := q_feed (y1 := (yl_lg (yl_s X i 1) (yl_s X i 2)).toInt) (y2 := (yl_lg (yl_s X i 3) (yl_s X i 4)).toInt) (y3 := (yl_lg (yl_s X i 5) (yl_s X i 6)).toInt) (N := 5000) (by decide) hI
  obtain ⟨cA, m1⟩ := yl_conI (L0 := L0) (A := 134) H (f134_0_ok L0 5000 98 _ _ _ s h1) (okS_cons trivial (okS_cons (rgl_to _) (okS_cons (rgl_to _) (okS_cons (rgl_to _) okS_nil)))) hM
  obtain ⟨cB, m2⟩ := yl_conI (L0 := L0) (A := 174) H (f174_63_ok L0 5000 98 _ _ _ s1 h2) (okS_cons trivial (okS_cons (rgl_to _) (okS_cons (rgl_to _) (okS_cons (rgl_to _) okS_nil)))) m1
  have cA : g_Con X g_T E.2.1 100 134 [.ref 0, .long (Int64.ofInt (yl_lg (yl_s X i 1) (yl_s X i 2)).toInt), .long (Int64.ofInt (yl_lg (yl_s X i 3) (yl_s X i 4)).toInt), .long (Int64.ofInt (yl_lg (yl_s X i 5) (yl_s X i 6)).toInt)] (cM L0 (s, g_rho)) (some (.int (Int32.ofInt x)), cM L0 (s1, g_rho)) := cA
  have cB : g_Con X g_T E.2.1 100 174 [.ref 63, .long (Int64.ofInt (yl_lg (yl_s X i 1) (yl_s X i 2)).toInt), .long (Int64.ofInt (yl_lg (yl_s X i 3) (yl_s X i 4)).toInt), .long (Int64.ofInt (yl_lg (yl_s X i 5) (yl_s X i 6)).toInt)] (cM L0 (s1, g_rho)) (some (.int (Int32.ofInt x)), cM L0 (s2, g_rho)) := cB
  simp only [Int64.ofInt_toInt] at cA cB
  exact yl_c180 H hx hi cA cB (hend s2 h3 m2)
/-- mark: the second number told as yes or no -/
theorem yl_c1420 {s1 s2 : gI} {x y : Int32} (H : yl_H E X 100) (hx : (cM L0 (s, g_rho)).1 2000 = X.2.2.2.2.2.2.1) (hi : yl_in L0 i) (hy : y = if yl_s X i 2 = 0 then 0 else 1)
    (hA : g_Con X g_T E.2.1 100 163 [.ref 0, .int (yl_s X i 1), .int y] (cM L0 (s, g_rho)) (some (.int x), cM L0 (s1, g_rho))) (hB : g_Con X g_T E.2.1 100 291 [.ref 63, .int (yl_s X i 1), .int y] (cM L0 (s1, g_rho)) (some (.int x), cM L0 (s2, g_rho)))
    (hend : yl_G E X 1498 (yl_L i u5 u6) [] (cM L0 (s2, g_rho))) : yl_K E X k327_1420 (yl_L i u5 u6) [] (cM L0 (s, g_rho)) := by
  have fin : yl_G E X 1465 (yl_L i u5 u6) [.int y, .int (yl_s X i 1), .ref 63, .int x] (cM L0 (s1, g_rho)) := by
    refine yl_at gl_1465 ?_
    refine yl_call H g_T_ok rfl rfl rfl rfl hB rfl ?_
    exact yl_jmp H (fun k => if_pos rfl) hend
  have mid : yl_G E X 1441 (yl_L i u5 u6) [.int y, .int (yl_s X i 1), .ref 0] (cM L0 (s, g_rho)) := by
    refine yl_at gl_1441 ?_
    refine yl_call H g_T_ok rfl rfl rfl rfl hA rfl ?_
    refine yl_scrK rfl (fun hx1 => ?_)
    refine yl_row H (fun k => rfl) ?_
    refine yl_arg (kk := Int32.ofNat 1) H hx1 rfl (fun k st => rfl) (hi 1 (by decide)) ?_
    refine yl_arg (kk := Int32.ofNat 2) H hx1 rfl (fun k st => rfl) (hi 2 (by decide)) ?_
    by_cases z : yl_s X i 2 = 0
    · rw [if_pos z] at hy
      subst hy
      refine yl_jmp H (fun k => if_pos z) ?_
      refine yl_at gl_1464 ?_
      refine yl_row H (fun k => rfl) ?_
      exact fun _ => fin
    · rw [if_neg z] at hy
      subst hy
      refine yl_row H (fun k => if_neg z) ?_
      refine yl_row H (fun k => rfl) ?_
      exact yl_jmp H (fun k => rfl) fin
  refine yl_row H (fun k => rfl) ?_
  refine yl_arg (kk := Int32.ofNat 1) H hx rfl (fun k st => rfl) (hi 1 (by decide)) ?_
  refine yl_arg (kk := Int32.ofNat 2) H hx rfl (fun k st => rfl) (hi 2 (by decide)) ?_
  by_cases z : yl_s X i 2 = 0
  · rw [if_pos z] at hy
    subst hy
    refine yl_jmp H (fun k => if_pos z) ?_
    refine yl_at gl_1440 ?_
    refine yl_row H (fun k => rfl) ?_
    exact fun _ => mid
  · rw [if_neg z] at hy
    subst hy
    refine yl_row H (fun k => if_neg z) ?_
    refine yl_row H (fun k => rfl) ?_
    exact yl_jmp H (fun k => rfl) mid
theorem yl_d1420 (H : yl_H E X 100) (hx : (cM L0 (s, g_rho)).1 2000 = X.2.2.2.2.2.2.1) (hi : yl_in L0 i) (hM : okM (s, g_rho)) (hI : INV k s) (hend : ∀ s2, INV (k + 1) s2 → okM (s2, g_rho) → yl_G E X 1498 (yl_L i u5 u6) [] (cM L0 (s2, g_rho))) : yl_K E X k327_1420 (yl_L i u5 u6) [] (cM L0 (s, g_rho)) := by
  obtain ⟨x, s1, s2, h1, h2, h3⟩ := q_mark (n := (yl_s X i 1).toInt) (x := (if yl_s X i 2 = 0 then (0 : Int32) else 1).toInt) (N := 5000) (by decide) hI
  obtain ⟨cA, m1⟩ := yl_conI (L0 := L0) (A := 163) H (f163_0_ok L0 5000 96 _ _ s h1) (okS_cons trivial (okS_cons (yl_rg _) (okS_cons (yl_rg _) okS_nil))) hM
  obtain ⟨cB, m2⟩ := yl_conI (L0 := L0) (A := 291) H (f291_63_ok L0 5000 98 _ _ s1 h2) (okS_cons trivial (okS_cons (yl_rg _) (okS_cons (yl_rg _) okS_nil))) m1
  have cA : g_Con X g_T E.2.1 100 163 [.ref 0, .int (Int32.ofInt (yl_s X i 1).toInt), .int (Int32.ofInt (if yl_s X i 2 = 0 then (0 : Int32) else 1).toInt)] (cM L0 (s, g_rho)) (some (.int (Int32.ofInt x)), cM L0 (s1, g_rho)) := cA
  have cB : g_Con X g_T E.2.1 100 291 [.ref 63, .int (Int32.ofInt (yl_s X i 1).toInt), .int (Int32.ofInt (if yl_s X i 2 = 0 then (0 : Int32) else 1).toInt)] (cM L0 (s1, g_rho)) (some (.int (Int32.ofInt x)), cM L0 (s2, g_rho)) := cB
  simp only [Int32.ofInt_toInt] at cA cB
  exact yl_c1420 H hx hi rfl cA cB (hend s2 h3 m2)
theorem yl_okR {π : Nat → Nat} {v : gI} {ρ1 : Nat → Nat → Nat} (h : okM (v, ρ1)) : okM (rn π v, g_rho) := ⟨fun a j => h.1 (π a) j, fun a j => h.2 (π a) j⟩
/-- the class' memory under other numbers, the reference asked then -/
theorem yl_c327 {s1 s2 : gI} {x : Int32} {ρ : Nat → Nat → Nat} (H : yl_H E X 100) (h5 : yl_u u5) (h6 : yl_u u6)
    (hA : g_Con X g_T E.2.1 100 135 [.ref 0] (cM L0 (s, g_rho)) (some (.int x), cM L0 (s1, ρ)))
    (hB : (ρ = g_rho ∧ g_Con X g_T E.2.1 100 195 [.ref 63] (cM L0 (s1, g_rho)) (some (.int x), cM L0 (s2, g_rho)) ∧ yl_G E X 1498 (yl_L i u5 u6) [] (cM L0 (s2, g_rho))) ∨
      (ρ = i_rhoR ∧ yl_H E (g_xa X fun k => X.2.2.1 (swR k)) 100 ∧ g_Con (g_xa X fun k => X.2.2.1 (swR k)) g_T E.2.1 100 195 [.ref 63] (cM L0 (rn swR s1, g_rho)) (some (.int x), cM L0 (s2, g_rho)) ∧ yl_G E (g_xa X fun k => X.2.2.1 (swR k)) 1498 (yl_L i u5 u6) [] (cM L0 (s2, g_rho)))) : yl_K E X k327_327 (yl_L i u5 u6) [] (cM L0 (s, g_rho)) := by
  refine yl_row H (fun k => rfl) ?_
  refine yl_call H g_T_ok rfl rfl rfl rfl hA rfl ?_
  rcases hB with ⟨e, hB, hend⟩ | ⟨e, H2, hB, hend⟩
  · subst e
    refine yl_row H (fun k => rfl) ?_
    refine yl_call H g_T_ok rfl rfl rfl rfl hB rfl ?_
    exact yl_jmp H (fun k => if_pos rfl) hend
  · subst e
    refine yl_KR yl_swR rfl rfl rfl h5 h6 rfl ?_
    refine yl_row H2 (fun k => rfl) ?_
    refine yl_call H2 g_T_ok rfl rfl rfl rfl hB rfl ?_
    exact yl_jmp H2 (fun k => if_pos rfl) hend
theorem yl_d327 (H : yl_H E X 100) (h5 : yl_u u5) (h6 : yl_u u6) (hM : okM (s, g_rho)) (hk : 0 ≤ k) (hI : INV k s) (hend : ∀ X2 s2, yl_H E X2 100 → X2.2.2.2.2 = X.2.2.2.2 → INV (k + 1) s2 → okM (s2, g_rho) → yl_G E X2 1498 (yl_L i u5 u6) [] (cM L0 (s2, g_rho))) : yl_K E X k327_327 (yl_L i u5 u6) [] (cM L0 (s, g_rho)) := by
  obtain ⟨x, s1, ρ, s2, h1, h2, h3⟩ := q_roof (N := 5000) (by decide) hk hI
  obtain ⟨cA, m1⟩ := yl_conI (L0 := L0) (A := 135) H (f135_0_ok L0 5000 92 s h1) (okS_cons trivial okS_nil) hM
  refine yl_c327 (x := Int32.ofInt x) (s1 := s1) (s2 := s2) (ρ := ρ) H h5 h6 cA ?_
  rcases h2 with ⟨e, h2⟩ | ⟨e, h2⟩
  · subst e
    obtain ⟨cB, m2⟩ := yl_conI (L0 := L0) (A := 195) H (f195_63_ok L0 5000 96 s1 h2) (okS_cons trivial okS_nil) m1
    exact Or.inl ⟨rfl, cB, hend X s2 H rfl h3 m2⟩
  · subst e
    have H2 := yl_HR yl_swR H
    obtain ⟨cB, m2⟩ := yl_conI (L0 := L0) (A := 195) H2 (f195_63_ok L0 5000 96 _ h2) (okS_cons trivial okS_nil) (yl_okR m1)
    exact Or.inr ⟨rfl, H2, cB, hend _ s2 H2 rfl h3 m2⟩
theorem yl_c340 {s1 s2 : gI} {x : Int32} {ρ : Nat → Nat → Nat} (H : yl_H E X 100) (h5 : yl_u u5) (h6 : yl_u u6)
    (hA : g_Con X g_T E.2.1 100 136 [.ref 0] (cM L0 (s, g_rho)) (some (.int x), cM L0 (s1, ρ)))
    (hB : (ρ = g_rho ∧ g_Con X g_T E.2.1 100 199 [.ref 63] (cM L0 (s1, g_rho)) (some (.int x), cM L0 (s2, g_rho)) ∧ yl_G E X 1498 (yl_L i u5 u6) [] (cM L0 (s2, g_rho))) ∨
      (ρ = i_rhoY ∧ yl_H E (g_xa X fun k => X.2.2.1 (swY k)) 100 ∧ g_Con (g_xa X fun k => X.2.2.1 (swY k)) g_T E.2.1 100 199 [.ref 63] (cM L0 (rn swY s1, g_rho)) (some (.int x), cM L0 (s2, g_rho)) ∧ yl_G E (g_xa X fun k => X.2.2.1 (swY k)) 1498 (yl_L i u5 u6) [] (cM L0 (s2, g_rho)))) : yl_K E X k327_340 (yl_L i u5 u6) [] (cM L0 (s, g_rho)) := by
  refine yl_row H (fun k => rfl) ?_
  refine yl_call H g_T_ok rfl rfl rfl rfl hA rfl ?_
  rcases hB with ⟨e, hB, hend⟩ | ⟨e, H2, hB, hend⟩
  · subst e
    refine yl_row H (fun k => rfl) ?_
    refine yl_call H g_T_ok rfl rfl rfl rfl hB rfl ?_
    exact yl_jmp H (fun k => if_pos rfl) hend
  · subst e
    refine yl_KR yl_swY rfl rfl rfl h5 h6 rfl ?_
    refine yl_row H2 (fun k => rfl) ?_
    refine yl_call H2 g_T_ok rfl rfl rfl rfl hB rfl ?_
    exact yl_jmp H2 (fun k => if_pos rfl) hend
theorem yl_d340 (H : yl_H E X 100) (h5 : yl_u u5) (h6 : yl_u u6) (hM : okM (s, g_rho)) (hk : 0 ≤ k) (hI : INV k s) (hend : ∀ X2 s2, yl_H E X2 100 → X2.2.2.2.2 = X.2.2.2.2 → INV (k + 1) s2 → okM (s2, g_rho) → yl_G E X2 1498 (yl_L i u5 u6) [] (cM L0 (s2, g_rho))) : yl_K E X k327_340 (yl_L i u5 u6) [] (cM L0 (s, g_rho)) := by
  obtain ⟨x, s1, ρ, s2, h1, h2, h3⟩ := q_yard (N := 5000) (by decide) hk hI
  obtain ⟨cA, m1⟩ := yl_conI (L0 := L0) (A := 136) H (f136_0_ok L0 5000 89 s h1) (okS_cons trivial okS_nil) hM
  refine yl_c340 (x := Int32.ofInt x) (s1 := s1) (s2 := s2) (ρ := ρ) H h5 h6 cA ?_
  rcases h2 with ⟨e, h2⟩ | ⟨e, h2⟩
  · subst e
    obtain ⟨cB, m2⟩ := yl_conI (L0 := L0) (A := 199) H (f199_63_ok L0 5000 48 s1 h2) (okS_cons trivial okS_nil) m1
    exact Or.inl ⟨rfl, cB, hend X s2 H rfl h3 m2⟩
  · subst e
    have H2 := yl_HR yl_swY H
    obtain ⟨cB, m2⟩ := yl_conI (L0 := L0) (A := 199) H2 (f199_63_ok L0 5000 48 _ h2) (okS_cons trivial okS_nil) (yl_okR m1)
    exact Or.inr ⟨rfl, H2, cB, hend _ s2 H2 rfl h3 m2⟩
/-- the loop's foot -/
theorem yl_foot {st : List Value} {m : gM} (H : yl_H E X 100) (h : yl_G E X 23 (yl_L (i + Int32.ofNat 7) u5 u6) [] m) : yl_G E X 1498 (yl_L i u5 u6) [] m := by
  refine yl_at gl_1498 ?_
  refine yl_row H (fun k => rfl) ?_
  exact yl_jmp H (fun k => rfl) h
/-- .. and head, where a row of seven is there -/
def yl_tg : List Nat := [180, 327, 340, 353, 402, 439, 464, 537, 562, 575, 600, 625, 650, 663, 700, 773, 865, 921, 946, 983, 1020, 1045, 1101, 1138, 1211, 1236, 1273, 1310, 1371, 1420, 1473, 1498]
theorem yl_z31 : ∀ z : Int32, ∃ n : Fin 32, z &&& Int32.ofNat 31 = Int32.ofNat n.val := by
  intro z
  have h1 : (z &&& Int32.ofNat 31).toBitVec = z.toBitVec &&& 31#32 := rfl
  have h2 : (z.toBitVec &&& 31#32).toNat < 32 := by
    rw [BitVec.toNat_and]
    have : z.toBitVec.toNat &&& (31#32).toNat ≤ (31#32).toNat := Nat.and_le_right
    have e : (31#32).toNat = 31 := rfl
    omega
  refine ⟨⟨(z.toBitVec &&& 31#32).toNat, h2⟩, ?_⟩
  apply Int32.toBitVec_inj.mp
  show (z &&& Int32.ofNat 31).toBitVec = BitVec.ofNat 32 _
  rw [h1]
  apply BitVec.eq_of_toNat_eq
  rw [BitVec.toNat_ofNat, Nat.mod_eq_of_lt (by omega)]
theorem yl_tsw {e1 : gCE} {L : gLs} {m : gM} (he : e1 = (40, .tableswitch 1458 0 30 #[140, 287, 300, 313, 362, 399, 424, 497, 522, 535, 560, 585, 610, 623, 660, 733, 825, 881, 906, 943, 980, 1005, 1061, 1098, 1171, 1196, 1233, 1270, 1331, 1380, 1433], 140, 0, 0, 0)) : ∀ (n : Fin 32) (k : gK), g_op (g_C 0) (fun _ _ _ => none) e1 L [.int (Int32.ofNat n.val)] m k = k (some (yl_tg.getD n.val 0)) L [] m := by
  subst he
  intro n k
  match n with

  | ⟨0, _⟩ => rfl
  | ⟨1, _⟩ => rfl
  | ⟨2, _⟩ => rfl
  | ⟨3, _⟩ => rfl
  | ⟨4, _⟩ => rfl
  | ⟨5, _⟩ => rfl
  | ⟨6, _⟩ => rfl
  | ⟨7, _⟩ => rfl
  | ⟨8, _⟩ => rfl
  | ⟨9, _⟩ => rfl
  | ⟨10, _⟩ => rfl
  | ⟨11, _⟩ => rfl
  | ⟨12, _⟩ => rfl
  | ⟨13, _⟩ => rfl
  | ⟨14, _⟩ => rfl
  | ⟨15, _⟩ => rfl
  | ⟨16, _⟩ => rfl
  | ⟨17, _⟩ => rfl
  | ⟨18, _⟩ => rfl
  | ⟨19, _⟩ => rfl
  | ⟨20, _⟩ => rfl
  | ⟨21, _⟩ => rfl
  | ⟨22, _⟩ => rfl
  | ⟨23, _⟩ => rfl
  | ⟨24, _⟩ => rfl
  | ⟨25, _⟩ => rfl
  | ⟨26, _⟩ => rfl
  | ⟨27, _⟩ => rfl
  | ⟨28, _⟩ => rfl
  | ⟨29, _⟩ => rfl
  | ⟨30, _⟩ => rfl
  | ⟨31, _⟩ => rfl
  | ⟨n + 32, h⟩ => exact absurd h (by omega)
theorem yl_head {s : gI} (H : yl_H E X 100) (hx : (cM L0 (s, g_rho)).1 2000 = X.2.2.2.2.2.2.1) (hi : yl_in L0 i) (hle : ¬ Int32.ofNat L0 - Int32.ofNat 7 < i) (h : ∀ n : Fin 32, X.2.2.2.2.2.2.1 i.toNatClampNeg &&& Int32.ofNat 31 = Int32.ofNat n.val → yl_G E X (yl_tg.getD n.val 0) (yl_L i u5 u6) [] (cM L0 (s, g_rho))) : yl_G E X 23 (yl_L i u5 u6) [] (cM L0 (s, g_rho)) := by
  refine yl_at gl_23 ?_
  refine yl_row H (fun k => rfl) ?_
  refine yl_row H (fun k => rfl) ?_
  refine yl_row H (fun k => rfl) ?_
  refine yl_row H (fun k => rfl) ?_
  refine yl_row H (fun k => rfl) ?_
  refine yl_row H (fun k => if_neg hle) ?_
  refine yl_row H (fun k => rfl) ?_
  refine yl_row H (fun k => rfl) ?_
  refine yl_row (L1 := yl_L i u5 u6) (st1 := [.int (X.2.2.2.2.2.2.1 i.toNatClampNeg)]) H (fun k => ?_) ?_
  · show g_chk i L0 (k none _ (.int ((cM L0 (s, g_rho)).1 2000 i.toNatClampNeg) :: []) (cM L0 (s, g_rho))) = _
    rw [hx]
    unfold g_chk
    have h0 := hi 0 (by decide)
    have e0 : i + Int32.ofNat 0 = i := Int32.add_zero i
    rw [e0] at h0
    exact if_neg h0
  refine yl_row H (fun k => rfl) ?_
  obtain ⟨n, hn⟩ := yl_z31 (X.2.2.2.2.2.2.1 i.toNatClampNeg)
  refine yl_row (L1 := yl_L i u5 u6) (st1 := [.int (Int32.ofNat n.val)]) H (fun k => ?_) ?_
  · rw [← hn]; rfl
  exact yl_jmp H (yl_tsw rfl n) (h n hn)
/-- .. where none is left -/
theorem yl_out {s : gI} (H : yl_H E X 100) (hle : Int32.ofNat L0 - Int32.ofNat 7 < i) (h : yl_G E X 1504 (yl_L i u5 u6) [] (cM L0 (s, g_rho))) : yl_G E X 23 (yl_L i u5 u6) [] (cM L0 (s, g_rho)) := by
  refine yl_at gl_23 ?_
  refine yl_row H (fun k => rfl) ?_
  refine yl_row H (fun k => rfl) ?_
  refine yl_row H (fun k => rfl) ?_
  refine yl_row H (fun k => rfl) ?_
  refine yl_row H (fun k => rfl) ?_
  exact yl_jmp H (fun k => if_pos hle) h
end LAWCASES2

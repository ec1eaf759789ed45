/-! The law's plain calls: class and reference asked alike. (Written by a program of mine.) -/
section LAWCASES
variable {E : yl_E} {X : gX} {L0 : Nat} {s : gI} {k : Int} {i : Int32} {u5 u6 : Option Value}
theorem yl_rg (x : Int32) : -2147483648 ≤ x.toInt ∧ x.toInt ≤ 2147483647 := by
  have h1 := Int32.le_toInt x
  have h2 := Int32.toInt_lt x
  omega
/-- what the script says at i + c -/
def yl_s (X : gX) (i : Int32) (c : Nat) : Int32 := X.2.2.2.2.2.2.1 (i + Int32.ofNat c).toNatClampNeg
/-- the row of seven that i stands at lies within the script -/
def yl_in (L0 : Nat) (i : Int32) : Prop := ∀ c : Nat, c ≤ 6 → ¬ (i + Int32.ofNat c < 0 ∨ L0 ≤ (i + Int32.ofNat c).toNatClampNeg)
abbrev yl_L (i : Int32) (u5 u6 : Option Value) : gLs := [some (.ref 2000), some (.ref 0), some (.ref 63), some (.ref 81), some (.int i), u5, u6]
theorem yl_scrK {cur : List gCE} {L : gLs} {st : List Value} {m : gM} (hs : m.2.2.2.1 = g_shp) (h : m.1 2000 = X.2.2.2.2.2.2.1 → yl_K E X cur L st m) : yl_K E X cur L st m := fun hok => yl_scr (fun q => h q hok) hs
/-- whole numbers' contract told to the machine -/
theorem yl_conI {d A : Nat} {As : List iV} {μ : iM} {o : Option iV × iM} (H : yl_H E X d) (h : iEE L0 d A As μ o) (hA : okS As) (hM : okM μ) : g_Con X g_T E.2.1 d A (cvS As) (cM L0 μ) (o.1.map cvv, cM L0 o.2) ∧ okM o.2 := by
  obtain ⟨N, hN⟩ := iEE.to h hA hM
  obtain ⟨h1, h2, h3⟩ := hN N (Nat.le_refl _)
  refine ⟨?_, h3⟩
  refine g_T_run (n := N) d X A _ _ _ _ ?_
  rw [H.2]
  exact h1
theorem yl_at {t : Nat} {e3 : gCE} {nx3 : List gCE} {L : gLs} {st : List Value} {m : gM} (h : (g_hd t (e3 :: nx3) && g_okC (g_yo 327) (decide (gm_327.1.name = "<init>")) gm_327.2.1 gm_327.2.2.2.1 (e3 :: nx3)) = true) (hk : yl_K E X (e3 :: nx3) L st m) : yl_G E X t L st m := by
  simp only [Bool.and_eq_true] at h
  have h1 := hk h.2
  have e : g_pc (e3 :: nx3) = t := Nat.eq_of_beq_eq_true h.1
  rw [e] at h1
  exact h1
theorem yl_c353 {s1 s2 : gI} {x : Int32} (H : yl_H E X 100) (hx : (cM L0 (s, g_rho)).1 2000 = X.2.2.2.2.2.2.1) (hi : yl_in L0 i)
    (hA : g_Con X g_T E.2.1 100 137 [.ref 0, .int (yl_s X i 1), .int (yl_s X i 2), .int (yl_s X i 3)] (cM L0 (s, g_rho)) (some (.int x), cM L0 (s1, g_rho))) (hB : g_Con X g_T E.2.1 100 238 [.ref 63, .int (yl_s X i 1), .int (yl_s X i 2), .int (yl_s X i 3)] (cM L0 (s1, g_rho)) (some (.int x), cM L0 (s2, g_rho)))
    (hend : yl_G E X 1498 (yl_L i u5 u6) [] (cM L0 (s2, g_rho))) : yl_K E X k327_353 (yl_L i u5 u6) [] (cM L0 (s, g_rho)) := by
  refine yl_row H (fun k => rfl) ?_
  refine yl_arg (kk := Int32.ofNat 1) H hx rfl (fun k st => rfl) (hi 1 (by decide)) ?_
  refine yl_arg (kk := Int32.ofNat 2) H hx rfl (fun k st => rfl) (hi 2 (by decide)) ?_
  refine yl_arg (kk := Int32.ofNat 3) H hx rfl (fun k st => rfl) (hi 3 (by decide)) ?_
  refine yl_call H g_T_ok rfl rfl rfl rfl hA rfl ?_
  refine yl_scrK rfl (fun hx1 => ?_)
  refine yl_row H (fun k => rfl) ?_
  refine yl_arg (kk := Int32.ofNat 1) H hx1 rfl (fun k st => rfl) (hi 1 (by decide)) ?_
  refine yl_arg (kk := Int32.ofNat 2) H hx1 rfl (fun k st => rfl) (hi 2 (by decide)) ?_
  refine yl_arg (kk := Int32.ofNat 3) H hx1 rfl (fun k st => rfl) (hi 3 (by decide)) ?_
  refine yl_call H g_T_ok rfl rfl rfl rfl hB rfl ?_
  exact yl_jmp H (fun k => if_pos rfl) hend
theorem yl_d353 (H : yl_H E X 100) (hx : (cM L0 (s, g_rho)).1 2000 = X.2.2.2.2.2.2.1) (hi : yl_in L0 i) (hM : okM (s, g_rho)) (hk : 0 ≤ k) (hk2 : k ≤ 5000) (hI : INV k s) (hend : ∀ s2, INV (k + 1) s2 → okM (s2, g_rho) → yl_G E X 1498 (yl_L i u5 u6) [] (cM L0 (s2, g_rho))) : yl_K E X k327_353 (yl_L i u5 u6) [] (cM L0 (s, g_rho)) := by
  obtain ⟨x, s1, s2, h1, h2, h3⟩ := q_tile (x := (yl_s X i 1).toInt) (y := (yl_s X i 2).toInt) (w := (yl_s X i 3).toInt) (N := 5000) (by decide) hI
  obtain ⟨cA, m1⟩ := yl_conI (L0 := L0) (A := 137) H (f137_0_ok L0 5000 98 _ _ _ s h1) (okS_cons trivial (okS_cons (yl_rg _) (okS_cons (yl_rg _) (okS_cons (yl_rg _) okS_nil)))) hM
  obtain ⟨cB, m2⟩ := yl_conI (L0 := L0) (A := 238) H (f238_63_ok L0 5000 97 _ _ _ s1 h2) (okS_cons trivial (okS_cons (yl_rg _) (okS_cons (yl_rg _) (okS_cons (yl_rg _) okS_nil)))) m1
  have cA : g_Con X g_T E.2.1 100 137 [.ref 0, .int (Int32.ofInt (yl_s X i 1).toInt), .int (Int32.ofInt (yl_s X i 2).toInt), .int (Int32.ofInt (yl_s X i 3).toInt)] (cM L0 (s, g_rho)) (some (.int (Int32.ofInt x)), cM L0 (s1, g_rho)) := cA
  have cB : g_Con X g_T E.2.1 100 238 [.ref 63, .int (Int32.ofInt (yl_s X i 1).toInt), .int (Int32.ofInt (yl_s X i 2).toInt), .int (Int32.ofInt (yl_s X i 3).toInt)] (cM L0 (s1, g_rho)) (some (.int (Int32.ofInt x)), cM L0 (s2, g_rho)) := cB
  simp only [Int32.ofInt_toInt] at cA cB
  exact yl_c353 H hx hi cA cB (hend s2 h3 m2)
theorem yl_c402 {s1 s2 : gI} {x : Int32} (H : yl_H E X 100) (hx : (cM L0 (s, g_rho)).1 2000 = X.2.2.2.2.2.2.1) (hi : yl_in L0 i)
    (hA : g_Con X g_T E.2.1 100 138 [.ref 0, .int (yl_s X i 1), .int (yl_s X i 2)] (cM L0 (s, g_rho)) (some (.int x), cM L0 (s1, g_rho))) (hB : g_Con X g_T E.2.1 100 239 [.ref 63, .int (yl_s X i 1), .int (yl_s X i 2)] (cM L0 (s1, g_rho)) (some (.int x), cM L0 (s2, g_rho)))
    (hend : yl_G E X 1498 (yl_L i u5 u6) [] (cM L0 (s2, g_rho))) : yl_K E X k327_402 (yl_L i u5 u6) [] (cM L0 (s, g_rho)) := by
  refine yl_row H (fun k => rfl) ?_
  refine yl_arg (kk := Int32.ofNat 1) H hx rfl (fun k st => rfl) (hi 1 (by decide)) ?_
  refine yl_arg (kk := Int32.ofNat 2) H hx rfl (fun k st => rfl) (hi 2 (by decide)) ?_
  refine yl_call H g_T_ok rfl rfl rfl rfl hA rfl ?_
  refine yl_scrK rfl (fun hx1 => ?_)
  refine yl_row H (fun k => rfl) ?_
  refine yl_arg (kk := Int32.ofNat 1) H hx1 rfl (fun k st => rfl) (hi 1 (by decide)) ?_
  refine yl_arg (kk := Int32.ofNat 2) H hx1 rfl (fun k st => rfl) (hi 2 (by decide)) ?_
  refine yl_call H g_T_ok rfl rfl rfl rfl hB rfl ?_
  exact yl_jmp H (fun k => if_pos rfl) hend
theorem yl_d402 (H : yl_H E X 100) (hx : (cM L0 (s, g_rho)).1 2000 = X.2.2.2.2.2.2.1) (hi : yl_in L0 i) (hM : okM (s, g_rho)) (hk : 0 ≤ k) (hk2 : k ≤ 5000) (hI : INV k s) (hend : ∀ s2, INV (k + 1) s2 → okM (s2, g_rho) → yl_G E X 1498 (yl_L i u5 u6) [] (cM L0 (s2, g_rho))) : yl_K E X k327_402 (yl_L i u5 u6) [] (cM L0 (s, g_rho)) := by
  obtain ⟨x, s1, s2, h1, h2, h3⟩ := q_thing (t := (yl_s X i 1).toInt) (w := (yl_s X i 2).toInt) hI
  obtain ⟨cA, m1⟩ := yl_conI (L0 := L0) (A := 138) H (f138_0_ok L0 5000 98 _ _ s h1) (okS_cons trivial (okS_cons (yl_rg _) (okS_cons (yl_rg _) okS_nil))) hM
  obtain ⟨cB, m2⟩ := yl_conI (L0 := L0) (A := 239) H (f239_63_ok L0 5000 97 _ _ s1 h2) (okS_cons trivial (okS_cons (yl_rg _) (okS_cons (yl_rg _) okS_nil))) m1
  have cA : g_Con X g_T E.2.1 100 138 [.ref 0, .int (Int32.ofInt (yl_s X i 1).toInt), .int (Int32.ofInt (yl_s X i 2).toInt)] (cM L0 (s, g_rho)) (some (.int (Int32.ofInt x)), cM L0 (s1, g_rho)) := cA
  have cB : g_Con X g_T E.2.1 100 239 [.ref 63, .int (Int32.ofInt (yl_s X i 1).toInt), .int (Int32.ofInt (yl_s X i 2).toInt)] (cM L0 (s1, g_rho)) (some (.int (Int32.ofInt x)), cM L0 (s2, g_rho)) := cB
  simp only [Int32.ofInt_toInt] at cA cB
  exact yl_c402 H hx hi cA cB (hend s2 h3 m2)
theorem yl_c439 {s1 s2 : gI} {x : Int32} (H : yl_H E X 100) (hx : (cM L0 (s, g_rho)).1 2000 = X.2.2.2.2.2.2.1) (hi : yl_in L0 i)
    (hA : g_Con X g_T E.2.1 100 139 [.ref 0, .int (yl_s X i 1)] (cM L0 (s, g_rho)) (some (.int x), cM L0 (s1, g_rho))) (hB : g_Con X g_T E.2.1 100 240 [.ref 63, .int (yl_s X i 1)] (cM L0 (s1, g_rho)) (some (.int x), cM L0 (s2, g_rho)))
    (hend : yl_G E X 1498 (yl_L i u5 u6) [] (cM L0 (s2, g_rho))) : yl_K E X k327_439 (yl_L i u5 u6) [] (cM L0 (s, g_rho)) := by
  refine yl_row H (fun k => rfl) ?_
  refine yl_arg (kk := Int32.ofNat 1) H hx rfl (fun k st => rfl) (hi 1 (by decide)) ?_
  refine yl_call H g_T_ok rfl rfl rfl rfl hA rfl ?_
  refine yl_scrK rfl (fun hx1 => ?_)
  refine yl_row H (fun k => rfl) ?_
  refine yl_arg (kk := Int32.ofNat 1) H hx1 rfl (fun k st => rfl) (hi 1 (by decide)) ?_
  refine yl_call H g_T_ok rfl rfl rfl rfl hB rfl ?_
  exact yl_jmp H (fun k => if_pos rfl) hend
theorem yl_d439 (H : yl_H E X 100) (hx : (cM L0 (s, g_rho)).1 2000 = X.2.2.2.2.2.2.1) (hi : yl_in L0 i) (hM : okM (s, g_rho)) (hk : 0 ≤ k) (hk2 : k ≤ 5000) (hI : INV k s) (hend : ∀ s2, INV (k + 1) s2 → okM (s2, g_rho) → yl_G E X 1498 (yl_L i u5 u6) [] (cM L0 (s2, g_rho))) : yl_K E X k327_439 (yl_L i u5 u6) [] (cM L0 (s, g_rho)) := by
  obtain ⟨x, s1, s2, h1, h2, h3⟩ := q_arm (p := (yl_s X i 1).toInt) hI
  obtain ⟨cA, m1⟩ := yl_conI (L0 := L0) (A := 139) H (f139_0_ok L0 5000 98 _ s h1) (okS_cons trivial (okS_cons (yl_rg _) okS_nil)) hM
  obtain ⟨cB, m2⟩ := yl_conI (L0 := L0) (A := 240) H (f240_63_ok L0 5000 97 _ s1 h2) (okS_cons trivial (okS_cons (yl_rg _) okS_nil)) m1
  have cA : g_Con X g_T E.2.1 100 139 [.ref 0, .int (Int32.ofInt (yl_s X i 1).toInt)] (cM L0 (s, g_rho)) (some (.int (Int32.ofInt x)), cM L0 (s1, g_rho)) := cA
  have cB : g_Con X g_T E.2.1 100 240 [.ref 63, .int (Int32.ofInt (yl_s X i 1).toInt)] (cM L0 (s1, g_rho)) (some (.int (Int32.ofInt x)), cM L0 (s2, g_rho)) := cB
  simp only [Int32.ofInt_toInt] at cA cB
  exact yl_c439 H hx hi cA cB (hend s2 h3 m2)
theorem yl_c464 {s1 s2 : gI} {x : Int32} (H : yl_H E X 100) (hx : (cM L0 (s, g_rho)).1 2000 = X.2.2.2.2.2.2.1) (hi : yl_in L0 i)
    (hA : g_Con X g_T E.2.1 100 140 [.ref 0, .int (yl_s X i 1), .int (yl_s X i 2), .int (yl_s X i 3), .int (yl_s X i 4), .int (yl_s X i 5)] (cM L0 (s, g_rho)) (some (.int x), cM L0 (s1, g_rho))) (hB : g_Con X g_T E.2.1 100 242 [.ref 63, .int (yl_s X i 1), .int (yl_s X i 2), .int (yl_s X i 3), .int (yl_s X i 4), .int (yl_s X i 5)] (cM L0 (s1, g_rho)) (some (.int x), cM L0 (s2, g_rho)))
    (hend : yl_G E X 1498 (yl_L i u5 u6) [] (cM L0 (s2, g_rho))) : yl_K E X k327_464 (yl_L i u5 u6) [] (cM L0 (s, g_rho)) := by
  refine yl_row H (fun k => rfl) ?_
  refine yl_arg (kk := Int32.ofNat 1) H hx rfl (fun k st => rfl) (hi 1 (by decide)) ?_
  refine yl_arg (kk := Int32.ofNat 2) H hx rfl (fun k st => rfl) (hi 2 (by decide)) ?_
  refine yl_arg (kk := Int32.ofNat 3) H hx rfl (fun k st => rfl) (hi 3 (by decide)) ?_
  refine yl_arg (kk := Int32.ofNat 4) H hx rfl (fun k st => rfl) (hi 4 (by decide)) ?_
  refine yl_arg (kk := Int32.ofNat 5) H hx rfl (fun k st => rfl) (hi 5 (by decide)) ?_
  refine yl_call H g_T_ok rfl rfl rfl rfl hA rfl ?_
  refine yl_scrK rfl (fun hx1 => ?_)
  refine yl_row H (fun k => rfl) ?_
  refine yl_arg (kk := Int32.ofNat 1) H hx1 rfl (fun k st => rfl) (hi 1 (by decide)) ?_
  refine yl_arg (kk := Int32.ofNat 2) H hx1 rfl (fun k st => rfl) (hi 2 (by decide)) ?_
  refine yl_arg (kk := Int32.ofNat 3) H hx1 rfl (fun k st => rfl) (hi 3 (by decide)) ?_
  refine yl_arg (kk := Int32.ofNat 4) H hx1 rfl (fun k st => rfl) (hi 4 (by decide)) ?_
  refine yl_arg (kk := Int32.ofNat 5) H hx1 rfl (fun k st => rfl) (hi 5 (by decide)) ?_
  refine yl_call H g_T_ok rfl rfl rfl rfl hB rfl ?_
  exact yl_jmp H (fun k => if_pos rfl) hend
theorem yl_d464 (H : yl_H E X 100) (hx : (cM L0 (s, g_rho)).1 2000 = X.2.2.2.2.2.2.1) (hi : yl_in L0 i) (hM : okM (s, g_rho)) (hk : 0 ≤ k) (hk2 : k ≤ 5000) (hI : INV k s) (hend : ∀ s2, INV (k + 1) s2 → okM (s2, g_rho) → yl_G E X 1498 (yl_L i u5 u6) [] (cM L0 (s2, g_rho))) : yl_K E X k327_464 (yl_L i u5 u6) [] (cM L0 (s, g_rho)) := by
  obtain ⟨x, s1, s2, h1, h2, h3⟩ := q_toss (p := (yl_s X i 1).toInt) (t := (yl_s X i 2).toInt) (x := (yl_s X i 3).toInt) (y := (yl_s X i 4).toInt) (z := (yl_s X i 5).toInt) (N := 5000) (by decide) hI hk
  obtain ⟨cA, m1⟩ := yl_conI (L0 := L0) (A := 140) H (f140_0_ok L0 5000 95 _ _ _ _ _ s h1) (okS_cons trivial (okS_cons (yl_rg _) (okS_cons (yl_rg _) (okS_cons (yl_rg _) (okS_cons (yl_rg _) (okS_cons (yl_rg _) okS_nil)))))) hM
  obtain ⟨cB, m2⟩ := yl_conI (L0 := L0) (A := 242) H (f242_63_ok L0 5000 92 _ _ _ _ _ s1 h2) (okS_cons trivial (okS_cons (yl_rg _) (okS_cons (yl_rg _) (okS_cons (yl_rg _) (okS_cons (yl_rg _) (okS_cons (yl_rg _) okS_nil)))))) m1
  have cA : g_Con X g_T E.2.1 100 140 [.ref 0, .int (Int32.ofInt (yl_s X i 1).toInt), .int (Int32.ofInt (yl_s X i 2).toInt), .int (Int32.ofInt (yl_s X i 3).toInt), .int (Int32.ofInt (yl_s X i 4).toInt), .int (Int32.ofInt (yl_s X i 5).toInt)] (cM L0 (s, g_rho)) (some (.int (Int32.ofInt x)), cM L0 (s1, g_rho)) := cA
  have cB : g_Con X g_T E.2.1 100 242 [.ref 63, .int (Int32.ofInt (yl_s X i 1).toInt), .int (Int32.ofInt (yl_s X i 2).toInt), .int (Int32.ofInt (yl_s X i 3).toInt), .int (Int32.ofInt (yl_s X i 4).toInt), .int (Int32.ofInt (yl_s X i 5).toInt)] (cM L0 (s1, g_rho)) (some (.int (Int32.ofInt x)), cM L0 (s2, g_rho)) := cB
  simp only [Int32.ofInt_toInt] at cA cB
  exact yl_c464 H hx hi cA cB (hend s2 h3 m2)
theorem yl_c537 {s1 s2 : gI} {x : Int32} (H : yl_H E X 100) (hx : (cM L0 (s, g_rho)).1 2000 = X.2.2.2.2.2.2.1) (hi : yl_in L0 i)
    (hA : g_Con X g_T E.2.1 100 141 [.ref 0, .int (yl_s X i 1)] (cM L0 (s, g_rho)) (some (.int x), cM L0 (s1, g_rho))) (hB : g_Con X g_T E.2.1 100 249 [.ref 63, .int (yl_s X i 1)] (cM L0 (s1, g_rho)) (some (.int x), cM L0 (s2, g_rho)))
    (hend : yl_G E X 1498 (yl_L i u5 u6) [] (cM L0 (s2, g_rho))) : yl_K E X k327_537 (yl_L i u5 u6) [] (cM L0 (s, g_rho)) := by
  refine yl_row H (fun k => rfl) ?_
  refine yl_arg (kk := Int32.ofNat 1) H hx rfl (fun k st => rfl) (hi 1 (by decide)) ?_
  refine yl_call H g_T_ok rfl rfl rfl rfl hA rfl ?_
  refine yl_scrK rfl (fun hx1 => ?_)
  refine yl_row H (fun k => rfl) ?_
  refine yl_arg (kk := Int32.ofNat 1) H hx1 rfl (fun k st => rfl) (hi 1 (by decide)) ?_
  refine yl_call H g_T_ok rfl rfl rfl rfl hB rfl ?_
  exact yl_jmp H (fun k => if_pos rfl) hend
theorem yl_d537 (H : yl_H E X 100) (hx : (cM L0 (s, g_rho)).1 2000 = X.2.2.2.2.2.2.1) (hi : yl_in L0 i) (hM : okM (s, g_rho)) (hk : 0 ≤ k) (hk2 : k ≤ 5000) (hI : INV k s) (hend : ∀ s2, INV (k + 1) s2 → okM (s2, g_rho) → yl_G E X 1498 (yl_L i u5 u6) [] (cM L0 (s2, g_rho))) : yl_K E X k327_537 (yl_L i u5 u6) [] (cM L0 (s, g_rho)) := by
  obtain ⟨x, s1, s2, h1, h2, h3⟩ := q_hose (row := (yl_s X i 1).toInt) (N := 5000) (by decide) hI hk
  obtain ⟨cA, m1⟩ := yl_conI (L0 := L0) (A := 141) H (f141_0_ok L0 5000 95 _ s h1) (okS_cons trivial (okS_cons (yl_rg _) okS_nil)) hM
  obtain ⟨cB, m2⟩ := yl_conI (L0 := L0) (A := 249) H (f249_63_ok L0 5000 93 _ s1 h2) (okS_cons trivial (okS_cons (yl_rg _) okS_nil)) m1
  have cA : g_Con X g_T E.2.1 100 141 [.ref 0, .int (Int32.ofInt (yl_s X i 1).toInt)] (cM L0 (s, g_rho)) (some (.int (Int32.ofInt x)), cM L0 (s1, g_rho)) := cA
  have cB : g_Con X g_T E.2.1 100 249 [.ref 63, .int (Int32.ofInt (yl_s X i 1).toInt)] (cM L0 (s1, g_rho)) (some (.int (Int32.ofInt x)), cM L0 (s2, g_rho)) := cB
  simp only [Int32.ofInt_toInt] at cA cB
  exact yl_c537 H hx hi cA cB (hend s2 h3 m2)
theorem yl_c562 {s1 s2 : gI} {x : Int32} (H : yl_H E X 100) (hx : (cM L0 (s, g_rho)).1 2000 = X.2.2.2.2.2.2.1) (hi : yl_in L0 i)
    (hA : g_Con X g_T E.2.1 100 142 [.ref 0] (cM L0 (s, g_rho)) (some (.int x), cM L0 (s1, g_rho))) (hB : g_Con X g_T E.2.1 100 250 [.ref 63] (cM L0 (s1, g_rho)) (some (.int x), cM L0 (s2, g_rho)))
    (hend : yl_G E X 1498 (yl_L i u5 u6) [] (cM L0 (s2, g_rho))) : yl_K E X k327_562 (yl_L i u5 u6) [] (cM L0 (s, g_rho)) := by
  refine yl_row H (fun k => rfl) ?_
  refine yl_call H g_T_ok rfl rfl rfl rfl hA rfl ?_
  refine yl_scrK rfl (fun hx1 => ?_)
  refine yl_row H (fun k => rfl) ?_
  refine yl_call H g_T_ok rfl rfl rfl rfl hB rfl ?_
  exact yl_jmp H (fun k => if_pos rfl) hend
theorem yl_d562 (H : yl_H E X 100) (hx : (cM L0 (s, g_rho)).1 2000 = X.2.2.2.2.2.2.1) (hi : yl_in L0 i) (hM : okM (s, g_rho)) (hk : 0 ≤ k) (hk2 : k ≤ 5000) (hI : INV k s) (hend : ∀ s2, INV (k + 1) s2 → okM (s2, g_rho) → yl_G E X 1498 (yl_L i u5 u6) [] (cM L0 (s2, g_rho))) : yl_K E X k327_562 (yl_L i u5 u6) [] (cM L0 (s, g_rho)) := by
  obtain ⟨x, s1, s2, h1, h2, h3⟩ := q_broom  (N := 5000) (by decide) hI hk
  obtain ⟨cA, m1⟩ := yl_conI (L0 := L0) (A := 142) H (f142_0_ok L0 5000 96  s h1) (okS_cons trivial okS_nil) hM
  obtain ⟨cB, m2⟩ := yl_conI (L0 := L0) (A := 250) H (f250_63_ok L0 5000 97  s1 h2) (okS_cons trivial okS_nil) m1
  have cA : g_Con X g_T E.2.1 100 142 [.ref 0] (cM L0 (s, g_rho)) (some (.int (Int32.ofInt x)), cM L0 (s1, g_rho)) := cA
  have cB : g_Con X g_T E.2.1 100 250 [.ref 63] (cM L0 (s1, g_rho)) (some (.int (Int32.ofInt x)), cM L0 (s2, g_rho)) := cB
  exact yl_c562 H hx hi cA cB (hend s2 h3 m2)
theorem yl_c575 {s1 s2 : gI} {x : Int32} (H : yl_H E X 100) (hx : (cM L0 (s, g_rho)).1 2000 = X.2.2.2.2.2.2.1) (hi : yl_in L0 i)
    (hA : g_Con X g_T E.2.1 100 143 [.ref 0, .int (yl_s X i 1)] (cM L0 (s, g_rho)) (some (.int x), cM L0 (s1, g_rho))) (hB : g_Con X g_T E.2.1 100 252 [.ref 63, .int (yl_s X i 1)] (cM L0 (s1, g_rho)) (some (.int x), cM L0 (s2, g_rho)))
    (hend : yl_G E X 1498 (yl_L i u5 u6) [] (cM L0 (s2, g_rho))) : yl_K E X k327_575 (yl_L i u5 u6) [] (cM L0 (s, g_rho)) := by
  refine yl_row H (fun k => rfl) ?_
  refine yl_arg (kk := Int32.ofNat 1) H hx rfl (fun k st => rfl) (hi 1 (by decide)) ?_
  refine yl_call H g_T_ok rfl rfl rfl rfl hA rfl ?_
  refine yl_scrK rfl (fun hx1 => ?_)
  refine yl_row H (fun k => rfl) ?_
  refine yl_arg (kk := Int32.ofNat 1) H hx1 rfl (fun k st => rfl) (hi 1 (by decide)) ?_
  refine yl_call H g_T_ok rfl rfl rfl rfl hB rfl ?_
  exact yl_jmp H (fun k => if_pos rfl) hend
theorem yl_d575 (H : yl_H E X 100) (hx : (cM L0 (s, g_rho)).1 2000 = X.2.2.2.2.2.2.1) (hi : yl_in L0 i) (hM : okM (s, g_rho)) (hk : 0 ≤ k) (hk2 : k ≤ 5000) (hI : INV k s) (hend : ∀ s2, INV (k + 1) s2 → okM (s2, g_rho) → yl_G E X 1498 (yl_L i u5 u6) [] (cM L0 (s2, g_rho))) : yl_K E X k327_575 (yl_L i u5 u6) [] (cM L0 (s, g_rho)) := by
  obtain ⟨x, s1, s2, h1, h2, h3⟩ := q_gale (w := (yl_s X i 1).toInt) (N := 5000) (by decide) hI hk
  obtain ⟨cA, m1⟩ := yl_conI (L0 := L0) (A := 143) H (f143_0_ok L0 5000 95 _ s h1) (okS_cons trivial (okS_cons (yl_rg _) okS_nil)) hM
  obtain ⟨cB, m2⟩ := yl_conI (L0 := L0) (A := 252) H (f252_63_ok L0 5000 93 _ s1 h2) (okS_cons trivial (okS_cons (yl_rg _) okS_nil)) m1
  have cA : g_Con X g_T E.2.1 100 143 [.ref 0, .int (Int32.ofInt (yl_s X i 1).toInt)] (cM L0 (s, g_rho)) (some (.int (Int32.ofInt x)), cM L0 (s1, g_rho)) := cA
  have cB : g_Con X g_T E.2.1 100 252 [.ref 63, .int (Int32.ofInt (yl_s X i 1).toInt)] (cM L0 (s1, g_rho)) (some (.int (Int32.ofInt x)), cM L0 (s2, g_rho)) := cB
  simp only [Int32.ofInt_toInt] at cA cB
  exact yl_c575 H hx hi cA cB (hend s2 h3 m2)
theorem yl_c600 {s1 s2 : gI} {x : Int32} (H : yl_H E X 100) (hx : (cM L0 (s, g_rho)).1 2000 = X.2.2.2.2.2.2.1) (hi : yl_in L0 i)
    (hA : g_Con X g_T E.2.1 100 144 [.ref 0, .int (yl_s X i 1)] (cM L0 (s, g_rho)) (some (.int x), cM L0 (s1, g_rho))) (hB : g_Con X g_T E.2.1 100 256 [.ref 63, .int (yl_s X i 1)] (cM L0 (s1, g_rho)) (some (.int x), cM L0 (s2, g_rho)))
    (hend : yl_G E X 1498 (yl_L i u5 u6) [] (cM L0 (s2, g_rho))) : yl_K E X k327_600 (yl_L i u5 u6) [] (cM L0 (s, g_rho)) := by
  refine yl_row H (fun k => rfl) ?_
  refine yl_arg (kk := Int32.ofNat 1) H hx rfl (fun k st => rfl) (hi 1 (by decide)) ?_
  refine yl_call H g_T_ok rfl rfl rfl rfl hA rfl ?_
  refine yl_scrK rfl (fun hx1 => ?_)
  refine yl_row H (fun k => rfl) ?_
  refine yl_arg (kk := Int32.ofNat 1) H hx1 rfl (fun k st => rfl) (hi 1 (by decide)) ?_
  refine yl_call H g_T_ok rfl rfl rfl rfl hB rfl ?_
  exact yl_jmp H (fun k => if_pos rfl) hend
theorem yl_d600 (H : yl_H E X 100) (hx : (cM L0 (s, g_rho)).1 2000 = X.2.2.2.2.2.2.1) (hi : yl_in L0 i) (hM : okM (s, g_rho)) (hk : 0 ≤ k) (hk2 : k ≤ 5000) (hI : INV k s) (hend : ∀ s2, INV (k + 1) s2 → okM (s2, g_rho) → yl_G E X 1498 (yl_L i u5 u6) [] (cM L0 (s2, g_rho))) : yl_K E X k327_600 (yl_L i u5 u6) [] (cM L0 (s, g_rho)) := by
  obtain ⟨x, s1, s2, h1, h2, h3⟩ := q_days (n := (yl_s X i 1).toInt) (N := 5000) (by decide) hI hk hk2
  obtain ⟨cA, m1⟩ := yl_conI (L0 := L0) (A := 144) H (f144_0_ok L0 5000 94 _ s h1) (okS_cons trivial (okS_cons (yl_rg _) okS_nil)) hM
  obtain ⟨cB, m2⟩ := yl_conI (L0 := L0) (A := 256) H (f256_63_ok L0 5000 95 _ s1 h2) (okS_cons trivial (okS_cons (yl_rg _) okS_nil)) m1
  have cA : g_Con X g_T E.2.1 100 144 [.ref 0, .int (Int32.ofInt (yl_s X i 1).toInt)] (cM L0 (s, g_rho)) (some (.int (Int32.ofInt x)), cM L0 (s1, g_rho)) := cA
  have cB : g_Con X g_T E.2.1 100 256 [.ref 63, .int (Int32.ofInt (yl_s X i 1).toInt)] (cM L0 (s1, g_rho)) (some (.int (Int32.ofInt x)), cM L0 (s2, g_rho)) := cB
  simp only [Int32.ofInt_toInt] at cA cB
  exact yl_c600 H hx hi cA cB (hend s2 h3 m2)
theorem yl_c625 {s1 s2 : gI} {x : Int32} (H : yl_H E X 100) (hx : (cM L0 (s, g_rho)).1 2000 = X.2.2.2.2.2.2.1) (hi : yl_in L0 i)
    (hA : g_Con X g_T E.2.1 100 145 [.ref 0, .int (yl_s X i 1)] (cM L0 (s, g_rho)) (some (.int x), cM L0 (s1, g_rho))) (hB : g_Con X g_T E.2.1 100 257 [.ref 63, .int (yl_s X i 1)] (cM L0 (s1, g_rho)) (some (.int x), cM L0 (s2, g_rho)))
    (hend : yl_G E X 1498 (yl_L i u5 u6) [] (cM L0 (s2, g_rho))) : yl_K E X k327_625 (yl_L i u5 u6) [] (cM L0 (s, g_rho)) := by
  refine yl_row H (fun k => rfl) ?_
  refine yl_arg (kk := Int32.ofNat 1) H hx rfl (fun k st => rfl) (hi 1 (by decide)) ?_
  refine yl_call H g_T_ok rfl rfl rfl rfl hA rfl ?_
  refine yl_scrK rfl (fun hx1 => ?_)
  refine yl_row H (fun k => rfl) ?_
  refine yl_arg (kk := Int32.ofNat 1) H hx1 rfl (fun k st => rfl) (hi 1 (by decide)) ?_
  refine yl_call H g_T_ok rfl rfl rfl rfl hB rfl ?_
  exact yl_jmp H (fun k => if_pos rfl) hend
theorem yl_d625 (H : yl_H E X 100) (hx : (cM L0 (s, g_rho)).1 2000 = X.2.2.2.2.2.2.1) (hi : yl_in L0 i) (hM : okM (s, g_rho)) (hk : 0 ≤ k) (hk2 : k ≤ 5000) (hI : INV k s) (hend : ∀ s2, INV (k + 1) s2 → okM (s2, g_rho) → yl_G E X 1498 (yl_L i u5 u6) [] (cM L0 (s2, g_rho))) : yl_K E X k327_625 (yl_L i u5 u6) [] (cM L0 (s, g_rho)) := by
  obtain ⟨x, s1, s2, h1, h2, h3⟩ := q_fetch (w := (yl_s X i 1).toInt) (N := 5000) (by decide) hI hk
  obtain ⟨cA, m1⟩ := yl_conI (L0 := L0) (A := 145) H (f145_0_ok L0 5000 96 _ s h1) (okS_cons trivial (okS_cons (yl_rg _) okS_nil)) hM
  obtain ⟨cB, m2⟩ := yl_conI (L0 := L0) (A := 257) H (f257_63_ok L0 5000 97 _ s1 h2) (okS_cons trivial (okS_cons (yl_rg _) okS_nil)) m1
  have cA : g_Con X g_T E.2.1 100 145 [.ref 0, .int (Int32.ofInt (yl_s X i 1).toInt)] (cM L0 (s, g_rho)) (some (.int (Int32.ofInt x)), cM L0 (s1, g_rho)) := cA
  have cB : g_Con X g_T E.2.1 100 257 [.ref 63, .int (Int32.ofInt (yl_s X i 1).toInt)] (cM L0 (s1, g_rho)) (some (.int (Int32.ofInt x)), cM L0 (s2, g_rho)) := cB
  simp only [Int32.ofInt_toInt] at cA cB
  exact yl_c625 H hx hi cA cB (hend s2 h3 m2)
theorem yl_c650 {s1 s2 : gI} {x : Int32} (H : yl_H E X 100) (hx : (cM L0 (s, g_rho)).1 2000 = X.2.2.2.2.2.2.1) (hi : yl_in L0 i)
    (hA : g_Con X g_T E.2.1 100 146 [.ref 0] (cM L0 (s, g_rho)) (some (.int x), cM L0 (s1, g_rho))) (hB : g_Con X g_T E.2.1 100 258 [.ref 63] (cM L0 (s1, g_rho)) (some (.int x), cM L0 (s2, g_rho)))
    (hend : yl_G E X 1498 (yl_L i u5 u6) [] (cM L0 (s2, g_rho))) : yl_K E X k327_650 (yl_L i u5 u6) [] (cM L0 (s, g_rho)) := by
  refine yl_row H (fun k => rfl) ?_
  refine yl_call H g_T_ok rfl rfl rfl rfl hA rfl ?_
  refine yl_scrK rfl (fun hx1 => ?_)
  refine yl_row H (fun k => rfl) ?_
  refine yl_call H g_T_ok rfl rfl rfl rfl hB rfl ?_
  exact yl_jmp H (fun k => if_pos rfl) hend
theorem yl_d650 (H : yl_H E X 100) (hx : (cM L0 (s, g_rho)).1 2000 = X.2.2.2.2.2.2.1) (hi : yl_in L0 i) (hM : okM (s, g_rho)) (hk : 0 ≤ k) (hk2 : k ≤ 5000) (hI : INV k s) (hend : ∀ s2, INV (k + 1) s2 → okM (s2, g_rho) → yl_G E X 1498 (yl_L i u5 u6) [] (cM L0 (s2, g_rho))) : yl_K E X k327_650 (yl_L i u5 u6) [] (cM L0 (s, g_rho)) := by
  obtain ⟨x, s1, s2, h1, h2, h3⟩ := q_undo  (N := 5000) (by decide) hI
  obtain ⟨cA, m1⟩ := yl_conI (L0 := L0) (A := 146) H (f146_0_ok L0 5000 96  s h1) (okS_cons trivial okS_nil) hM
  obtain ⟨cB, m2⟩ := yl_conI (L0 := L0) (A := 258) H (f258_63_ok L0 5000 98  s1 h2) (okS_cons trivial okS_nil) m1
  have cA : g_Con X g_T E.2.1 100 146 [.ref 0] (cM L0 (s, g_rho)) (some (.int (Int32.ofInt x)), cM L0 (s1, g_rho)) := cA
  have cB : g_Con X g_T E.2.1 100 258 [.ref 63] (cM L0 (s1, g_rho)) (some (.int (Int32.ofInt x)), cM L0 (s2, g_rho)) := cB
  exact yl_c650 H hx hi cA cB (hend s2 h3 m2)
theorem yl_c663 {s1 s2 : gI} {x : Int32} (H : yl_H E X 100) (hx : (cM L0 (s, g_rho)).1 2000 = X.2.2.2.2.2.2.1) (hi : yl_in L0 i)
    (hA : g_Con X g_T E.2.1 100 147 [.ref 0, .int (yl_s X i 1), .int (yl_s X i 2)] (cM L0 (s, g_rho)) (some (.int x), cM L0 (s1, g_rho))) (hB : g_Con X g_T E.2.1 100 259 [.ref 63, .int (yl_s X i 1), .int (yl_s X i 2)] (cM L0 (s1, g_rho)) (some (.int x), cM L0 (s2, g_rho)))
    (hend : yl_G E X 1498 (yl_L i u5 u6) [] (cM L0 (s2, g_rho))) : yl_K E X k327_663 (yl_L i u5 u6) [] (cM L0 (s, g_rho)) := by
  refine yl_row H (fun k => rfl) ?_
  refine yl_arg (kk := Int32.ofNat 1) H hx rfl (fun k st => rfl) (hi 1 (by decide)) ?_
  refine yl_arg (kk := Int32.ofNat 2) H hx rfl (fun k st => rfl) (hi 2 (by decide)) ?_
  refine yl_call H g_T_ok rfl rfl rfl rfl hA rfl ?_
  refine yl_scrK rfl (fun hx1 => ?_)
  refine yl_row H (fun k => rfl) ?_
  refine yl_arg (kk := Int32.ofNat 1) H hx1 rfl (fun k st => rfl) (hi 1 (by decide)) ?_
  refine yl_arg (kk := Int32.ofNat 2) H hx1 rfl (fun k st => rfl) (hi 2 (by decide)) ?_
  refine yl_call H g_T_ok rfl rfl rfl rfl hB rfl ?_
  exact yl_jmp H (fun k => if_pos rfl) hend
theorem yl_d663 (H : yl_H E X 100) (hx : (cM L0 (s, g_rho)).1 2000 = X.2.2.2.2.2.2.1) (hi : yl_in L0 i) (hM : okM (s, g_rho)) (hk : 0 ≤ k) (hk2 : k ≤ 5000) (hI : INV k s) (hend : ∀ s2, INV (k + 1) s2 → okM (s2, g_rho) → yl_G E X 1498 (yl_L i u5 u6) [] (cM L0 (s2, g_rho))) : yl_K E X k327_663 (yl_L i u5 u6) [] (cM L0 (s, g_rho)) := by
  obtain ⟨x, s1, s2, h1, h2, h3⟩ := q_rolls (x := (yl_s X i 1).toInt) (y := (yl_s X i 2).toInt) (N := 5000) (by decide) hI
  obtain ⟨cA, m1⟩ := yl_conI (L0 := L0) (A := 147) H (f147_0_ok L0 5000 97 _ _ s h1) (okS_cons trivial (okS_cons (yl_rg _) (okS_cons (yl_rg _) okS_nil))) hM
  obtain ⟨cB, m2⟩ := yl_conI (L0 := L0) (A := 259) H (f259_63_ok L0 5000 95 _ _ s1 h2) (okS_cons trivial (okS_cons (yl_rg _) (okS_cons (yl_rg _) okS_nil))) m1
  have cA : g_Con X g_T E.2.1 100 147 [.ref 0, .int (Int32.ofInt (yl_s X i 1).toInt), .int (Int32.ofInt (yl_s X i 2).toInt)] (cM L0 (s, g_rho)) (some (.int (Int32.ofInt x)), cM L0 (s1, g_rho)) := cA
  have cB : g_Con X g_T E.2.1 100 259 [.ref 63, .int (Int32.ofInt (yl_s X i 1).toInt), .int (Int32.ofInt (yl_s X i 2).toInt)] (cM L0 (s1, g_rho)) (some (.int (Int32.ofInt x)), cM L0 (s2, g_rho)) := cB
  simp only [Int32.ofInt_toInt] at cA cB
  exact yl_c663 H hx hi cA cB (hend s2 h3 m2)
theorem yl_c700 {s1 s2 : gI} {x : Int32} (H : yl_H E X 100) (hx : (cM L0 (s, g_rho)).1 2000 = X.2.2.2.2.2.2.1) (hi : yl_in L0 i)
    (hA : g_Con X g_T E.2.1 100 148 [.ref 0, .int (yl_s X i 1), .int (yl_s X i 2), .int (yl_s X i 3), .int (yl_s X i 4), .int (yl_s X i 5)] (cM L0 (s, g_rho)) (some (.int x), cM L0 (s1, g_rho))) (hB : g_Con X g_T E.2.1 100 264 [.ref 63, .int (yl_s X i 1), .int (yl_s X i 2), .int (yl_s X i 3), .int (yl_s X i 4), .int (yl_s X i 5)] (cM L0 (s1, g_rho)) (some (.int x), cM L0 (s2, g_rho)))
    (hend : yl_G E X 1498 (yl_L i u5 u6) [] (cM L0 (s2, g_rho))) : yl_K E X k327_700 (yl_L i u5 u6) [] (cM L0 (s, g_rho)) := by
  refine yl_row H (fun k => rfl) ?_
  refine yl_arg (kk := Int32.ofNat 1) H hx rfl (fun k st => rfl) (hi 1 (by decide)) ?_
  refine yl_arg (kk := Int32.ofNat 2) H hx rfl (fun k st => rfl) (hi 2 (by decide)) ?_
  refine yl_arg (kk := Int32.ofNat 3) H hx rfl (fun k st => rfl) (hi 3 (by decide)) ?_
  refine yl_arg (kk := Int32.ofNat 4) H hx rfl (fun k st => rfl) (hi 4 (by decide)) ?_
  refine yl_arg (kk := Int32.ofNat 5) H hx rfl (fun k st => rfl) (hi 5 (by decide)) ?_
  refine yl_call H g_T_ok rfl rfl rfl rfl hA rfl ?_
  refine yl_scrK rfl (fun hx1 => ?_)
  refine yl_row H (fun k => rfl) ?_
  refine yl_arg (kk := Int32.ofNat 1) H hx1 rfl (fun k st => rfl) (hi 1 (by decide)) ?_
  refine yl_arg (kk := Int32.ofNat 2) H hx1 rfl (fun k st => rfl) (hi 2 (by decide)) ?_
  refine yl_arg (kk := Int32.ofNat 3) H hx1 rfl (fun k st => rfl) (hi 3 (by decide)) ?_
  refine yl_arg (kk := Int32.ofNat 4) H hx1 rfl (fun k st => rfl) (hi 4 (by decide)) ?_
  refine yl_arg (kk := Int32.ofNat 5) H hx1 rfl (fun k st => rfl) (hi 5 (by decide)) ?_
  refine yl_call H g_T_ok rfl rfl rfl rfl hB rfl ?_
  exact yl_jmp H (fun k => if_pos rfl) hend
theorem yl_d700 (H : yl_H E X 100) (hx : (cM L0 (s, g_rho)).1 2000 = X.2.2.2.2.2.2.1) (hi : yl_in L0 i) (hM : okM (s, g_rho)) (hk : 0 ≤ k) (hk2 : k ≤ 5000) (hI : INV k s) (hend : ∀ s2, INV (k + 1) s2 → okM (s2, g_rho) → yl_G E X 1498 (yl_L i u5 u6) [] (cM L0 (s2, g_rho))) : yl_K E X k327_700 (yl_L i u5 u6) [] (cM L0 (s, g_rho)) := by
  obtain ⟨x, s1, s2, h1, h2, h3⟩ := q_odds (p := (yl_s X i 1).toInt) (t := (yl_s X i 2).toInt) (x := (yl_s X i 3).toInt) (y := (yl_s X i 4).toInt) (w := (yl_s X i 5).toInt) (N := 5000) (by decide) hI
  obtain ⟨cA, m1⟩ := yl_conI (L0 := L0) (A := 148) H (f148_0_ok L0 5000 94 _ _ _ _ _ s h1) (okS_cons trivial (okS_cons (yl_rg _) (okS_cons (yl_rg _) (okS_cons (yl_rg _) (okS_cons (yl_rg _) (okS_cons (yl_rg _) okS_nil)))))) hM
  obtain ⟨cB, m2⟩ := yl_conI (L0 := L0) (A := 264) H (f264_63_ok L0 5000 91 _ _ _ _ _ s1 h2) (okS_cons trivial (okS_cons (yl_rg _) (okS_cons (yl_rg _) (okS_cons (yl_rg _) (okS_cons (yl_rg _) (okS_cons (yl_rg _) okS_nil)))))) m1
  have cA : g_Con X g_T E.2.1 100 148 [.ref 0, .int (Int32.ofInt (yl_s X i 1).toInt), .int (Int32.ofInt (yl_s X i 2).toInt), .int (Int32.ofInt (yl_s X i 3).toInt), .int (Int32.ofInt (yl_s X i 4).toInt), .int (Int32.ofInt (yl_s X i 5).toInt)] (cM L0 (s, g_rho)) (some (.int (Int32.ofInt x)), cM L0 (s1, g_rho)) := cA
  have cB : g_Con X g_T E.2.1 100 264 [.ref 63, .int (Int32.ofInt (yl_s X i 1).toInt), .int (Int32.ofInt (yl_s X i 2).toInt), .int (Int32.ofInt (yl_s X i 3).toInt), .int (Int32.ofInt (yl_s X i 4).toInt), .int (Int32.ofInt (yl_s X i 5).toInt)] (cM L0 (s1, g_rho)) (some (.int (Int32.ofInt x)), cM L0 (s2, g_rho)) := cB
  simp only [Int32.ofInt_toInt] at cA cB
  exact yl_c700 H hx hi cA cB (hend s2 h3 m2)
theorem yl_c921 {s1 s2 : gI} {x : Int32} (H : yl_H E X 100) (hx : (cM L0 (s, g_rho)).1 2000 = X.2.2.2.2.2.2.1) (hi : yl_in L0 i)
    (hA : g_Con X g_T E.2.1 100 151 [.ref 0, .int (yl_s X i 1)] (cM L0 (s, g_rho)) (some (.int x), cM L0 (s1, g_rho))) (hB : g_Con X g_T E.2.1 100 270 [.ref 63, .int (yl_s X i 1)] (cM L0 (s1, g_rho)) (some (.int x), cM L0 (s2, g_rho)))
    (hend : yl_G E X 1498 (yl_L i u5 u6) [] (cM L0 (s2, g_rho))) : yl_K E X k327_921 (yl_L i u5 u6) [] (cM L0 (s, g_rho)) := by
  refine yl_row H (fun k => rfl) ?_
  refine yl_arg (kk := Int32.ofNat 1) H hx rfl (fun k st => rfl) (hi 1 (by decide)) ?_
  refine yl_call H g_T_ok rfl rfl rfl rfl hA rfl ?_
  refine yl_scrK rfl (fun hx1 => ?_)
  refine yl_row H (fun k => rfl) ?_
  refine yl_arg (kk := Int32.ofNat 1) H hx1 rfl (fun k st => rfl) (hi 1 (by decide)) ?_
  refine yl_call H g_T_ok rfl rfl rfl rfl hB rfl ?_
  exact yl_jmp H (fun k => if_pos rfl) hend
theorem yl_d921 (H : yl_H E X 100) (hx : (cM L0 (s, g_rho)).1 2000 = X.2.2.2.2.2.2.1) (hi : yl_in L0 i) (hM : okM (s, g_rho)) (hk : 0 ≤ k) (hk2 : k ≤ 5000) (hI : INV k s) (hend : ∀ s2, INV (k + 1) s2 → okM (s2, g_rho) → yl_G E X 1498 (yl_L i u5 u6) [] (cM L0 (s2, g_rho))) : yl_K E X k327_921 (yl_L i u5 u6) [] (cM L0 (s, g_rho)) := by
  obtain ⟨x, s1, s2, h1, h2, h3⟩ := q_plan (a := (yl_s X i 1).toInt) (N := 5000) (by decide) hI
  obtain ⟨cA, m1⟩ := yl_conI (L0 := L0) (A := 151) H (f151_0_ok L0 5000 92 _ s h1) (okS_cons trivial (okS_cons (yl_rg _) okS_nil)) hM
  obtain ⟨cB, m2⟩ := yl_conI (L0 := L0) (A := 270) H (f270_63_ok L0 5000 88 _ s1 h2) (okS_cons trivial (okS_cons (yl_rg _) okS_nil)) m1
  have cA : g_Con X g_T E.2.1 100 151 [.ref 0, .int (Int32.ofInt (yl_s X i 1).toInt)] (cM L0 (s, g_rho)) (some (.int (Int32.ofInt x)), cM L0 (s1, g_rho)) := cA
  have cB : g_Con X g_T E.2.1 100 270 [.ref 63, .int (Int32.ofInt (yl_s X i 1).toInt)] (cM L0 (s1, g_rho)) (some (.int (Int32.ofInt x)), cM L0 (s2, g_rho)) := cB
  simp only [Int32.ofInt_toInt] at cA cB
  exact yl_c921 H hx hi cA cB (hend s2 h3 m2)
theorem yl_c946 {s1 s2 : gI} {x : Int32} (H : yl_H E X 100) (hx : (cM L0 (s, g_rho)).1 2000 = X.2.2.2.2.2.2.1) (hi : yl_in L0 i)
    (hA : g_Con X g_T E.2.1 100 152 [.ref 0, .int (yl_s X i 1), .int (yl_s X i 2)] (cM L0 (s, g_rho)) (some (.int x), cM L0 (s1, g_rho))) (hB : g_Con X g_T E.2.1 100 272 [.ref 63, .int (yl_s X i 1), .int (yl_s X i 2)] (cM L0 (s1, g_rho)) (some (.int x), cM L0 (s2, g_rho)))
    (hend : yl_G E X 1498 (yl_L i u5 u6) [] (cM L0 (s2, g_rho))) : yl_K E X k327_946 (yl_L i u5 u6) [] (cM L0 (s, g_rho)) := by
  refine yl_row H (fun k => rfl) ?_
  refine yl_arg (kk := Int32.ofNat 1) H hx rfl (fun k st => rfl) (hi 1 (by decide)) ?_
  refine yl_arg (kk := Int32.ofNat 2) H hx rfl (fun k st => rfl) (hi 2 (by decide)) ?_
  refine yl_call H g_T_ok rfl rfl rfl rfl hA rfl ?_
  refine yl_scrK rfl (fun hx1 => ?_)
  refine yl_row H (fun k => rfl) ?_
  refine yl_arg (kk := Int32.ofNat 1) H hx1 rfl (fun k st => rfl) (hi 1 (by decide)) ?_
  refine yl_arg (kk := Int32.ofNat 2) H hx1 rfl (fun k st => rfl) (hi 2 (by decide)) ?_
  refine yl_call H g_T_ok rfl rfl rfl rfl hB rfl ?_
  exact yl_jmp H (fun k => if_pos rfl) hend
theorem yl_d946 (H : yl_H E X 100) (hx : (cM L0 (s, g_rho)).1 2000 = X.2.2.2.2.2.2.1) (hi : yl_in L0 i) (hM : okM (s, g_rho)) (hk : 0 ≤ k) (hk2 : k ≤ 5000) (hI : INV k s) (hend : ∀ s2, INV (k + 1) s2 → okM (s2, g_rho) → yl_G E X 1498 (yl_L i u5 u6) [] (cM L0 (s2, g_rho))) : yl_K E X k327_946 (yl_L i u5 u6) [] (cM L0 (s, g_rho)) := by
  obtain ⟨x, s1, s2, h1, h2, h3⟩ := q_alone (t := (yl_s X i 1).toInt) (a := (yl_s X i 2).toInt) (N := 5000) (by decide) hI
  obtain ⟨cA, m1⟩ := yl_conI (L0 := L0) (A := 152) H (f152_0_ok L0 5000 93 _ _ s h1) (okS_cons trivial (okS_cons (yl_rg _) (okS_cons (yl_rg _) okS_nil))) hM
  obtain ⟨cB, m2⟩ := yl_conI (L0 := L0) (A := 272) H (f272_63_ok L0 5000 91 _ _ s1 h2) (okS_cons trivial (okS_cons (yl_rg _) (okS_cons (yl_rg _) okS_nil))) m1
  have cA : g_Con X g_T E.2.1 100 152 [.ref 0, .int (Int32.ofInt (yl_s X i 1).toInt), .int (Int32.ofInt (yl_s X i 2).toInt)] (cM L0 (s, g_rho)) (some (.int (Int32.ofInt x)), cM L0 (s1, g_rho)) := cA
  have cB : g_Con X g_T E.2.1 100 272 [.ref 63, .int (Int32.ofInt (yl_s X i 1).toInt), .int (Int32.ofInt (yl_s X i 2).toInt)] (cM L0 (s1, g_rho)) (some (.int (Int32.ofInt x)), cM L0 (s2, g_rho)) := cB
  simp only [Int32.ofInt_toInt] at cA cB
  exact yl_c946 H hx hi cA cB (hend s2 h3 m2)
theorem yl_c983 {s1 s2 : gI} {x : Int32} (H : yl_H E X 100) (hx : (cM L0 (s, g_rho)).1 2000 = X.2.2.2.2.2.2.1) (hi : yl_in L0 i)
    (hA : g_Con X g_T E.2.1 100 153 [.ref 0, .int (yl_s X i 1), .int (yl_s X i 2)] (cM L0 (s, g_rho)) (some (.int x), cM L0 (s1, g_rho))) (hB : g_Con X g_T E.2.1 100 273 [.ref 63, .int (yl_s X i 1), .int (yl_s X i 2)] (cM L0 (s1, g_rho)) (some (.int x), cM L0 (s2, g_rho)))
    (hend : yl_G E X 1498 (yl_L i u5 u6) [] (cM L0 (s2, g_rho))) : yl_K E X k327_983 (yl_L i u5 u6) [] (cM L0 (s, g_rho)) := by
  refine yl_row H (fun k => rfl) ?_
  refine yl_arg (kk := Int32.ofNat 1) H hx rfl (fun k st => rfl) (hi 1 (by decide)) ?_
  refine yl_arg (kk := Int32.ofNat 2) H hx rfl (fun k st => rfl) (hi 2 (by decide)) ?_
  refine yl_call H g_T_ok rfl rfl rfl rfl hA rfl ?_
  refine yl_scrK rfl (fun hx1 => ?_)
  refine yl_row H (fun k => rfl) ?_
  refine yl_arg (kk := Int32.ofNat 1) H hx1 rfl (fun k st => rfl) (hi 1 (by decide)) ?_
  refine yl_arg (kk := Int32.ofNat 2) H hx1 rfl (fun k st => rfl) (hi 2 (by decide)) ?_
  refine yl_call H g_T_ok rfl rfl rfl rfl hB rfl ?_
  exact yl_jmp H (fun k => if_pos rfl) hend
theorem yl_d983 (H : yl_H E X 100) (hx : (cM L0 (s, g_rho)).1 2000 = X.2.2.2.2.2.2.1) (hi : yl_in L0 i) (hM : okM (s, g_rho)) (hk : 0 ≤ k) (hk2 : k ≤ 5000) (hI : INV k s) (hend : ∀ s2, INV (k + 1) s2 → okM (s2, g_rho) → yl_G E X 1498 (yl_L i u5 u6) [] (cM L0 (s2, g_rho))) : yl_K E X k327_983 (yl_L i u5 u6) [] (cM L0 (s, g_rho)) := by
  obtain ⟨x, s1, s2, h1, h2, h3⟩ := q_washed (row := (yl_s X i 1).toInt) (a := (yl_s X i 2).toInt) (N := 5000) (by decide) hI
  obtain ⟨cA, m1⟩ := yl_conI (L0 := L0) (A := 153) H (f153_0_ok L0 5000 95 _ _ s h1) (okS_cons trivial (okS_cons (yl_rg _) (okS_cons (yl_rg _) okS_nil))) hM
  obtain ⟨cB, m2⟩ := yl_conI (L0 := L0) (A := 273) H (f273_63_ok L0 5000 93 _ _ s1 h2) (okS_cons trivial (okS_cons (yl_rg _) (okS_cons (yl_rg _) okS_nil))) m1
  have cA : g_Con X g_T E.2.1 100 153 [.ref 0, .int (Int32.ofInt (yl_s X i 1).toInt), .int (Int32.ofInt (yl_s X i 2).toInt)] (cM L0 (s, g_rho)) (some (.int (Int32.ofInt x)), cM L0 (s1, g_rho)) := cA
  have cB : g_Con X g_T E.2.1 100 273 [.ref 63, .int (Int32.ofInt (yl_s X i 1).toInt), .int (Int32.ofInt (yl_s X i 2).toInt)] (cM L0 (s1, g_rho)) (some (.int (Int32.ofInt x)), cM L0 (s2, g_rho)) := cB
  simp only [Int32.ofInt_toInt] at cA cB
  exact yl_c983 H hx hi cA cB (hend s2 h3 m2)
theorem yl_c1020 {s1 s2 : gI} {x : Int32} (H : yl_H E X 100) (hx : (cM L0 (s, g_rho)).1 2000 = X.2.2.2.2.2.2.1) (hi : yl_in L0 i)
    (hA : g_Con X g_T E.2.1 100 154 [.ref 0, .int (yl_s X i 1)] (cM L0 (s, g_rho)) (some (.int x), cM L0 (s1, g_rho))) (hB : g_Con X g_T E.2.1 100 274 [.ref 63, .int (yl_s X i 1)] (cM L0 (s1, g_rho)) (some (.int x), cM L0 (s2, g_rho)))
    (hend : yl_G E X 1498 (yl_L i u5 u6) [] (cM L0 (s2, g_rho))) : yl_K E X k327_1020 (yl_L i u5 u6) [] (cM L0 (s, g_rho)) := by
  refine yl_row H (fun k => rfl) ?_
  refine yl_arg (kk := Int32.ofNat 1) H hx rfl (fun k st => rfl) (hi 1 (by decide)) ?_
  refine yl_call H g_T_ok rfl rfl rfl rfl hA rfl ?_
  refine yl_scrK rfl (fun hx1 => ?_)
  refine yl_row H (fun k => rfl) ?_
  refine yl_arg (kk := Int32.ofNat 1) H hx1 rfl (fun k st => rfl) (hi 1 (by decide)) ?_
  refine yl_call H g_T_ok rfl rfl rfl rfl hB rfl ?_
  exact yl_jmp H (fun k => if_pos rfl) hend
theorem yl_d1020 (H : yl_H E X 100) (hx : (cM L0 (s, g_rho)).1 2000 = X.2.2.2.2.2.2.1) (hi : yl_in L0 i) (hM : okM (s, g_rho)) (hk : 0 ≤ k) (hk2 : k ≤ 5000) (hI : INV k s) (hend : ∀ s2, INV (k + 1) s2 → okM (s2, g_rho) → yl_G E X 1498 (yl_L i u5 u6) [] (cM L0 (s2, g_rho))) : yl_K E X k327_1020 (yl_L i u5 u6) [] (cM L0 (s, g_rho)) := by
  obtain ⟨x, s1, s2, h1, h2, h3⟩ := q_blown (a := (yl_s X i 1).toInt) (N := 5000) (by decide) hI
  obtain ⟨cA, m1⟩ := yl_conI (L0 := L0) (A := 154) H (f154_0_ok L0 5000 95 _ s h1) (okS_cons trivial (okS_cons (yl_rg _) okS_nil)) hM
  obtain ⟨cB, m2⟩ := yl_conI (L0 := L0) (A := 274) H (f274_63_ok L0 5000 93 _ s1 h2) (okS_cons trivial (okS_cons (yl_rg _) okS_nil)) m1
  have cA : g_Con X g_T E.2.1 100 154 [.ref 0, .int (Int32.ofInt (yl_s X i 1).toInt)] (cM L0 (s, g_rho)) (some (.int (Int32.ofInt x)), cM L0 (s1, g_rho)) := cA
  have cB : g_Con X g_T E.2.1 100 274 [.ref 63, .int (Int32.ofInt (yl_s X i 1).toInt)] (cM L0 (s1, g_rho)) (some (.int (Int32.ofInt x)), cM L0 (s2, g_rho)) := cB
  simp only [Int32.ofInt_toInt] at cA cB
  exact yl_c1020 H hx hi cA cB (hend s2 h3 m2)
theorem yl_c1101 {s1 s2 : gI} {x : Int32} (H : yl_H E X 100) (hx : (cM L0 (s, g_rho)).1 2000 = X.2.2.2.2.2.2.1) (hi : yl_in L0 i)
    (hA : g_Con X g_T E.2.1 100 156 [.ref 0, .int (yl_s X i 1), .int (yl_s X i 2)] (cM L0 (s, g_rho)) (some (.int x), cM L0 (s1, g_rho))) (hB : g_Con X g_T E.2.1 100 276 [.ref 63, .int (yl_s X i 1), .int (yl_s X i 2)] (cM L0 (s1, g_rho)) (some (.int x), cM L0 (s2, g_rho)))
    (hend : yl_G E X 1498 (yl_L i u5 u6) [] (cM L0 (s2, g_rho))) : yl_K E X k327_1101 (yl_L i u5 u6) [] (cM L0 (s, g_rho)) := by
  refine yl_row H (fun k => rfl) ?_
  refine yl_arg (kk := Int32.ofNat 1) H hx rfl (fun k st => rfl) (hi 1 (by decide)) ?_
  refine yl_arg (kk := Int32.ofNat 2) H hx rfl (fun k st => rfl) (hi 2 (by decide)) ?_
  refine yl_call H g_T_ok rfl rfl rfl rfl hA rfl ?_
  refine yl_scrK rfl (fun hx1 => ?_)
  refine yl_row H (fun k => rfl) ?_
  refine yl_arg (kk := Int32.ofNat 1) H hx1 rfl (fun k st => rfl) (hi 1 (by decide)) ?_
  refine yl_arg (kk := Int32.ofNat 2) H hx1 rfl (fun k st => rfl) (hi 2 (by decide)) ?_
  refine yl_call H g_T_ok rfl rfl rfl rfl hB rfl ?_
  exact yl_jmp H (fun k => if_pos rfl) hend
theorem yl_d1101 (H : yl_H E X 100) (hx : (cM L0 (s, g_rho)).1 2000 = X.2.2.2.2.2.2.1) (hi : yl_in L0 i) (hM : okM (s, g_rho)) (hk : 0 ≤ k) (hk2 : k ≤ 5000) (hI : INV k s) (hend : ∀ s2, INV (k + 1) s2 → okM (s2, g_rho) → yl_G E X 1498 (yl_L i u5 u6) [] (cM L0 (s2, g_rho))) : yl_K E X k327_1101 (yl_L i u5 u6) [] (cM L0 (s, g_rho)) := by
  obtain ⟨x, s1, s2, h1, h2, h3⟩ := q_see (x := (yl_s X i 1).toInt) (w := (yl_s X i 2).toInt) hI
  obtain ⟨cA, m1⟩ := yl_conI (L0 := L0) (A := 156) H (f156_0_ok L0 5000 99 _ _ s h1) (okS_cons trivial (okS_cons (yl_rg _) (okS_cons (yl_rg _) okS_nil))) hM
  obtain ⟨cB, m2⟩ := yl_conI (L0 := L0) (A := 276) H (f276_63_ok L0 5000 98 _ _ s1 h2) (okS_cons trivial (okS_cons (yl_rg _) (okS_cons (yl_rg _) okS_nil))) m1
  have cA : g_Con X g_T E.2.1 100 156 [.ref 0, .int (Int32.ofInt (yl_s X i 1).toInt), .int (Int32.ofInt (yl_s X i 2).toInt)] (cM L0 (s, g_rho)) (some (.int (Int32.ofInt x)), cM L0 (s1, g_rho)) := cA
  have cB : g_Con X g_T E.2.1 100 276 [.ref 63, .int (Int32.ofInt (yl_s X i 1).toInt), .int (Int32.ofInt (yl_s X i 2).toInt)] (cM L0 (s1, g_rho)) (some (.int (Int32.ofInt x)), cM L0 (s2, g_rho)) := cB
  simp only [Int32.ofInt_toInt] at cA cB
  exact yl_c1101 H hx hi cA cB (hend s2 h3 m2)
theorem yl_c1138 {s1 s2 : gI} {x : Int32} (H : yl_H E X 100) (hx : (cM L0 (s, g_rho)).1 2000 = X.2.2.2.2.2.2.1) (hi : yl_in L0 i)
    (hA : g_Con X g_T E.2.1 100 157 [.ref 0, .int (yl_s X i 1), .int (yl_s X i 2), .int (yl_s X i 3), .int (yl_s X i 4), .int (yl_s X i 5)] (cM L0 (s, g_rho)) (some (.int x), cM L0 (s1, g_rho))) (hB : g_Con X g_T E.2.1 100 279 [.ref 63, .int (yl_s X i 1), .int (yl_s X i 2), .int (yl_s X i 3), .int (yl_s X i 4), .int (yl_s X i 5)] (cM L0 (s1, g_rho)) (some (.int x), cM L0 (s2, g_rho)))
    (hend : yl_G E X 1498 (yl_L i u5 u6) [] (cM L0 (s2, g_rho))) : yl_K E X k327_1138 (yl_L i u5 u6) [] (cM L0 (s, g_rho)) := by
  refine yl_row H (fun k => rfl) ?_
  refine yl_arg (kk := Int32.ofNat 1) H hx rfl (fun k st => rfl) (hi 1 (by decide)) ?_
  refine yl_arg (kk := Int32.ofNat 2) H hx rfl (fun k st => rfl) (hi 2 (by decide)) ?_
  refine yl_arg (kk := Int32.ofNat 3) H hx rfl (fun k st => rfl) (hi 3 (by decide)) ?_
  refine yl_arg (kk := Int32.ofNat 4) H hx rfl (fun k st => rfl) (hi 4 (by decide)) ?_
  refine yl_arg (kk := Int32.ofNat 5) H hx rfl (fun k st => rfl) (hi 5 (by decide)) ?_
  refine yl_call H g_T_ok rfl rfl rfl rfl hA rfl ?_
  refine yl_scrK rfl (fun hx1 => ?_)
  refine yl_row H (fun k => rfl) ?_
  refine yl_arg (kk := Int32.ofNat 1) H hx1 rfl (fun k st => rfl) (hi 1 (by decide)) ?_
  refine yl_arg (kk := Int32.ofNat 2) H hx1 rfl (fun k st => rfl) (hi 2 (by decide)) ?_
  refine yl_arg (kk := Int32.ofNat 3) H hx1 rfl (fun k st => rfl) (hi 3 (by decide)) ?_
  refine yl_arg (kk := Int32.ofNat 4) H hx1 rfl (fun k st => rfl) (hi 4 (by decide)) ?_
  refine yl_arg (kk := Int32.ofNat 5) H hx1 rfl (fun k st => rfl) (hi 5 (by decide)) ?_
  refine yl_call H g_T_ok rfl rfl rfl rfl hB rfl ?_
  exact yl_jmp H (fun k => if_pos rfl) hend
theorem yl_d1138 (H : yl_H E X 100) (hx : (cM L0 (s, g_rho)).1 2000 = X.2.2.2.2.2.2.1) (hi : yl_in L0 i) (hM : okM (s, g_rho)) (hk : 0 ≤ k) (hk2 : k ≤ 5000) (hI : INV k s) (hend : ∀ s2, INV (k + 1) s2 → okM (s2, g_rho) → yl_G E X 1498 (yl_L i u5 u6) [] (cM L0 (s2, g_rho))) : yl_K E X k327_1138 (yl_L i u5 u6) [] (cM L0 (s, g_rho)) := by
  obtain ⟨x, s1, s2, h1, h2, h3⟩ := q_lies (q := (yl_s X i 1).toInt) (t := (yl_s X i 2).toInt) (x := (yl_s X i 3).toInt) (y := (yl_s X i 4).toInt) (a := (yl_s X i 5).toInt) (N := 5000) (by decide) hI
  obtain ⟨cA, m1⟩ := yl_conI (L0 := L0) (A := 157) H (f157_0_ok L0 5000 94 _ _ _ _ _ s h1) (okS_cons trivial (okS_cons (yl_rg _) (okS_cons (yl_rg _) (okS_cons (yl_rg _) (okS_cons (yl_rg _) (okS_cons (yl_rg _) okS_nil)))))) hM
  obtain ⟨cB, m2⟩ := yl_conI (L0 := L0) (A := 279) H (f279_63_ok L0 5000 91 _ _ _ _ _ s1 h2) (okS_cons trivial (okS_cons (yl_rg _) (okS_cons (yl_rg _) (okS_cons (yl_rg _) (okS_cons (yl_rg _) (okS_cons (yl_rg _) okS_nil)))))) m1
  have cA : g_Con X g_T E.2.1 100 157 [.ref 0, .int (Int32.ofInt (yl_s X i 1).toInt), .int (Int32.ofInt (yl_s X i 2).toInt), .int (Int32.ofInt (yl_s X i 3).toInt), .int (Int32.ofInt (yl_s X i 4).toInt), .int (Int32.ofInt (yl_s X i 5).toInt)] (cM L0 (s, g_rho)) (some (.int (Int32.ofInt x)), cM L0 (s1, g_rho)) := cA
  have cB : g_Con X g_T E.2.1 100 279 [.ref 63, .int (Int32.ofInt (yl_s X i 1).toInt), .int (Int32.ofInt (yl_s X i 2).toInt), .int (Int32.ofInt (yl_s X i 3).toInt), .int (Int32.ofInt (yl_s X i 4).toInt), .int (Int32.ofInt (yl_s X i 5).toInt)] (cM L0 (s1, g_rho)) (some (.int (Int32.ofInt x)), cM L0 (s2, g_rho)) := cB
  simp only [Int32.ofInt_toInt] at cA cB
  exact yl_c1138 H hx hi cA cB (hend s2 h3 m2)
theorem yl_c1211 {s1 s2 : gI} {x : Int32} (H : yl_H E X 100) (hx : (cM L0 (s, g_rho)).1 2000 = X.2.2.2.2.2.2.1) (hi : yl_in L0 i)
    (hA : g_Con X g_T E.2.1 100 158 [.ref 0, .int (yl_s X i 1)] (cM L0 (s, g_rho)) (some (.int x), cM L0 (s1, g_rho))) (hB : g_Con X g_T E.2.1 100 282 [.ref 63, .int (yl_s X i 1)] (cM L0 (s1, g_rho)) (some (.int x), cM L0 (s2, g_rho)))
    (hend : yl_G E X 1498 (yl_L i u5 u6) [] (cM L0 (s2, g_rho))) : yl_K E X k327_1211 (yl_L i u5 u6) [] (cM L0 (s, g_rho)) := by
  refine yl_row H (fun k => rfl) ?_
  refine yl_arg (kk := Int32.ofNat 1) H hx rfl (fun k st => rfl) (hi 1 (by decide)) ?_
  refine yl_call H g_T_ok rfl rfl rfl rfl hA rfl ?_
  refine yl_scrK rfl (fun hx1 => ?_)
  refine yl_row H (fun k => rfl) ?_
  refine yl_arg (kk := Int32.ofNat 1) H hx1 rfl (fun k st => rfl) (hi 1 (by decide)) ?_
  refine yl_call H g_T_ok rfl rfl rfl rfl hB rfl ?_
  exact yl_jmp H (fun k => if_pos rfl) hend
theorem yl_d1211 (H : yl_H E X 100) (hx : (cM L0 (s, g_rho)).1 2000 = X.2.2.2.2.2.2.1) (hi : yl_in L0 i) (hM : okM (s, g_rho)) (hk : 0 ≤ k) (hk2 : k ≤ 5000) (hI : INV k s) (hend : ∀ s2, INV (k + 1) s2 → okM (s2, g_rho) → yl_G E X 1498 (yl_L i u5 u6) [] (cM L0 (s2, g_rho))) : yl_K E X k327_1211 (yl_L i u5 u6) [] (cM L0 (s, g_rho)) := by
  obtain ⟨x, s1, s2, h1, h2, h3⟩ := q_pitch (a := (yl_s X i 1).toInt) (N := 5000) (by decide) hI (yl_rg _)
  obtain ⟨cA, m1⟩ := yl_conI (L0 := L0) (A := 158) H (f158_0_ok L0 5000 96 _ s h1) (okS_cons trivial (okS_cons (yl_rg _) okS_nil)) hM
  obtain ⟨cB, m2⟩ := yl_conI (L0 := L0) (A := 282) H (f282_63_ok L0 5000 93 _ s1 h2) (okS_cons trivial (okS_cons (yl_rg _) okS_nil)) m1
  have cA : g_Con X g_T E.2.1 100 158 [.ref 0, .int (Int32.ofInt (yl_s X i 1).toInt)] (cM L0 (s, g_rho)) (some (.int (Int32.ofInt x)), cM L0 (s1, g_rho)) := cA
  have cB : g_Con X g_T E.2.1 100 282 [.ref 63, .int (Int32.ofInt (yl_s X i 1).toInt)] (cM L0 (s1, g_rho)) (some (.int (Int32.ofInt x)), cM L0 (s2, g_rho)) := cB
  simp only [Int32.ofInt_toInt] at cA cB
  exact yl_c1211 H hx hi cA cB (hend s2 h3 m2)
theorem yl_c1236 {s1 s2 : gI} {x : Int32} (H : yl_H E X 100) (hx : (cM L0 (s, g_rho)).1 2000 = X.2.2.2.2.2.2.1) (hi : yl_in L0 i)
    (hA : g_Con X g_T E.2.1 100 159 [.ref 0, .int (yl_s X i 1), .int (yl_s X i 2)] (cM L0 (s, g_rho)) (some (.int x), cM L0 (s1, g_rho))) (hB : g_Con X g_T E.2.1 100 283 [.ref 63, .int (yl_s X i 1), .int (yl_s X i 2)] (cM L0 (s1, g_rho)) (some (.int x), cM L0 (s2, g_rho)))
    (hend : yl_G E X 1498 (yl_L i u5 u6) [] (cM L0 (s2, g_rho))) : yl_K E X k327_1236 (yl_L i u5 u6) [] (cM L0 (s, g_rho)) := by
  refine yl_row H (fun k => rfl) ?_
  refine yl_arg (kk := Int32.ofNat 1) H hx rfl (fun k st => rfl) (hi 1 (by decide)) ?_
  refine yl_arg (kk := Int32.ofNat 2) H hx rfl (fun k st => rfl) (hi 2 (by decide)) ?_
  refine yl_call H g_T_ok rfl rfl rfl rfl hA rfl ?_
  refine yl_scrK rfl (fun hx1 => ?_)
  refine yl_row H (fun k => rfl) ?_
  refine yl_arg (kk := Int32.ofNat 1) H hx1 rfl (fun k st => rfl) (hi 1 (by decide)) ?_
  refine yl_arg (kk := Int32.ofNat 2) H hx1 rfl (fun k st => rfl) (hi 2 (by decide)) ?_
  refine yl_call H g_T_ok rfl rfl rfl rfl hB rfl ?_
  exact yl_jmp H (fun k => if_pos rfl) hend
theorem yl_d1236 (H : yl_H E X 100) (hx : (cM L0 (s, g_rho)).1 2000 = X.2.2.2.2.2.2.1) (hi : yl_in L0 i) (hM : okM (s, g_rho)) (hk : 0 ≤ k) (hk2 : k ≤ 5000) (hI : INV k s) (hend : ∀ s2, INV (k + 1) s2 → okM (s2, g_rho) → yl_G E X 1498 (yl_L i u5 u6) [] (cM L0 (s2, g_rho))) : yl_K E X k327_1236 (yl_L i u5 u6) [] (cM L0 (s, g_rho)) := by
  obtain ⟨x, s1, s2, h1, h2, h3⟩ := q_pays (a := (yl_s X i 1).toInt) (b := (yl_s X i 2).toInt) (N := 5000) (by decide) hI
  obtain ⟨cA, m1⟩ := yl_conI (L0 := L0) (A := 159) H (f159_0_ok L0 5000 98 _ _ s h1) (okS_cons trivial (okS_cons (yl_rg _) (okS_cons (yl_rg _) okS_nil))) hM
  obtain ⟨cB, m2⟩ := yl_conI (L0 := L0) (A := 283) H (f283_63_ok L0 5000 97 _ _ s1 h2) (okS_cons trivial (okS_cons (yl_rg _) (okS_cons (yl_rg _) okS_nil))) m1
  have cA : g_Con X g_T E.2.1 100 159 [.ref 0, .int (Int32.ofInt (yl_s X i 1).toInt), .int (Int32.ofInt (yl_s X i 2).toInt)] (cM L0 (s, g_rho)) (some (.int (Int32.ofInt x)), cM L0 (s1, g_rho)) := cA
  have cB : g_Con X g_T E.2.1 100 283 [.ref 63, .int (Int32.ofInt (yl_s X i 1).toInt), .int (Int32.ofInt (yl_s X i 2).toInt)] (cM L0 (s1, g_rho)) (some (.int (Int32.ofInt x)), cM L0 (s2, g_rho)) := cB
  simp only [Int32.ofInt_toInt] at cA cB
  exact yl_c1236 H hx hi cA cB (hend s2 h3 m2)
theorem yl_c1273 {s1 s2 : gI} {x : Int32} (H : yl_H E X 100) (hx : (cM L0 (s, g_rho)).1 2000 = X.2.2.2.2.2.2.1) (hi : yl_in L0 i)
    (hA : g_Con X g_T E.2.1 100 160 [.ref 0, .int (yl_s X i 1), .int (yl_s X i 2)] (cM L0 (s, g_rho)) (some (.int x), cM L0 (s1, g_rho))) (hB : g_Con X g_T E.2.1 100 286 [.ref 63, .int (yl_s X i 1), .int (yl_s X i 2)] (cM L0 (s1, g_rho)) (some (.int x), cM L0 (s2, g_rho)))
    (hend : yl_G E X 1498 (yl_L i u5 u6) [] (cM L0 (s2, g_rho))) : yl_K E X k327_1273 (yl_L i u5 u6) [] (cM L0 (s, g_rho)) := by
  refine yl_row H (fun k => rfl) ?_
  refine yl_arg (kk := Int32.ofNat 1) H hx rfl (fun k st => rfl) (hi 1 (by decide)) ?_
  refine yl_arg (kk := Int32.ofNat 2) H hx rfl (fun k st => rfl) (hi 2 (by decide)) ?_
  refine yl_call H g_T_ok rfl rfl rfl rfl hA rfl ?_
  refine yl_scrK rfl (fun hx1 => ?_)
  refine yl_row H (fun k => rfl) ?_
  refine yl_arg (kk := Int32.ofNat 1) H hx1 rfl (fun k st => rfl) (hi 1 (by decide)) ?_
  refine yl_arg (kk := Int32.ofNat 2) H hx1 rfl (fun k st => rfl) (hi 2 (by decide)) ?_
  refine yl_call H g_T_ok rfl rfl rfl rfl hB rfl ?_
  exact yl_jmp H (fun k => if_pos rfl) hend
theorem yl_d1273 (H : yl_H E X 100) (hx : (cM L0 (s, g_rho)).1 2000 = X.2.2.2.2.2.2.1) (hi : yl_in L0 i) (hM : okM (s, g_rho)) (hk : 0 ≤ k) (hk2 : k ≤ 5000) (hI : INV k s) (hend : ∀ s2, INV (k + 1) s2 → okM (s2, g_rho) → yl_G E X 1498 (yl_L i u5 u6) [] (cM L0 (s2, g_rho))) : yl_K E X k327_1273 (yl_L i u5 u6) [] (cM L0 (s, g_rho)) := by
  obtain ⟨x, s1, s2, h1, h2, h3⟩ := q_rests (pr := (yl_s X i 1).toInt) (w := (yl_s X i 2).toInt) (N := 5000) (by decide) hI
  obtain ⟨cA, m1⟩ := yl_conI (L0 := L0) (A := 160) H (f160_0_ok L0 5000 96 _ _ s h1) (okS_cons trivial (okS_cons (yl_rg _) (okS_cons (yl_rg _) okS_nil))) hM
  obtain ⟨cB, m2⟩ := yl_conI (L0 := L0) (A := 286) H (f286_63_ok L0 5000 96 _ _ s1 h2) (okS_cons trivial (okS_cons (yl_rg _) (okS_cons (yl_rg _) okS_nil))) m1
  have cA : g_Con X g_T E.2.1 100 160 [.ref 0, .int (Int32.ofInt (yl_s X i 1).toInt), .int (Int32.ofInt (yl_s X i 2).toInt)] (cM L0 (s, g_rho)) (some (.int (Int32.ofInt x)), cM L0 (s1, g_rho)) := cA
  have cB : g_Con X g_T E.2.1 100 286 [.ref 63, .int (Int32.ofInt (yl_s X i 1).toInt), .int (Int32.ofInt (yl_s X i 2).toInt)] (cM L0 (s1, g_rho)) (some (.int (Int32.ofInt x)), cM L0 (s2, g_rho)) := cB
  simp only [Int32.ofInt_toInt] at cA cB
  exact yl_c1273 H hx hi cA cB (hend s2 h3 m2)
theorem yl_c1310 {s1 s2 : gI} {x : Int32} (H : yl_H E X 100) (hx : (cM L0 (s, g_rho)).1 2000 = X.2.2.2.2.2.2.1) (hi : yl_in L0 i)
    (hA : g_Con X g_T E.2.1 100 161 [.ref 0, .int (yl_s X i 1), .int (yl_s X i 2), .int (yl_s X i 3), .int (yl_s X i 4)] (cM L0 (s, g_rho)) (some (.int x), cM L0 (s1, g_rho))) (hB : g_Con X g_T E.2.1 100 287 [.ref 63, .int (yl_s X i 1), .int (yl_s X i 2), .int (yl_s X i 3), .int (yl_s X i 4)] (cM L0 (s1, g_rho)) (some (.int x), cM L0 (s2, g_rho)))
    (hend : yl_G E X 1498 (yl_L i u5 u6) [] (cM L0 (s2, g_rho))) : yl_K E X k327_1310 (yl_L i u5 u6) [] (cM L0 (s, g_rho)) := by
  refine yl_row H (fun k => rfl) ?_
  refine yl_arg (kk := Int32.ofNat 1) H hx rfl (fun k st => rfl) (hi 1 (by decide)) ?_
  refine yl_arg (kk := Int32.ofNat 2) H hx rfl (fun k st => rfl) (hi 2 (by decide)) ?_
  refine yl_arg (kk := Int32.ofNat 3) H hx rfl (fun k st => rfl) (hi 3 (by decide)) ?_
  refine yl_arg (kk := Int32.ofNat 4) H hx rfl (fun k st => rfl) (hi 4 (by decide)) ?_
  refine yl_call H g_T_ok rfl rfl rfl rfl hA rfl ?_
  refine yl_scrK rfl (fun hx1 => ?_)
  refine yl_row H (fun k => rfl) ?_
  refine yl_arg (kk := Int32.ofNat 1) H hx1 rfl (fun k st => rfl) (hi 1 (by decide)) ?_
  refine yl_arg (kk := Int32.ofNat 2) H hx1 rfl (fun k st => rfl) (hi 2 (by decide)) ?_
  refine yl_arg (kk := Int32.ofNat 3) H hx1 rfl (fun k st => rfl) (hi 3 (by decide)) ?_
  refine yl_arg (kk := Int32.ofNat 4) H hx1 rfl (fun k st => rfl) (hi 4 (by decide)) ?_
  refine yl_call H g_T_ok rfl rfl rfl rfl hB rfl ?_
  exact yl_jmp H (fun k => if_pos rfl) hend
theorem yl_d1310 (H : yl_H E X 100) (hx : (cM L0 (s, g_rho)).1 2000 = X.2.2.2.2.2.2.1) (hi : yl_in L0 i) (hM : okM (s, g_rho)) (hk : 0 ≤ k) (hk2 : k ≤ 5000) (hI : INV k s) (hend : ∀ s2, INV (k + 1) s2 → okM (s2, g_rho) → yl_G E X 1498 (yl_L i u5 u6) [] (cM L0 (s2, g_rho))) : yl_K E X k327_1310 (yl_L i u5 u6) [] (cM L0 (s, g_rho)) := by
  obtain ⟨x, s1, s2, h1, h2, h3⟩ := q_otherwise (x := (yl_s X i 1).toInt) (y := (yl_s X i 2).toInt) (place := (yl_s X i 3).toInt) (a := (yl_s X i 4).toInt) (N := 5000) (by decide) hI
  obtain ⟨cA, m1⟩ := yl_conI (L0 := L0) (A := 161) H (f161_0_ok L0 5000 96 _ _ _ _ s h1) (okS_cons trivial (okS_cons (yl_rg _) (okS_cons (yl_rg _) (okS_cons (yl_rg _) (okS_cons (yl_rg _) okS_nil))))) hM
  obtain ⟨cB, m2⟩ := yl_conI (L0 := L0) (A := 287) H (f287_63_ok L0 5000 95 _ _ _ _ s1 h2) (okS_cons trivial (okS_cons (yl_rg _) (okS_cons (yl_rg _) (okS_cons (yl_rg _) (okS_cons (yl_rg _) okS_nil))))) m1
  have cA : g_Con X g_T E.2.1 100 161 [.ref 0, .int (Int32.ofInt (yl_s X i 1).toInt), .int (Int32.ofInt (yl_s X i 2).toInt), .int (Int32.ofInt (yl_s X i 3).toInt), .int (Int32.ofInt (yl_s X i 4).toInt)] (cM L0 (s, g_rho)) (some (.int (Int32.ofInt x)), cM L0 (s1, g_rho)) := cA
  have cB : g_Con X g_T E.2.1 100 287 [.ref 63, .int (Int32.ofInt (yl_s X i 1).toInt), .int (Int32.ofInt (yl_s X i 2).toInt), .int (Int32.ofInt (yl_s X i 3).toInt), .int (Int32.ofInt (yl_s X i 4).toInt)] (cM L0 (s1, g_rho)) (some (.int (Int32.ofInt x)), cM L0 (s2, g_rho)) := cB
  simp only [Int32.ofInt_toInt] at cA cB
  exact yl_c1310 H hx hi cA cB (hend s2 h3 m2)
theorem yl_c1371 {s1 s2 : gI} {x : Int32} (H : yl_H E X 100) (hx : (cM L0 (s, g_rho)).1 2000 = X.2.2.2.2.2.2.1) (hi : yl_in L0 i)
    (hA : g_Con X g_T E.2.1 100 162 [.ref 0, .int (yl_s X i 1), .int (yl_s X i 2), .int (yl_s X i 3)] (cM L0 (s, g_rho)) (some (.int x), cM L0 (s1, g_rho))) (hB : g_Con X g_T E.2.1 100 290 [.ref 63, .int (yl_s X i 1), .int (yl_s X i 2), .int (yl_s X i 3)] (cM L0 (s1, g_rho)) (some (.int x), cM L0 (s2, g_rho)))
    (hend : yl_G E X 1498 (yl_L i u5 u6) [] (cM L0 (s2, g_rho))) : yl_K E X k327_1371 (yl_L i u5 u6) [] (cM L0 (s, g_rho)) := by
  refine yl_row H (fun k => rfl) ?_
  refine yl_arg (kk := Int32.ofNat 1) H hx rfl (fun k st => rfl) (hi 1 (by decide)) ?_
  refine yl_arg (kk := Int32.ofNat 2) H hx rfl (fun k st => rfl) (hi 2 (by decide)) ?_
  refine yl_arg (kk := Int32.ofNat 3) H hx rfl (fun k st => rfl) (hi 3 (by decide)) ?_
  refine yl_call H g_T_ok rfl rfl rfl rfl hA rfl ?_
  refine yl_scrK rfl (fun hx1 => ?_)
  refine yl_row H (fun k => rfl) ?_
  refine yl_arg (kk := Int32.ofNat 1) H hx1 rfl (fun k st => rfl) (hi 1 (by decide)) ?_
  refine yl_arg (kk := Int32.ofNat 2) H hx1 rfl (fun k st => rfl) (hi 2 (by decide)) ?_
  refine yl_arg (kk := Int32.ofNat 3) H hx1 rfl (fun k st => rfl) (hi 3 (by decide)) ?_
  refine yl_call H g_T_ok rfl rfl rfl rfl hB rfl ?_
  exact yl_jmp H (fun k => if_pos rfl) hend
theorem yl_d1371 (H : yl_H E X 100) (hx : (cM L0 (s, g_rho)).1 2000 = X.2.2.2.2.2.2.1) (hi : yl_in L0 i) (hM : okM (s, g_rho)) (hk : 0 ≤ k) (hk2 : k ≤ 5000) (hI : INV k s) (hend : ∀ s2, INV (k + 1) s2 → okM (s2, g_rho) → yl_G E X 1498 (yl_L i u5 u6) [] (cM L0 (s2, g_rho))) : yl_K E X k327_1371 (yl_L i u5 u6) [] (cM L0 (s, g_rho)) := by
  obtain ⟨x, s1, s2, h1, h2, h3⟩ := q_summer (sd := (yl_s X i 1).toInt) (n := (yl_s X i 2).toInt) (a := (yl_s X i 3).toInt) (N := 5000) (by decide) hI hk hk2
  obtain ⟨cA, m1⟩ := yl_conI (L0 := L0) (A := 162) H (f162_0_ok L0 5000 93 _ _ _ s h1) (okS_cons trivial (okS_cons (yl_rg _) (okS_cons (yl_rg _) (okS_cons (yl_rg _) okS_nil)))) hM
  obtain ⟨cB, m2⟩ := yl_conI (L0 := L0) (A := 290) H (f290_63_ok L0 5000 91 _ _ _ s1 h2) (okS_cons trivial (okS_cons (yl_rg _) (okS_cons (yl_rg _) (okS_cons (yl_rg _) okS_nil)))) m1
  have cA : g_Con X g_T E.2.1 100 162 [.ref 0, .int (Int32.ofInt (yl_s X i 1).toInt), .int (Int32.ofInt (yl_s X i 2).toInt), .int (Int32.ofInt (yl_s X i 3).toInt)] (cM L0 (s, g_rho)) (some (.int (Int32.ofInt x)), cM L0 (s1, g_rho)) := cA
  have cB : g_Con X g_T E.2.1 100 290 [.ref 63, .int (Int32.ofInt (yl_s X i 1).toInt), .int (Int32.ofInt (yl_s X i 2).toInt), .int (Int32.ofInt (yl_s X i 3).toInt)] (cM L0 (s1, g_rho)) (some (.int (Int32.ofInt x)), cM L0 (s2, g_rho)) := cB
  simp only [Int32.ofInt_toInt] at cA cB
  exact yl_c1371 H hx hi cA cB (hend s2 h3 m2)
theorem yl_c1473 {s1 s2 : gI} {x : Int32} (H : yl_H E X 100) (hx : (cM L0 (s, g_rho)).1 2000 = X.2.2.2.2.2.2.1) (hi : yl_in L0 i)
    (hA : g_Con X g_T E.2.1 100 164 [.ref 0, .int (yl_s X i 1)] (cM L0 (s, g_rho)) (some (.int x), cM L0 (s1, g_rho))) (hB : g_Con X g_T E.2.1 100 292 [.ref 63, .int (yl_s X i 1)] (cM L0 (s1, g_rho)) (some (.int x), cM L0 (s2, g_rho)))
    (hend : yl_G E X 1498 (yl_L i u5 u6) [] (cM L0 (s2, g_rho))) : yl_K E X k327_1473 (yl_L i u5 u6) [] (cM L0 (s, g_rho)) := by
  refine yl_row H (fun k => rfl) ?_
  refine yl_arg (kk := Int32.ofNat 1) H hx rfl (fun k st => rfl) (hi 1 (by decide)) ?_
  refine yl_call H g_T_ok rfl rfl rfl rfl hA rfl ?_
  refine yl_scrK rfl (fun hx1 => ?_)
  refine yl_row H (fun k => rfl) ?_
  refine yl_arg (kk := Int32.ofNat 1) H hx1 rfl (fun k st => rfl) (hi 1 (by decide)) ?_
  refine yl_call H g_T_ok rfl rfl rfl rfl hB rfl ?_
  exact yl_jmp H (fun k => if_pos rfl) hend
theorem yl_d1473 (H : yl_H E X 100) (hx : (cM L0 (s, g_rho)).1 2000 = X.2.2.2.2.2.2.1) (hi : yl_in L0 i) (hM : okM (s, g_rho)) (hk : 0 ≤ k) (hk2 : k ≤ 5000) (hI : INV k s) (hend : ∀ s2, INV (k + 1) s2 → okM (s2, g_rho) → yl_G E X 1498 (yl_L i u5 u6) [] (cM L0 (s2, g_rho))) : yl_K E X k327_1473 (yl_L i u5 u6) [] (cM L0 (s, g_rho)) := by
  obtain ⟨x, s1, s2, h1, h2, h3⟩ := q_count (a := (yl_s X i 1).toInt) (N := 5000) (by decide) hI
  obtain ⟨cA, m1⟩ := yl_conI (L0 := L0) (A := 164) H (f164_0_ok L0 5000 96 _ s h1) (okS_cons trivial (okS_cons (yl_rg _) okS_nil)) hM
  obtain ⟨cB, m2⟩ := yl_conI (L0 := L0) (A := 292) H (f292_63_ok L0 5000 97 _ s1 h2) (okS_cons trivial (okS_cons (yl_rg _) okS_nil)) m1
  have cA : g_Con X g_T E.2.1 100 164 [.ref 0, .int (Int32.ofInt (yl_s X i 1).toInt)] (cM L0 (s, g_rho)) (some (.int (Int32.ofInt x)), cM L0 (s1, g_rho)) := cA
  have cB : g_Con X g_T E.2.1 100 292 [.ref 63, .int (Int32.ofInt (yl_s X i 1).toInt)] (cM L0 (s1, g_rho)) (some (.int (Int32.ofInt x)), cM L0 (s2, g_rho)) := cB
  simp only [Int32.ofInt_toInt] at cA cB
  exact yl_c1473 H hx hi cA cB (hend s2 h3 m2)
end LAWCASES

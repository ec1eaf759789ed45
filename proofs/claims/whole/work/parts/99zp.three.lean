/-! gain, next and await: what the law asks, and what it holds against what the reference says. (Written by a program of mine.) -/
section ZCASES
variable {F : yl_F} {X : gX} {L0 B : Nat} {s : gI} {k : Int} {i : Int32} {u5 u6 : Option Value}
theorem yl_okl {s1 : gI} {y : Int} (h : okM (s1, g_rho)) (hy : rgl y) : okM (iwl s1 81 0 y, g_rho) := by
  refine ⟨h.1, fun a j => ?_⟩
  show rgl ((iwl s1 81 0 y).2 a j)
  by_cases g : a = 81
  · subst g
    rw [iwl_at]
    unfold zup
    split
    · exact hy
    · exact h.2 81 j
  · rw [iwl_ne g]
    exact h.2 a j
theorem yl_sQl {s1 : gI} {y : Int} (h : sameQ s s1) : sameQ s (iwl s1 81 0 y) := h.tr ⟨fun _ _ => rfl, rfl, rfl, rfl, fun _ _ => rfl, iwl_ne (by decide)⟩
theorem yl_r64 (x : Int32) : rgl x.toInt64.toInt := by
  have h1 := Int32.le_toInt x
  have h2 := Int32.toInt_lt x
  have e : x.toInt64.toInt = x.toInt := Int32.toInt_toInt64 x
  rw [e]
  exact ⟨by omega, by omega⟩
theorem yl_l81 {s1 s2 : gI} {x : Int32} (h : s2.2 = (iwl s1 81 0 x.toInt64.toInt).2) : (cM L0 (s2, g_rho)).2.1 81 0 = x.toInt64 := by
  show Int64.ofInt (s2.2 81 ((0 : Nat) : Int)) = _
  rw [h, iwl_at]
  have : zup (s1.2 81) 0 x.toInt64.toInt ((0 : Nat) : Int) = x.toInt64.toInt := zup_same _ _ _
  rw [this, Int64.ofInt_toInt]
theorem yl_cmp0 (x : Int64) : lg_cmp x x = 0 := by
  unfold lg_cmp
  rw [if_neg (show ¬ x > x from Int64.lt_irrefl), if_pos rfl]
theorem yl_u1 (x : Int32) : yl_u (some (.int x)) := fun w h => ⟨x, (Option.some.inj h).symm⟩
theorem yl_dec3 : decode code 799 = .ok (.invokestatic 94, 3) ∧ decode code 873 = .ok (.invokestatic 103, 3) ∧ decode code 1053 = .ok (.invokestatic 123, 3) := by decide +kernel
theorem yl_m3 : ((g_y 324).cls ≠ "java/lang/invoke/MethodHandle" ∧ (g_y 324).cls ≠ "java/lang/invoke/VarHandle") ∧ ((g_y 325).cls ≠ "java/lang/invoke/MethodHandle" ∧ (g_y 325).cls ≠ "java/lang/invoke/VarHandle") ∧ ((g_y 326).cls ≠ "java/lang/invoke/MethodHandle" ∧ (g_y 326).cls ≠ "java/lang/invoke/VarHandle") := by decide +kernel
theorem yl_p3 : (parseMethodDescriptor (g_y 324).desc).map (fun d => d.parameters.length) = some 6 ∧ (parseMethodDescriptor (g_y 325).desc).map (fun d => d.parameters.length) = some 3 ∧ (parseMethodDescriptor (g_y 326).desc).map (fun d => d.parameters.length) = some 3 := by decide +kernel
theorem yl_i3 : Cond.initialized (g_y 324).cls ∈ g_tw ∧ Cond.initialized (g_y 325).cls ∈ g_tw ∧ Cond.initialized (g_y 326).cls ∈ g_tw := by decide +kernel
theorem yl_d773 (hl : F.2.1.stackTraces = false) (H : yl_H (yl_S F B) X 100) (hZ : zl_Z X F.2.2.2.2.1 F.2.2.2.2.1.heap) (hR : 2048 ≤ F.2.2.2.1.frames ∧ 601024 ≤ F.2.2.2.1.cells ∧ 7293034 ≤ F.2.2.2.1.slots ∧ 84000 ≤ F.2.2.2.1.locals) (hx : (cM L0 (s, g_rho)).1 2000 = X.2.2.2.2.2.2.1) (hi : yl_in L0 i) (hM : okM (s, g_rho)) (hk : 0 ≤ k) (hk2 : k ≤ 5000) (hI : INV k s)
    (hend : ∀ s2 w5 w6, yl_u w5 → yl_u w6 → INV (k + 1) s2 → okM (s2, g_rho) → yl_G (yl_S F B) X 1498 (yl_L i w5 w6) [] (cM L0 (s2, g_rho))) : yl_K (yl_S F (B + 1)) X k327_773 (yl_L i u5 u6) [] (cM L0 (s, g_rho)) := by
  have eS : F.2.1 = (yl_S F B).2.1 := rfl
  have H1 : yl_H (yl_S F (B + 1)) X 100 := H
  have tail : ∀ (s9 : gI) (b y : Int32), INV (k + 1) s9 → okM (s9, g_rho) → ∀ B2, (∀ s2 w5 w6, yl_u w5 → yl_u w6 → INV (k + 1) s2 → okM (s2, g_rho) → yl_G (yl_S F B2) X 1498 (yl_L i w5 w6) [] (cM L0 (s2, g_rho))) → (b = 1 ∨ (b = 0 ∧ (cM L0 (s9, g_rho)).2.1 81 0 = y.toInt64)) → yl_G (yl_S F B2) X 845 (yl_L i (some (.int b)) (some (.int y))) [] (cM L0 (s9, g_rho)) := by
    intro s9 b y hI9 hM9 B2 hend2 hb
    have H2 : yl_H (yl_S F B2) X 100 := H
    have done := hend2 s9 (some (.int b)) (some (.int y)) (yl_u1 b) (yl_u1 y) hI9 hM9
    have out : yl_G (yl_S F B2) X 862 (yl_L i (some (.int b)) (some (.int y))) [] (cM L0 (s9, g_rho)) := by
      refine yl_at gl_862 ?_
      exact yl_jmp H2 (fun k => rfl) done
    refine yl_at gl_845 ?_
    refine yl_row H2 (fun k => rfl) ?_
    rcases hb with hb | ⟨hb, hl81⟩
    · subst hb
      exact yl_jmp H2 (fun k => rfl) out
    · subst hb
      refine yl_row H2 (fun k => rfl) ?_
      refine yl_row H2 (fun k => rfl) ?_
      refine yl_row H2 (fun k => rfl) ?_
      refine yl_row (L1 := yl_L i (some (.int 0)) (some (.int y))) (st1 := [.long y.toInt64]) H2 (fun k => ?_) ?_
      · rw [← hl81]
        rfl
      refine yl_row H2 (fun k => rfl) ?_
      refine yl_row H2 (fun k => rfl) ?_
      refine yl_row (L1 := yl_L i (some (.int 0)) (some (.int y))) (st1 := [.int 0]) H2 (fun k => ?_) ?_
      · show k none _ [.int (lg_cmp y.toInt64 y.toInt64)] _ = _
        rw [yl_cmp0]
      exact yl_jmp H2 (fun k => rfl) out
  have back : ∀ (sw s2 : gI) (b y z : Int32) (B2 : Nat), okM (s2, g_rho) → INV (k + 1) s2 → g_Con X g_T F.2.1 100 266 [.ref 63, .int (yl_s X i 1), .int (yl_s X i 2), .int (yl_s X i 3), .int (yl_s X i 4)] (cM L0 (sw, g_rho)) (some (.int y), cM L0 (s2, g_rho)) → g_Con X g_T F.2.1 100 173 [.ref 63] (cM L0 (s2, g_rho)) (some (.int b), cM L0 (s2, g_rho)) → (∀ s2 w5 w6, yl_u w5 → yl_u w6 → INV (k + 1) s2 → okM (s2, g_rho) → yl_G (yl_S F B2) X 1498 (yl_L i w5 w6) [] (cM L0 (s2, g_rho))) → (b = 1 ∨ (b = 0 ∧ (cM L0 (s2, g_rho)).2.1 81 0 = y.toInt64)) → yl_K (yl_S F B2) X ((802, .istore 5, 2, 0, 0, 0) :: (804, .aload_n 2, 1, 0, 0, 0) :: (805, .aload_n 0, 1, 0, 0, 0) :: (806, .iload 4, 2, 0, 0, 0) :: (808, .iconst 1, 1, 1, 0, 0) :: (809, .iadd, 1, 0, 0, 0) :: (810, .iaload, 1, 0, 0, 0) :: (811, .aload_n 0, 1, 0, 0, 0) :: (812, .iload 4, 2, 0, 0, 0) :: (814, .iconst 2, 1, 2, 0, 0) :: (815, .iadd, 1, 0, 0, 0) :: (816, .iaload, 1, 0, 0, 0) :: (817, .aload_n 0, 1, 0, 0, 0) :: (818, .iload 4, 2, 0, 0, 0) :: (820, .iconst 3, 1, 3, 0, 0) :: (821, .iadd, 1, 0, 0, 0) :: (822, .iaload, 1, 0, 0, 0) :: (823, .aload_n 0, 1, 0, 0, 0) :: (824, .iload 4, 2, 0, 0, 0) :: (826, .iconst 4, 1, 4, 0, 0) :: (827, .iadd, 1, 0, 0, 0) :: (828, .iaload, 1, 0, 0, 0) :: (829, .invokevirtual 99, 3, 266, 4, 192) :: (832, .istore 6, 2, 0, 0, 0) :: (834, .aload_n 2, 1, 0, 0, 0) :: (835, .invokevirtual 100, 3, 173, 0, 192) :: (838, .iload 5, 2, 0, 0, 0) :: (840, .if_icmp .eq 5, 3, 845, 0, 0) :: (843, .iconst 0, 1, 0, 0, 0) :: (844, .ireturn, 1, 0, 0, 3) :: []) (yl_L i u5 u6) [.int b] (cM L0 (sw, g_rho)) := by
    intro sw s2 b y z B2 hM2 hI2 hB hT hend2 hb
    have H2 : yl_H (yl_S F B2) X 100 := H
    refine yl_scrK rfl (fun hx1 => ?_)
    refine yl_row (L1 := yl_L i (some (.int b)) u6) (st1 := []) H2 (fun k => rfl) ?_
    refine yl_row H2 (fun k => rfl) ?_
    refine yl_arg (kk := Int32.ofNat 1) H2 hx1 rfl (fun k st => rfl) (hi 1 (by decide)) ?_
    refine yl_arg (kk := Int32.ofNat 2) H2 hx1 rfl (fun k st => rfl) (hi 2 (by decide)) ?_
    refine yl_arg (kk := Int32.ofNat 3) H2 hx1 rfl (fun k st => rfl) (hi 3 (by decide)) ?_
    refine yl_arg (kk := Int32.ofNat 4) H2 hx1 rfl (fun k st => rfl) (hi 4 (by decide)) ?_
    refine yl_call H2 g_T_ok rfl rfl rfl rfl hB rfl ?_
    refine yl_row (L1 := yl_L i (some (.int b)) (some (.int y))) (st1 := []) H2 (fun k => rfl) ?_
    refine yl_row H2 (fun k => rfl) ?_
    refine yl_call H2 g_T_ok rfl rfl rfl rfl hT rfl ?_
    refine yl_row H2 (fun k => rfl) ?_
    exact yl_jmp H2 (fun k => if_pos rfl) (tail s2 b y hI2 hM2 B2 hend2 hb)
  refine yl_row H1 (fun k => rfl) ?_
  refine yl_arg (kk := Int32.ofNat 1) H1 hx rfl (fun k st => rfl) (hi 1 (by decide)) ?_
  refine yl_arg (kk := Int32.ofNat 2) H1 hx rfl (fun k st => rfl) (hi 2 (by decide)) ?_
  refine yl_arg (kk := Int32.ofNat 3) H1 hx rfl (fun k st => rfl) (hi 3 (by decide)) ?_
  refine yl_arg (kk := Int32.ofNat 4) H1 hx rfl (fun k st => rfl) (hi 4 (by decide)) ?_
  refine yl_row H1 (fun k => rfl) ?_
  by_cases hm : mayP s (yl_s X i 1).toInt (yl_s X i 2).toInt (yl_s X i 3).toInt (yl_s X i 4).toInt
  · obtain ⟨v, s1, c1, q1, hw⟩ := y_gain (N := 5000) (by decide) hI hm
    obtain ⟨cA, m1⟩ := zl_conI (l := F.2.1) (L0 := L0) (A := 149) H.2 (f149_0_ok L0 5000 94 _ _ _ _ s c1) (okS_cons trivial (okS_cons (yl_rg _) (okS_cons (yl_rg _) (okS_cons (yl_rg _) (okS_cons (yl_rg _) (okS_nil)))))) hM
    have cA : g_Con X g_T F.2.1 101 149 [.ref 0, .int (Int32.ofInt (yl_s X i 1).toInt), .int (Int32.ofInt (yl_s X i 2).toInt), .int (Int32.ofInt (yl_s X i 3).toInt), .int (Int32.ofInt (yl_s X i 4).toInt)] (cM L0 (s, g_rho)) (some (.int (Int32.ofInt v)), cM L0 (s1, g_rho)) := cA
    simp only [Int32.ofInt_toInt] at cA
    have m2 := yl_okl m1 (yl_r64 (Int32.ofInt v))
    obtain ⟨s2, c2, q2, z2, l2⟩ := hw _ (yl_sQl (y := (Int32.ofInt v).toInt64.toInt) q1)
    obtain ⟨cB, m3⟩ := zl_conI (l := F.2.1) (L0 := L0) (A := 266) H.2 (f266_63_ok L0 5000 90 _ _ _ _ _ c2) (okS_cons trivial (okS_cons (yl_rg _) (okS_cons (yl_rg _) (okS_cons (yl_rg _) (okS_cons (yl_rg _) (okS_nil)))))) m2
    have cB : g_Con X g_T F.2.1 100 266 [.ref 63, .int (Int32.ofInt (yl_s X i 1).toInt), .int (Int32.ofInt (yl_s X i 2).toInt), .int (Int32.ofInt (yl_s X i 3).toInt), .int (Int32.ofInt (yl_s X i 4).toInt)] (cM L0 (iwl s1 81 0 (Int32.ofInt v).toInt64.toInt, g_rho)) (some (.int (Int32.ofInt v)), cM L0 (s2, g_rho)) := cB
    simp only [Int32.ofInt_toInt] at cB
    have e173 : f173 5000 s2 = some (0, s2) := by
      show some (s2.1 63 0, s2) = _
      rw [z2]
    obtain ⟨cT, -⟩ := zl_conI (l := F.2.1) (L0 := L0) (A := 173) H.2 (f173_63_ok L0 5000 99 s2 e173) (okS_cons trivial okS_nil) m3
    have cT : g_Con X g_T F.2.1 100 173 [.ref 63] (cM L0 (s2, g_rho)) (some (.int 0), cM L0 (s2, g_rho)) := cT
    refine yl_scall (F := F) (B := B + 1) (n := 0) (As := [.ref 0, .int (yl_s X i 1), .int (yl_s X i 2), .int (yl_s X i 3), .int (yl_s X i 4), .ref 81]) (st1 := []) (k := 0) H hZ hR (zl_N324 H.2 cA) zl_c324.1 zl_s324.1 zl_s324.2.1 yl_i3.1 yl_m3.1 yl_p3.1 (by decide) yl_dec3.1 rfl rfl rfl rfl ?_
    exact back _ s2 0 (Int32.ofInt v) 0 (B + 1) m3 (INV_mono (by omega) (sameQ_inv q2 hI)) cB cT (fun s2 w5 w6 a b c d => yl_mono (n := 1) (hend s2 w5 w6 a b c d)) (Or.inr ⟨rfl, yl_l81 l2⟩)
  · obtain ⟨n1, n2⟩ := q_gainNo (N := 5000) hI hm
    obtain ⟨cB, m3⟩ := zl_conI (l := F.2.1) (L0 := L0) (A := 266) H.2 (f266_63_ok L0 5000 90 _ _ _ _ _ n2) (okS_cons trivial (okS_cons (yl_rg _) (okS_cons (yl_rg _) (okS_cons (yl_rg _) (okS_cons (yl_rg _) (okS_nil)))))) hM
    have cB : g_Con X g_T F.2.1 100 266 [.ref 63, .int (Int32.ofInt (yl_s X i 1).toInt), .int (Int32.ofInt (yl_s X i 2).toInt), .int (Int32.ofInt (yl_s X i 3).toInt), .int (Int32.ofInt (yl_s X i 4).toInt)] (cM L0 (s, g_rho)) (some (.int 0), cM L0 (iw s 63 0 1, g_rho)) := cB
    simp only [Int32.ofInt_toInt] at cB
    have e173 : f173 5000 (iw s 63 0 1) = some (1, iw s 63 0 1) := by
      show some ((iw s 63 0 1).1 63 0, iw s 63 0 1) = _
      rw [iw_at, zup_same]
    obtain ⟨cT, -⟩ := zl_conI (l := F.2.1) (L0 := L0) (A := 173) H.2 (f173_63_ok L0 5000 99 _ e173) (okS_cons trivial okS_nil) m3
    have cT : g_Con X g_T F.2.1 100 173 [.ref 63] (cM L0 (iw s 63 0 1, g_rho)) (some (.int 1), cM L0 (iw s 63 0 1, g_rho)) := cT
    refine yl_scall (F := F) (B := B) (n := 1) (As := [.ref 0, .int (yl_s X i 1), .int (yl_s X i 2), .int (yl_s X i 3), .int (yl_s X i 4), .ref 81]) (st1 := []) (k := 1) H hZ hR (zl_T324 H.2 (zl_gain hl H.2 hM n1)) zl_c324.1 zl_s324.1 zl_s324.2.1 yl_i3.1 yl_m3.1 yl_p3.1 (by decide) yl_dec3.1 rfl rfl rfl rfl ?_
    exact back _ _ 1 0 0 B m3 (INV_mono (by omega) (INV_thrown hI)) cB cT hend (Or.inl rfl)
theorem yl_d865 (hl : F.2.1.stackTraces = false) (H : yl_H (yl_S F B) X 100) (hZ : zl_Z X F.2.2.2.2.1 F.2.2.2.2.1.heap) (hR : 2048 ≤ F.2.2.2.1.frames ∧ 601024 ≤ F.2.2.2.1.cells ∧ 7293034 ≤ F.2.2.2.1.slots ∧ 84000 ≤ F.2.2.2.1.locals) (hx : (cM L0 (s, g_rho)).1 2000 = X.2.2.2.2.2.2.1) (hi : yl_in L0 i) (hM : okM (s, g_rho)) (hk : 0 ≤ k) (hk2 : k ≤ 5000) (hI : INV k s)
    (hend : ∀ s2 w5 w6, yl_u w5 → yl_u w6 → INV (k + 1) s2 → okM (s2, g_rho) → yl_G (yl_S F B) X 1498 (yl_L i w5 w6) [] (cM L0 (s2, g_rho))) : yl_K (yl_S F (B + 1)) X k327_865 (yl_L i u5 u6) [] (cM L0 (s, g_rho)) := by
  have eS : F.2.1 = (yl_S F B).2.1 := rfl
  have H1 : yl_H (yl_S F (B + 1)) X 100 := H
  have tail : ∀ (s9 : gI) (b y : Int32), INV (k + 1) s9 → okM (s9, g_rho) → ∀ B2, (∀ s2 w5 w6, yl_u w5 → yl_u w6 → INV (k + 1) s2 → okM (s2, g_rho) → yl_G (yl_S F B2) X 1498 (yl_L i w5 w6) [] (cM L0 (s2, g_rho))) → (b = 1 ∨ (b = 0 ∧ (cM L0 (s9, g_rho)).2.1 81 0 = y.toInt64)) → yl_G (yl_S F B2) X 901 (yl_L i (some (.int b)) (some (.int y))) [] (cM L0 (s9, g_rho)) := by
    intro s9 b y hI9 hM9 B2 hend2 hb
    have H2 : yl_H (yl_S F B2) X 100 := H
    have done := hend2 s9 (some (.int b)) (some (.int y)) (yl_u1 b) (yl_u1 y) hI9 hM9
    have out : yl_G (yl_S F B2) X 918 (yl_L i (some (.int b)) (some (.int y))) [] (cM L0 (s9, g_rho)) := by
      refine yl_at gl_918 ?_
      exact yl_jmp H2 (fun k => rfl) done
    refine yl_at gl_901 ?_
    refine yl_row H2 (fun k => rfl) ?_
    rcases hb with hb | ⟨hb, hl81⟩
    · subst hb
      exact yl_jmp H2 (fun k => rfl) out
    · subst hb
      refine yl_row H2 (fun k => rfl) ?_
      refine yl_row H2 (fun k => rfl) ?_
      refine yl_row H2 (fun k => rfl) ?_
      refine yl_row (L1 := yl_L i (some (.int 0)) (some (.int y))) (st1 := [.long y.toInt64]) H2 (fun k => ?_) ?_
      · rw [← hl81]
        rfl
      refine yl_row H2 (fun k => rfl) ?_
      refine yl_row H2 (fun k => rfl) ?_
      refine yl_row (L1 := yl_L i (some (.int 0)) (some (.int y))) (st1 := [.int 0]) H2 (fun k => ?_) ?_
      · show k none _ [.int (lg_cmp y.toInt64 y.toInt64)] _ = _
        rw [yl_cmp0]
      exact yl_jmp H2 (fun k => rfl) out
  have back : ∀ (sw s2 : gI) (b y z : Int32) (B2 : Nat), okM (s2, g_rho) → INV (k + 1) s2 → g_Con X g_T F.2.1 100 268 [.ref 63, .int (yl_s X i 1)] (cM L0 (sw, g_rho)) (some (.int y), cM L0 (s2, g_rho)) → g_Con X g_T F.2.1 100 173 [.ref 63] (cM L0 (s2, g_rho)) (some (.int b), cM L0 (s2, g_rho)) → (∀ s2 w5 w6, yl_u w5 → yl_u w6 → INV (k + 1) s2 → okM (s2, g_rho) → yl_G (yl_S F B2) X 1498 (yl_L i w5 w6) [] (cM L0 (s2, g_rho))) → (b = 1 ∨ (b = 0 ∧ (cM L0 (s2, g_rho)).2.1 81 0 = y.toInt64)) → yl_K (yl_S F B2) X ((876, .istore 5, 2, 0, 0, 0) :: (878, .aload_n 2, 1, 0, 0, 0) :: (879, .aload_n 0, 1, 0, 0, 0) :: (880, .iload 4, 2, 0, 0, 0) :: (882, .iconst 1, 1, 1, 0, 0) :: (883, .iadd, 1, 0, 0, 0) :: (884, .iaload, 1, 0, 0, 0) :: (885, .invokevirtual 106, 3, 268, 1, 192) :: (888, .istore 6, 2, 0, 0, 0) :: (890, .aload_n 2, 1, 0, 0, 0) :: (891, .invokevirtual 100, 3, 173, 0, 192) :: (894, .iload 5, 2, 0, 0, 0) :: (896, .if_icmp .eq 5, 3, 901, 0, 0) :: (899, .iconst 0, 1, 0, 0, 0) :: (900, .ireturn, 1, 0, 0, 3) :: []) (yl_L i u5 u6) [.int b] (cM L0 (sw, g_rho)) := by
    intro sw s2 b y z B2 hM2 hI2 hB hT hend2 hb
    have H2 : yl_H (yl_S F B2) X 100 := H
    refine yl_scrK rfl (fun hx1 => ?_)
    refine yl_row (L1 := yl_L i (some (.int b)) u6) (st1 := []) H2 (fun k => rfl) ?_
    refine yl_row H2 (fun k => rfl) ?_
    refine yl_arg (kk := Int32.ofNat 1) H2 hx1 rfl (fun k st => rfl) (hi 1 (by decide)) ?_
    refine yl_call H2 g_T_ok rfl rfl rfl rfl hB rfl ?_
    refine yl_row (L1 := yl_L i (some (.int b)) (some (.int y))) (st1 := []) H2 (fun k => rfl) ?_
    refine yl_row H2 (fun k => rfl) ?_
    refine yl_call H2 g_T_ok rfl rfl rfl rfl hT rfl ?_
    refine yl_row H2 (fun k => rfl) ?_
    exact yl_jmp H2 (fun k => if_pos rfl) (tail s2 b y hI2 hM2 B2 hend2 hb)
  refine yl_row H1 (fun k => rfl) ?_
  refine yl_arg (kk := Int32.ofNat 1) H1 hx rfl (fun k st => rfl) (hi 1 (by decide)) ?_
  refine yl_row H1 (fun k => rfl) ?_
  by_cases hm : (0 ≤ (yl_s X i 1).toInt ∧ (yl_s X i 1).toInt ≤ 3) ∧ mayN s
  · obtain ⟨v, s1, c1, q1, hw⟩ := y_next (N := 5000) (by decide) hI hm.1 hm.2
    obtain ⟨cA, m1⟩ := zl_conI (l := F.2.1) (L0 := L0) (A := 150) H.2 (f150_0_ok L0 5000 93 _ s c1) (okS_cons trivial (okS_cons (yl_rg _) (okS_nil))) hM
    have cA : g_Con X g_T F.2.1 101 150 [.ref 0, .int (Int32.ofInt (yl_s X i 1).toInt)] (cM L0 (s, g_rho)) (some (.int (Int32.ofInt v)), cM L0 (s1, g_rho)) := cA
    simp only [Int32.ofInt_toInt] at cA
    have m2 := yl_okl m1 (yl_r64 (Int32.ofInt v))
    obtain ⟨s2, c2, q2, z2, l2⟩ := hw _ (yl_sQl (y := (Int32.ofInt v).toInt64.toInt) q1)
    obtain ⟨cB, m3⟩ := zl_conI (l := F.2.1) (L0 := L0) (A := 268) H.2 (f268_63_ok L0 5000 90 _ _ c2) (okS_cons trivial (okS_cons (yl_rg _) (okS_nil))) m2
    have cB : g_Con X g_T F.2.1 100 268 [.ref 63, .int (Int32.ofInt (yl_s X i 1).toInt)] (cM L0 (iwl s1 81 0 (Int32.ofInt v).toInt64.toInt, g_rho)) (some (.int (Int32.ofInt v)), cM L0 (s2, g_rho)) := cB
    simp only [Int32.ofInt_toInt] at cB
    have e173 : f173 5000 s2 = some (0, s2) := by
      show some (s2.1 63 0, s2) = _
      rw [z2]
    obtain ⟨cT, -⟩ := zl_conI (l := F.2.1) (L0 := L0) (A := 173) H.2 (f173_63_ok L0 5000 99 s2 e173) (okS_cons trivial okS_nil) m3
    have cT : g_Con X g_T F.2.1 100 173 [.ref 63] (cM L0 (s2, g_rho)) (some (.int 0), cM L0 (s2, g_rho)) := cT
    refine yl_scall (F := F) (B := B + 1) (n := 0) (As := [.ref 0, .int (yl_s X i 1), .ref 81]) (st1 := []) (k := 0) H hZ hR (zl_N325 H.2 cA) zl_c324.2.1 zl_s324.2.2.1 zl_s324.2.2.2.1 yl_i3.2.1 yl_m3.2.1 yl_p3.2.1 (by decide) yl_dec3.2.1 rfl rfl rfl rfl ?_
    exact back _ s2 0 (Int32.ofInt v) 0 (B + 1) m3 (INV_mono (by omega) (sameQ_inv q2 hI)) cB cT (fun s2 w5 w6 a b c d => yl_mono (n := 1) (hend s2 w5 w6 a b c d)) (Or.inr ⟨rfl, yl_l81 l2⟩)
  · obtain ⟨-, n3, n2⟩ := q_nextNo (N := 5000) (by decide) hI hm
    have n1 : ¬ (0 ≤ (yl_s X i 1).toInt ∧ (yl_s X i 1).toInt ≤ 3) ∨ f170 5000 s = some (0, s) := by
      by_cases g : 0 ≤ (yl_s X i 1).toInt ∧ (yl_s X i 1).toInt ≤ 3
      · exact Or.inr (n3 g)
      · exact Or.inl g
    obtain ⟨cB, m3⟩ := zl_conI (l := F.2.1) (L0 := L0) (A := 268) H.2 (f268_63_ok L0 5000 90 _ _ n2) (okS_cons trivial (okS_cons (yl_rg _) (okS_nil))) hM
    have cB : g_Con X g_T F.2.1 100 268 [.ref 63, .int (Int32.ofInt (yl_s X i 1).toInt)] (cM L0 (s, g_rho)) (some (.int 0), cM L0 (iw s 63 0 1, g_rho)) := cB
    simp only [Int32.ofInt_toInt] at cB
    have e173 : f173 5000 (iw s 63 0 1) = some (1, iw s 63 0 1) := by
      show some ((iw s 63 0 1).1 63 0, iw s 63 0 1) = _
      rw [iw_at, zup_same]
    obtain ⟨cT, -⟩ := zl_conI (l := F.2.1) (L0 := L0) (A := 173) H.2 (f173_63_ok L0 5000 99 _ e173) (okS_cons trivial okS_nil) m3
    have cT : g_Con X g_T F.2.1 100 173 [.ref 63] (cM L0 (iw s 63 0 1, g_rho)) (some (.int 1), cM L0 (iw s 63 0 1, g_rho)) := cT
    refine yl_scall (F := F) (B := B) (n := 1) (As := [.ref 0, .int (yl_s X i 1), .ref 81]) (st1 := []) (k := 1) H hZ hR (zl_T325 H.2 (zl_next hl H.2 hM n1)) zl_c324.2.1 zl_s324.2.2.1 zl_s324.2.2.2.1 yl_i3.2.1 yl_m3.2.1 yl_p3.2.1 (by decide) yl_dec3.2.1 rfl rfl rfl rfl ?_
    exact back _ _ 1 0 0 B m3 (INV_mono (by omega) (INV_thrown hI)) cB cT hend (Or.inl rfl)
theorem yl_d1045 (hl : F.2.1.stackTraces = false) (H : yl_H (yl_S F B) X 100) (hZ : zl_Z X F.2.2.2.2.1 F.2.2.2.2.1.heap) (hR : 2048 ≤ F.2.2.2.1.frames ∧ 601024 ≤ F.2.2.2.1.cells ∧ 7293034 ≤ F.2.2.2.1.slots ∧ 84000 ≤ F.2.2.2.1.locals) (hx : (cM L0 (s, g_rho)).1 2000 = X.2.2.2.2.2.2.1) (hi : yl_in L0 i) (hM : okM (s, g_rho)) (hk : 0 ≤ k) (hk2 : k ≤ 5000) (hI : INV k s)
    (hend : ∀ s2 w5 w6, yl_u w5 → yl_u w6 → INV (k + 1) s2 → okM (s2, g_rho) → yl_G (yl_S F B) X 1498 (yl_L i w5 w6) [] (cM L0 (s2, g_rho))) : yl_K (yl_S F (B + 1)) X k327_1045 (yl_L i u5 u6) [] (cM L0 (s, g_rho)) := by
  have eS : F.2.1 = (yl_S F B).2.1 := rfl
  have H1 : yl_H (yl_S F (B + 1)) X 100 := H
  have tail : ∀ (s9 : gI) (b y : Int32), INV (k + 1) s9 → okM (s9, g_rho) → ∀ B2, (∀ s2 w5 w6, yl_u w5 → yl_u w6 → INV (k + 1) s2 → okM (s2, g_rho) → yl_G (yl_S F B2) X 1498 (yl_L i w5 w6) [] (cM L0 (s2, g_rho))) → (b = 1 ∨ (b = 0 ∧ (cM L0 (s9, g_rho)).2.1 81 0 = y.toInt64)) → yl_G (yl_S F B2) X 1081 (yl_L i (some (.int b)) (some (.int y))) [] (cM L0 (s9, g_rho)) := by
    intro s9 b y hI9 hM9 B2 hend2 hb
    have H2 : yl_H (yl_S F B2) X 100 := H
    have done := hend2 s9 (some (.int b)) (some (.int y)) (yl_u1 b) (yl_u1 y) hI9 hM9
    have out : yl_G (yl_S F B2) X 1098 (yl_L i (some (.int b)) (some (.int y))) [] (cM L0 (s9, g_rho)) := by
      refine yl_at gl_1098 ?_
      exact yl_jmp H2 (fun k => rfl) done
    refine yl_at gl_1081 ?_
    refine yl_row H2 (fun k => rfl) ?_
    rcases hb with hb | ⟨hb, hl81⟩
    · subst hb
      exact yl_jmp H2 (fun k => rfl) out
    · subst hb
      refine yl_row H2 (fun k => rfl) ?_
      refine yl_row H2 (fun k => rfl) ?_
      refine yl_row H2 (fun k => rfl) ?_
      refine yl_row (L1 := yl_L i (some (.int 0)) (some (.int y))) (st1 := [.long y.toInt64]) H2 (fun k => ?_) ?_
      · rw [← hl81]
        rfl
      refine yl_row H2 (fun k => rfl) ?_
      refine yl_row H2 (fun k => rfl) ?_
      refine yl_row (L1 := yl_L i (some (.int 0)) (some (.int y))) (st1 := [.int 0]) H2 (fun k => ?_) ?_
      · show k none _ [.int (lg_cmp y.toInt64 y.toInt64)] _ = _
        rw [yl_cmp0]
      exact yl_jmp H2 (fun k => rfl) out
  have back : ∀ (sw s2 : gI) (b y z : Int32) (B2 : Nat), okM (s2, g_rho) → INV (k + 1) s2 → g_Con X g_T F.2.1 100 275 [.ref 63, .int (yl_s X i 1)] (cM L0 (sw, g_rho)) (some (.int y), cM L0 (s2, g_rho)) → g_Con X g_T F.2.1 100 173 [.ref 63] (cM L0 (s2, g_rho)) (some (.int b), cM L0 (s2, g_rho)) → (∀ s2 w5 w6, yl_u w5 → yl_u w6 → INV (k + 1) s2 → okM (s2, g_rho) → yl_G (yl_S F B2) X 1498 (yl_L i w5 w6) [] (cM L0 (s2, g_rho))) → (b = 1 ∨ (b = 0 ∧ (cM L0 (s2, g_rho)).2.1 81 0 = y.toInt64)) → yl_K (yl_S F B2) X ((1056, .istore 5, 2, 0, 0, 0) :: (1058, .aload_n 2, 1, 0, 0, 0) :: (1059, .aload_n 0, 1, 0, 0, 0) :: (1060, .iload 4, 2, 0, 0, 0) :: (1062, .iconst 1, 1, 1, 0, 0) :: (1063, .iadd, 1, 0, 0, 0) :: (1064, .iaload, 1, 0, 0, 0) :: (1065, .invokevirtual 125, 3, 275, 1, 192) :: (1068, .istore 6, 2, 0, 0, 0) :: (1070, .aload_n 2, 1, 0, 0, 0) :: (1071, .invokevirtual 100, 3, 173, 0, 192) :: (1074, .iload 5, 2, 0, 0, 0) :: (1076, .if_icmp .eq 5, 3, 1081, 0, 0) :: (1079, .iconst 0, 1, 0, 0, 0) :: (1080, .ireturn, 1, 0, 0, 3) :: []) (yl_L i u5 u6) [.int b] (cM L0 (sw, g_rho)) := by
    intro sw s2 b y z B2 hM2 hI2 hB hT hend2 hb
    have H2 : yl_H (yl_S F B2) X 100 := H
    refine yl_scrK rfl (fun hx1 => ?_)
    refine yl_row (L1 := yl_L i (some (.int b)) u6) (st1 := []) H2 (fun k => rfl) ?_
    refine yl_row H2 (fun k => rfl) ?_
    refine yl_arg (kk := Int32.ofNat 1) H2 hx1 rfl (fun k st => rfl) (hi 1 (by decide)) ?_
    refine yl_call H2 g_T_ok rfl rfl rfl rfl hB rfl ?_
    refine yl_row (L1 := yl_L i (some (.int b)) (some (.int y))) (st1 := []) H2 (fun k => rfl) ?_
    refine yl_row H2 (fun k => rfl) ?_
    refine yl_call H2 g_T_ok rfl rfl rfl rfl hT rfl ?_
    refine yl_row H2 (fun k => rfl) ?_
    exact yl_jmp H2 (fun k => if_pos rfl) (tail s2 b y hI2 hM2 B2 hend2 hb)
  refine yl_row H1 (fun k => rfl) ?_
  refine yl_arg (kk := Int32.ofNat 1) H1 hx rfl (fun k st => rfl) (hi 1 (by decide)) ?_
  refine yl_row H1 (fun k => rfl) ?_
  by_cases hm : 0 ≤ (yl_s X i 1).toInt ∧ (yl_s X i 1).toInt ≤ 1
  · obtain ⟨v, s1, c1, q1, hw⟩ := y_await (N := 5000) (by decide) hI hk hk2 hm
    obtain ⟨cA, m1⟩ := zl_conI (l := F.2.1) (L0 := L0) (A := 155) H.2 (f155_0_ok L0 5000 95 _ s c1) (okS_cons trivial (okS_cons (yl_rg _) (okS_nil))) hM
    have cA : g_Con X g_T F.2.1 101 155 [.ref 0, .int (Int32.ofInt (yl_s X i 1).toInt)] (cM L0 (s, g_rho)) (some (.int (Int32.ofInt v)), cM L0 (s1, g_rho)) := cA
    simp only [Int32.ofInt_toInt] at cA
    have m2 := yl_okl m1 (yl_r64 (Int32.ofInt v))
    obtain ⟨s2, c2, q2, z2, l2⟩ := hw _ (yl_sQl (y := (Int32.ofInt v).toInt64.toInt) q1)
    obtain ⟨cB, m3⟩ := zl_conI (l := F.2.1) (L0 := L0) (A := 275) H.2 (f275_63_ok L0 5000 95 _ _ c2) (okS_cons trivial (okS_cons (yl_rg _) (okS_nil))) m2
    have cB : g_Con X g_T F.2.1 100 275 [.ref 63, .int (Int32.ofInt (yl_s X i 1).toInt)] (cM L0 (iwl s1 81 0 (Int32.ofInt v).toInt64.toInt, g_rho)) (some (.int (Int32.ofInt v)), cM L0 (s2, g_rho)) := cB
    simp only [Int32.ofInt_toInt] at cB
    have e173 : f173 5000 s2 = some (0, s2) := by
      show some (s2.1 63 0, s2) = _
      rw [z2]
    obtain ⟨cT, -⟩ := zl_conI (l := F.2.1) (L0 := L0) (A := 173) H.2 (f173_63_ok L0 5000 99 s2 e173) (okS_cons trivial okS_nil) m3
    have cT : g_Con X g_T F.2.1 100 173 [.ref 63] (cM L0 (s2, g_rho)) (some (.int 0), cM L0 (s2, g_rho)) := cT
    refine yl_scall (F := F) (B := B + 1) (n := 0) (As := [.ref 0, .int (yl_s X i 1), .ref 81]) (st1 := []) (k := 0) H hZ hR (zl_N326 H.2 cA) zl_c324.2.2 zl_s324.2.2.2.2.1 zl_s324.2.2.2.2.2.1 yl_i3.2.2 yl_m3.2.2 yl_p3.2.2 (by decide) yl_dec3.2.2 rfl rfl rfl rfl ?_
    exact back _ s2 0 (Int32.ofInt v) 0 (B + 1) m3 (INV_mono (by omega) (sameQ_inv q2 hI)) cB cT (fun s2 w5 w6 a b c d => yl_mono (n := 1) (hend s2 w5 w6 a b c d)) (Or.inr ⟨rfl, yl_l81 l2⟩)
  · obtain ⟨-, n2⟩ := q_awaitNo (N := 5000) (s := s) hm
    obtain ⟨cB, m3⟩ := zl_conI (l := F.2.1) (L0 := L0) (A := 275) H.2 (f275_63_ok L0 5000 95 _ _ n2) (okS_cons trivial (okS_cons (yl_rg _) (okS_nil))) hM
    have cB : g_Con X g_T F.2.1 100 275 [.ref 63, .int (Int32.ofInt (yl_s X i 1).toInt)] (cM L0 (s, g_rho)) (some (.int 0), cM L0 (iw s 63 0 1, g_rho)) := cB
    simp only [Int32.ofInt_toInt] at cB
    have e173 : f173 5000 (iw s 63 0 1) = some (1, iw s 63 0 1) := by
      show some ((iw s 63 0 1).1 63 0, iw s 63 0 1) = _
      rw [iw_at, zup_same]
    obtain ⟨cT, -⟩ := zl_conI (l := F.2.1) (L0 := L0) (A := 173) H.2 (f173_63_ok L0 5000 99 _ e173) (okS_cons trivial okS_nil) m3
    have cT : g_Con X g_T F.2.1 100 173 [.ref 63] (cM L0 (iw s 63 0 1, g_rho)) (some (.int 1), cM L0 (iw s 63 0 1, g_rho)) := cT
    refine yl_scall (F := F) (B := B) (n := 1) (As := [.ref 0, .int (yl_s X i 1), .ref 81]) (st1 := []) (k := 1) H hZ hR (zl_T326 H.2 (zl_await hl H.2 hm)) zl_c324.2.2 zl_s324.2.2.2.2.1 zl_s324.2.2.2.2.2.1 yl_i3.2.2 yl_m3.2.2 yl_p3.2.2 (by decide) yl_dec3.2.2 rfl rfl rfl rfl ?_
    exact back _ _ 1 0 0 B m3 (INV_mono (by omega) (INV_thrown hI)) cB cT hend (Or.inl rfl)
end ZCASES

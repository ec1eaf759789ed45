/-! gain, next and await of the class, where they throw. -/
section ZTHREE
variable {l : Launch} {X : gX} {L0 : Nat} {s : gI} {x1 x2 x3 x4 : Int32}
theorem zl_ri (x : Int32) : rg x.toInt := by
  have h1 := Int32.le_toInt x
  have h2 := Int32.toInt_lt x
  exact ⟨by omega, by omega⟩
theorem zl_gain (hl : l.stackTraces = false) (hC : X.2.2.2.2.2.1 = g_C 0) (hM : okM (s, g_rho)) (h : f169 5000 x1.toInt x2.toInt x3.toInt x4.toInt s = some (0, s)) :
    vx_Met l gm_149.1 (Cond.code gm_149.1 gm_149.2.1 gm_149.2.2.1 gm_149.2.2.2.1 :: g_tw) (g_rm 101 1 6) (zl_Pc X [.ref 0, .int x1, .int x2, .int x3, .int x4] (cM L0 (s, g_rho))) zl_no (zl_XC X (cM L0 (s, g_rho))) 1 6 (g_A X) := by
  refine zl_met gc_149 rfl rfl rfl hC rfl (fun p e R st mid args below meth c H thr hss => ?_) hl
  obtain ⟨cA, -⟩ := zl_conI (l := l) (L0 := L0) (A := 169) hC (f169_0_ok L0 5000 98 _ _ _ _ s h) (okS_cons trivial (okS_cons (zl_ri _) (okS_cons (zl_ri _) (okS_cons (zl_ri _) (okS_cons (zl_ri _) okS_nil))))) hM
  have cA : g_Con X g_T l 100 169 [.ref 0, .int (Int32.ofInt x1.toInt), .int (Int32.ofInt x2.toInt), .int (Int32.ofInt x3.toInt), .int (Int32.ofInt x4.toInt)] (cM L0 (s, g_rho)) (some (.int (Int32.ofInt 0)), cM L0 (s, g_rho)) := cA
  simp only [Int32.ofInt_toInt] at cA
  have t := thr 12 206 _ "no such throw" [some (.ref 0), some (.int x1), some (.int x2), some (.int x3), some (.int x4)] (hss 0 (11, 206) rfl) zl_d149.1 zl_d149.2.1 (Or.inl ⟨zl_d149.2.2.1, zl_d149.2.2.2.1, zl_d149.2.2.2.2⟩)
  show zl_K _ _ X k149_0 [some (.ref 0), some (.int x1), some (.int x2), some (.int x3), some (.int x4)] [] (cM L0 (s, g_rho))
  refine zl_row H (fun k => rfl) ?_
  refine zl_row H (fun k => rfl) ?_
  refine zl_row H (fun k => rfl) ?_
  refine zl_row H (fun k => rfl) ?_
  refine zl_row H (fun k => rfl) ?_
  refine zl_call H g_T_ok (Or.inl rfl) rfl rfl rfl cA rfl ?_
  exact zl_fall H (fun k => rfl) t
theorem zl_next (hl : l.stackTraces = false) (hC : X.2.2.2.2.2.1 = g_C 0) (hM : okM (s, g_rho)) (h : ¬ (0 ≤ x1.toInt ∧ x1.toInt ≤ 3) ∨ f170 5000 s = some (0, s)) :
    vx_Met l gm_150.1 (Cond.code gm_150.1 gm_150.2.1 gm_150.2.2.1 gm_150.2.2.2.1 :: g_tw) (g_rm 101 1 6) (zl_Pc X [.ref 0, .int x1] (cM L0 (s, g_rho))) zl_no (zl_XC X (cM L0 (s, g_rho))) 1 6 (g_A X) := by
  refine zl_met gc_150 rfl rfl rfl hC rfl (fun p e R st mid args below meth c H thr hss => ?_) hl
  have t := thr 16 217 _ "no throw to choose" [some (.ref 0), some (.int x1)] (hss 1 (11, 217) rfl) zl_d150.1 zl_d150.2.1 (Or.inl ⟨zl_d150.2.2.1, zl_d150.2.2.2.1, zl_d150.2.2.2.2⟩)
  show zl_K _ _ X k150_0 [some (.ref 0), some (.int x1)] [] (cM L0 (s, g_rho))
  have z0 : (0 : Int32).toInt = 0 := rfl
  have z3 : (Int32.ofNat 3).toInt = 3 := rfl
  refine zl_row H (fun k => rfl) ?_
  by_cases g : x1 < 0
  · exact zl_jmp H (fun k => if_pos g) t
  refine zl_row H (fun k => if_neg g) ?_
  refine zl_row H (fun k => rfl) ?_
  refine zl_row H (fun k => rfl) ?_
  by_cases g3 : Int32.ofNat 3 < x1
  · exact zl_jmp H (fun k => if_pos g3) t
  refine zl_row H (fun k => if_neg g3) ?_
  rw [Int32.lt_iff_toInt_lt] at g g3
  rw [z0] at g
  rw [z3] at g3
  have h : f170 5000 s = some (0, s) := by
    rcases h with h | h
    · exact absurd ⟨by omega, by omega⟩ h
    · exact h
  obtain ⟨cA, -⟩ := zl_conI (l := l) (L0 := L0) (A := 170) hC (f170_0_ok L0 5000 96 s h) (okS_cons trivial okS_nil) hM
  have cA : g_Con X g_T l 100 170 [.ref 0] (cM L0 (s, g_rho)) (some (.int (Int32.ofInt 0)), cM L0 (s, g_rho)) := cA
  refine zl_row H (fun k => rfl) ?_
  refine zl_call H g_T_ok (Or.inl rfl) rfl rfl rfl cA rfl ?_
  exact zl_fall H (fun k => rfl) t
theorem zl_await (hl : l.stackTraces = false) (hC : X.2.2.2.2.2.1 = g_C 0) (h : ¬ (0 ≤ x1.toInt ∧ x1.toInt ≤ 1)) :
    vx_Met l gm_155.1 (Cond.code gm_155.1 gm_155.2.1 gm_155.2.2.1 gm_155.2.2.2.1 :: g_tw) (g_rm 101 1 6) (zl_Pc X [.ref 0, .int x1] (cM L0 (s, g_rho))) zl_no (zl_XC X (cM L0 (s, g_rho))) 1 6 (g_A X) := by
  refine zl_met gc_155 rfl rfl rfl hC rfl (fun p e R st mid args below meth c H thr hss => ?_) hl
  have t := thr 9 256 _ "no such answer" [some (.ref 0), some (.int x1), none, none, none] (hss 2 (11, 256) rfl) zl_d155.1 zl_d155.2.1 (Or.inr ⟨zl_d155.2.2.1, zl_d155.2.2.2.1, zl_d155.2.2.2.2⟩)
  show zl_K _ _ X k155_0 [some (.ref 0), some (.int x1), none, none, none] [] (cM L0 (s, g_rho))
  have z0 : (0 : Int32).toInt = 0 := rfl
  have z1 : (Int32.ofNat 1).toInt = 1 := rfl
  refine zl_row H (fun k => rfl) ?_
  by_cases g : x1 < 0
  · exact zl_jmp H (fun k => if_pos g) t
  refine zl_row H (fun k => if_neg g) ?_
  refine zl_row H (fun k => rfl) ?_
  refine zl_row H (fun k => rfl) ?_
  have g1 : ¬ x1 ≤ Int32.ofNat 1 := fun g1 => by
    rw [Int32.le_iff_toInt_le, z1] at g1
    rw [Int32.lt_iff_toInt_lt, z0] at g
    exact h ⟨by omega, g1⟩
  exact zl_fall H (fun k => if_neg g1) t
end ZTHREE

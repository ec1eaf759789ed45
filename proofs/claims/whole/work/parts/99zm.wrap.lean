/-! The law's wrappers of gain, next and await: they answer 1 where the class threw, else 0 with the answer in the row of one. (Written by a program of mine: three times the same.) -/
def zl_Qw (X : gX) (m : gM) (k : Int32) : Array Value → State → Outcome → State → Prop := fun _ st oc t => oc = .returned (some (.int k)) ∧ g_W X m t.heap ∧ va_F (g_A X) st t
section ZWRAP
variable {l : Launch} {X : gX} {L0 : Nat} {s s1 : gI} {x1 x2 x3 x4 : Int32}
theorem zl_plain : plainName (g_y 324).cls = true ∧ plainName (g_y 325).cls = true ∧ plainName (g_y 326).cls = true := by decide +kernel
/-- a frame's beginning, out of the contract's words -/
theorem zl_up {y : Int64} {μ : iM} : ((cM L0 μ).1, g_up (cM L0 μ).2.1 81 0 y, (cM L0 μ).2.2) = cM L0 (iwl μ.1 81 0 y.toInt, μ.2) := by
  unfold cM
  simp only [Prod.mk.injEq, and_true]
  refine ⟨rfl, ?_⟩
  funext a j
  unfold g_up
  by_cases h : a = 81
  · subst h
    rw [if_pos rfl, iwl_at]
    by_cases g : j = 0
    · subst g
      rw [if_pos rfl]
      have : zup (μ.1.2 81) 0 y.toInt ((0 : Nat) : Int) = y.toInt := zup_same _ _ _
      rw [this, Int64.ofInt_toInt]
    · rw [if_neg g, zup_ne (by omega)]
  · rw [if_neg h, iwl_ne h]
/-- 324: the class threw -/
theorem zl_T324 (hC : X.2.2.2.2.2.1 = g_C 0) (hx : vx_Met l gm_149.1 (Cond.code gm_149.1 gm_149.2.1 gm_149.2.2.1 gm_149.2.2.2.1 :: g_tw) (g_rm 101 1 6) (zl_Pc X [.ref 0, .int x1, .int x2, .int x3, .int x4] (cM L0 (s, g_rho))) zl_no (zl_XC X (cM L0 (s, g_rho))) 1 6 (g_A X)) :
    Met l (g_y 324) (Cond.codeWith (g_y 324) method_3_code 7 (some .int) [(0, 14, 17, 13)] :: g_tw) (g_rm 102 1 6) (zl_Pc X [.ref 0, .int x1, .int x2, .int x3, .int x4, .ref 81] (cM L0 (s, g_rho))) (zl_Qw X (cM L0 (s, g_rho)) 1) 1 6 (g_A X) := by
  refine va_MetW (cc := method_3_code) (maxL := 7) (ret := some .int) (hh := [(0, 14, 17, 13)]) zl_plain.1 rfl ?_
  intro p e st mid args below meth c s₁ B hml hv
  obtain ⟨⟨rfl, hW, hKn, hKc⟩, hZ⟩ := hv
  have hts0 := atoms_spec (ws := Cond.codeWith (g_y 324) method_3_code 7 (some .int) [(0, 14, 17, 13)] :: g_tw) B.pre
  have hts : ∀ w ∈ g_tw, w.before ((([.ref 0, .int x1, .int x2, .int x3, .int x4, .ref 81] : List Value).map (g_cv X.2.2.1 X.2.2.2.1)).toArray) st = true := fun w hw => hts0 w (List.mem_cons_of_mem _ hw)
  have hown : st.vm.findClass (g_on 13) = some mid.cls := findClass_of_methodNamed B.named
  have hf := hKc.2.2.2.2.2.2.2.1
  have hctx : g_Ctx X p st ((([.ref 0, .int x1, .int x2, .int x3, .int x4, .ref 81] : List Value).map (g_cv X.2.2.1 X.2.2.2.1)).toArray) mid meth c (headSpec (Cond.codeWith (g_y 324) method_3_code 7 (some .int) [(0, 14, 17, 13)] :: g_tw) (g_rm 102 1 6)).room 13 false method_3_code 7 102 :=
    ⟨B.exec, B.bytes, hml, hown, hts, hKn, hKc, by show 102 + 2 ≤ 102 + 2; omega, by show 128 * (102 + 2) ≤ 128 * (102 + 2); omega, fun hi => by cases hi⟩
  have H : zl_H (p, l, e, (headSpec (Cond.codeWith (g_y 324) method_3_code 7 (some .int) [(0, 14, 17, 13)] :: g_tw) (g_rm 102 1 6)).room, st, mid, ((([.ref 0, .int x1, .int x2, .int x3, .int x4, .ref 81] : List Value).map (g_cv X.2.2.1 X.2.2.2.1)).toArray), below, meth, c, fun mc ms t => mc = 0 ∧ ms = 0 → MQ below (zl_Qw X (cM L0 (s, g_rho)) 1) ((([.ref 0, .int x1, .int x2, .int x3, .int x4, .ref 81] : List Value).map (g_cv X.2.2.1 X.2.2.2.1)).toArray) st 1 6 (g_A X) t) (13, false, method_3_code, 7) X 101 := ⟨hctx, hC⟩
  have D := zl_dec324
  have tab : c.exceptionTable.toList = [] ++ (⟨0, 14, 17, 13⟩ : ExceptionTableEntry) :: [] := vx_table (x := g_y 324) B (hts0 _ List.mem_cons_self)
  have C : zl_G (p, l, e, (headSpec (Cond.codeWith (g_y 324) method_3_code 7 (some .int) [(0, 14, 17, 13)] :: g_tw) (g_rm 102 1 6)).room, st, mid, ((([.ref 0, .int x1, .int x2, .int x3, .int x4, .ref 81] : List Value).map (g_cv X.2.2.1 X.2.2.2.1)).toArray), below, meth, c, fun mc ms t => mc = 0 ∧ ms = 0 → MQ below (zl_Qw X (cM L0 (s, g_rho)) 1) ((([.ref 0, .int x1, .int x2, .int x3, .int x4, .ref 81] : List Value).map (g_cv X.2.2.1 X.2.2.2.1)).toArray) st 1 6 (g_A X) t) (13, false, method_3_code, 7) X 9 [some (.ref 0), some (.int x1), some (.int x2), some (.int x3), some (.int x4), some (.ref 81), none] [.int x4, .int x3, .int x2, .int x1, .ref 0, .int (g_num (2, .iconst 0, 1, 0, 0, 0)), .ref 81] (cM L0 (s, g_rho)) := by
    intro cells slots
    refine ⟨cells, slots, Nat.le_refl _, Nat.le_refl _, rfl, rfl, fun h1 h2 H9 locs ls hL hW hS => ?_⟩
    by_cases h0 : cells = 0 ∧ slots = 0
    rotate_left
    · intro T hT Y
      exact ⟨_, Steps.refl _, fun h => absurd h h0⟩
    obtain ⟨rfl, rfl⟩ := h0
    have hr : g_recv X.2.2.2.2.2.1 [.ref 0, .int x1, .int x2, .int x3, .int x4] (cM L0 (s, g_rho)) 11 = true := by rw [hC]; rfl
    obtain ⟨q', As1, hq, hrc⟩ := g_recv_at hr hKn hKc hW hS
    cases hq
    obtain ⟨y1, y2, y3, y4, y5⟩ := g_cb (mc := 1) (ms := 6) hctx g_T_ok (show g_T 149 = some gm_149 from rfl)
    have R := vx_runV (C := g_on 11) (As := [.int x1, .int x2, .int x3, .int x4]) (b := X.2.2.1 0) (n := 4) (rest := [.int 0, .ref (X.2.2.1 81)]) (own := g_on 13) (index := 7) (cells := 0) (slots := 0) (locs := locs) (H := H9) (g := F0 mid 9 ls (([.int x4, .int x3, .int x2, .int x1, .ref 0, .int (g_num (2, .iconst 0, 1, 0, 0, 0)), .ref 81] : List Value).map (g_cv X.2.2.1 X.2.2.2.1))) (p := p) (l := l) (e := e) (below := below) (meth := meth) ⟨B.exec, B.bytes, hml, hown, hts⟩ hx
      ⟨⟨rfl, rfl, y4, y5, y2, List.mem_cons_self, y3, hts _ zl_v324.2.2.2, zl_m3.1, g_npar zl_p3.1, hts _ zl_v324.1⟩, hts _ zl_v324.2.1, hts _ zl_v324.2.2.1⟩
      ⟨zl_Pc_blind X _ _, hrc, fun U hU hw => ⟨g_Pc_at hKn hKc hW hS [.ref 0, .int x1, .int x2, .int x3, .int x4] U hU hw, by rw [hU]; exact zl_Z_warm hw (zl_Z_kept hZ hS.2.1)⟩⟩ rfl rfl hL.1 rfl (lv_room (Nat.le_of_ble_eq_true rfl)) D.1 ⟨Nat.le_refl _, Nat.le_refl _⟩
    intro T hT Y
    rcases R T hT Y with ⟨v, st₀, t, T', L9, a0, a1, a2, a3, a4, a5, a6⟩ | ⟨q, st₀, t, T', L9, E, ce, a0, a1, a2, a3, a4, ⟨hE, hW9, hF9⟩, a6, a7, a8, a9⟩
    · exact a5.elim
    subst hE
    have hcast : (Cond.castable "java/util/NoSuchElementException" "java/util/NoSuchElementException").before ((([.ref 0, .int x1, .int x2, .int x3, .int x4, .ref 81] : List Value).map (g_cv X.2.2.1 X.2.2.2.1)).toArray) st = true := va_Nw.use rfl (hZ.2.2 _ (by simp [zl_bad]))
    have k := vx_catch (p := p) (l := l) (e := e) (R := (headSpec (Cond.codeWith (g_y 324) method_3_code 7 (some .int) [(0, 14, 17, 13)] :: g_tw) (g_rm 102 1 6)).room) (meth := meth) (below := below) (H := t.heap) (locs := locs ++ L9) (cells := 0 + 1) (slots := 0 + 6) (rest := [.int 0, .ref (X.2.2.1 81)]) (pc := 9) (ls := ls) (Q := MQ below (zl_Qw X (cM L0 (s, g_rho)) 1) ((([.ref 0, .int x1, .int x2, .int x3, .int x4, .ref 81] : List Value).map (g_cv X.2.2.1 X.2.2.2.1)).toArray) st 1 6 (g_A X)) hown [] _ [] tab (fun z hz => nomatch hz) rfl (by decide) (hts _ zl_l13) hcast a6 a7 a8 (by
      refine lv_astore B.exec B.bytes D.2.1 (g_lv_has hL) (by decide) rfl (fun ls' _ => ?_)
      refine lv_iconst B.exec B.bytes D.2.2.1 (v := 1) rfl ?_
      exact W.zret B.exec B.bytes B.returns (v := 1) rfl (fun t2 ht2 _ => ⟨rfl, by rw [ht2]; exact hW9, (g_va_S hS a0 hF9 a2).F ht2⟩) (g_va_S hS a0 hF9 a2).2.2 D.2.2.2.1 B.notSynchronized)
    obtain ⟨t2, b1, b2⟩ := k T' a3 a1
    exact ⟨t2, a9.trans b1, fun _ => b2⟩
  have K : zl_K (p, l, e, (headSpec (Cond.codeWith (g_y 324) method_3_code 7 (some .int) [(0, 14, 17, 13)] :: g_tw) (g_rm 102 1 6)).room, st, mid, ((([.ref 0, .int x1, .int x2, .int x3, .int x4, .ref 81] : List Value).map (g_cv X.2.2.1 X.2.2.2.1)).toArray), below, meth, c, fun mc ms t => mc = 0 ∧ ms = 0 → MQ below (zl_Qw X (cM L0 (s, g_rho)) 1) ((([.ref 0, .int x1, .int x2, .int x3, .int x4, .ref 81] : List Value).map (g_cv X.2.2.1 X.2.2.2.1)).toArray) st 1 6 (g_A X) t) (13, false, method_3_code, 7) X zl_k324 [some (.ref 0), some (.int x1), some (.int x2), some (.int x3), some (.int x4), some (.ref 81), none] [] (cM L0 (s, g_rho)) := by
    refine zl_row H (fun k => rfl) ?_
    refine zl_row H (fun k => rfl) ?_
    refine zl_row H (fun k => rfl) ?_
    refine zl_row H (fun k => rfl) ?_
    refine zl_row H (fun k => rfl) ?_
    refine zl_row H (fun k => rfl) ?_
    exact zl_fall H (fun k => rfl) C
  have hlv := lv_entry (([.ref 0, .int x1, .int x2, .int x3, .int x4, .ref 81] : List Value).map (g_cv X.2.2.1 X.2.2.2.1)) (n := 7) (by rw [g_sl_len hf]; exact Nat.le_of_ble_eq_true rfl)
  have G := K zl_ok324 0 0
  obtain ⟨mc, ms, g1, g2, g3, g4, g5⟩ := G
  have g3 : mc + 82 = 0 + 82 := g3
  obtain rfl : mc = 0 := by omega
  have g4 : ms + g_slots g_shp = 0 + g_slots g_shp := g4
  obtain rfl : ms = 0 := by omega
  have hw := g5 (Nat.zero_le _) (Nat.zero_le _) st.heap [] _ ⟨hlv.1, hlv.2.1, rfl, fun i v hi => by
    have := g_args_at hf [.ref 0, .int x1, .int x2, .int x3, .int x4, .ref 81] 0 i v (g_pad_nth 7 _ _ _ hi)
    rw [Nat.zero_add] at this
    exact hlv.2.2 _ this⟩ hW va_S.rf
  rw [lg_entry_eq]
  intro T hT Y
  obtain ⟨t, a, b⟩ := hw T hT Y
  exact ⟨t, a, b ⟨rfl, rfl⟩⟩
/-- 324: the class answered -/
theorem zl_N324 {x : Int32} (hC : X.2.2.2.2.2.1 = g_C 0) (hcon : g_Con X g_T l 101 149 [.ref 0, .int x1, .int x2, .int x3, .int x4] (cM L0 (s, g_rho)) (some (.int x), cM L0 (s1, g_rho))) :
    Met l (g_y 324) (Cond.codeWith (g_y 324) method_3_code 7 (some .int) [(0, 14, 17, 13)] :: g_tw) (g_rm 102 0 0) (zl_Pc X [.ref 0, .int x1, .int x2, .int x3, .int x4, .ref 81] (cM L0 (s, g_rho))) (zl_Qw X (cM L0 (iwl s1 81 0 x.toInt64.toInt, g_rho)) 0) 0 0 (g_A X) := by
  refine va_MetW (cc := method_3_code) (maxL := 7) (ret := some .int) (hh := [(0, 14, 17, 13)]) zl_plain.1 rfl ?_
  intro p e st mid args below meth c s₁ B hml hv
  obtain ⟨⟨rfl, hW, hKn, hKc⟩, hZ⟩ := hv
  have hts0 := atoms_spec (ws := Cond.codeWith (g_y 324) method_3_code 7 (some .int) [(0, 14, 17, 13)] :: g_tw) B.pre
  have hts : ∀ w ∈ g_tw, w.before ((([.ref 0, .int x1, .int x2, .int x3, .int x4, .ref 81] : List Value).map (g_cv X.2.2.1 X.2.2.2.1)).toArray) st = true := fun w hw => hts0 w (List.mem_cons_of_mem _ hw)
  have hown : st.vm.findClass (g_on 13) = some mid.cls := findClass_of_methodNamed B.named
  have hf := hKc.2.2.2.2.2.2.2.1
  have hctx : g_Ctx X p st ((([.ref 0, .int x1, .int x2, .int x3, .int x4, .ref 81] : List Value).map (g_cv X.2.2.1 X.2.2.2.1)).toArray) mid meth c (headSpec (Cond.codeWith (g_y 324) method_3_code 7 (some .int) [(0, 14, 17, 13)] :: g_tw) (g_rm 102 0 0)).room 13 false method_3_code 7 102 :=
    ⟨B.exec, B.bytes, hml, hown, hts, hKn, hKc, by show 102 + 2 ≤ 102 + 2; omega, by show 128 * (102 + 2) ≤ 128 * (102 + 2); omega, fun hi => by cases hi⟩
  have H : zl_H (p, l, e, (headSpec (Cond.codeWith (g_y 324) method_3_code 7 (some .int) [(0, 14, 17, 13)] :: g_tw) (g_rm 102 0 0)).room, st, mid, ((([.ref 0, .int x1, .int x2, .int x3, .int x4, .ref 81] : List Value).map (g_cv X.2.2.1 X.2.2.2.1)).toArray), below, meth, c, fun mc ms t => mc = 0 ∧ ms = 0 → MQ below (zl_Qw X (cM L0 (iwl s1 81 0 x.toInt64.toInt, g_rho)) 0) ((([.ref 0, .int x1, .int x2, .int x3, .int x4, .ref 81] : List Value).map (g_cv X.2.2.1 X.2.2.2.1)).toArray) st 0 0 (g_A X) t) (13, false, method_3_code, 7) X 101 := ⟨hctx, hC⟩
  have D := zl_dec324
  have fin : zl_G (p, l, e, (headSpec (Cond.codeWith (g_y 324) method_3_code 7 (some .int) [(0, 14, 17, 13)] :: g_tw) (g_rm 102 0 0)).room, st, mid, ((([.ref 0, .int x1, .int x2, .int x3, .int x4, .ref 81] : List Value).map (g_cv X.2.2.1 X.2.2.2.1)).toArray), below, meth, c, fun mc ms t => mc = 0 ∧ ms = 0 → MQ below (zl_Qw X (cM L0 (iwl s1 81 0 x.toInt64.toInt, g_rho)) 0) ((([.ref 0, .int x1, .int x2, .int x3, .int x4, .ref 81] : List Value).map (g_cv X.2.2.1 X.2.2.2.1)).toArray) st 0 0 (g_A X) t) (13, false, method_3_code, 7) X 22 [some (.ref 0), some (.int x1), some (.int x2), some (.int x3), some (.int x4), some (.ref 81), none] [.int 0] (cM L0 (iwl s1 81 0 x.toInt64.toInt, g_rho)) := by
    intro cells slots
    refine ⟨cells, slots, Nat.le_refl _, Nat.le_refl _, rfl, rfl, fun h1 h2 H9 locs ls hL hW hS => ?_⟩
    by_cases h0 : cells = 0 ∧ slots = 0
    rotate_left
    · intro T hT Y
      exact ⟨_, Steps.refl _, fun h => absurd h h0⟩
    obtain ⟨rfl, rfl⟩ := h0
    intro T hT Y
    obtain ⟨t2, b1, b2⟩ := W.zret (Qc := zl_Qw X (cM L0 (iwl s1 81 0 x.toInt64.toInt, g_rho)) 0) (free := g_A X) B.exec B.bytes B.returns (v := 0) rfl (fun t2 ht2 _ => ⟨rfl, by rw [ht2]; exact hW, hS.F ht2⟩) hS.2.2 D.2.2.2.2 B.notSynchronized T hT Y
    exact ⟨t2, b1, fun _ => b2⟩
  have tail : zl_G (p, l, e, (headSpec (Cond.codeWith (g_y 324) method_3_code 7 (some .int) [(0, 14, 17, 13)] :: g_tw) (g_rm 102 0 0)).room, st, mid, ((([.ref 0, .int x1, .int x2, .int x3, .int x4, .ref 81] : List Value).map (g_cv X.2.2.1 X.2.2.2.1)).toArray), below, meth, c, fun mc ms t => mc = 0 ∧ ms = 0 → MQ below (zl_Qw X (cM L0 (iwl s1 81 0 x.toInt64.toInt, g_rho)) 0) ((([.ref 0, .int x1, .int x2, .int x3, .int x4, .ref 81] : List Value).map (g_cv X.2.2.1 X.2.2.2.1)).toArray) st 0 0 (g_A X) t) (13, false, method_3_code, 7) X 12 [some (.ref 0), some (.int x1), some (.int x2), some (.int x3), some (.int x4), some (.ref 81), none] [.int x, .int 0, .ref 81] (cM L0 (s1, g_rho)) := by
    have t2 := (show zl_K _ (13, false, method_3_code, 7) X [(21, .iconst 0, 1, 0, 0, 0)] [some (.ref 0), some (.int x1), some (.int x2), some (.int x3), some (.int x4), some (.ref 81), none] [] (cM L0 (iwl s1 81 0 x.toInt64.toInt, g_rho)) from zl_fall H (fun k => rfl) fin) zl_oe324
    have t1 : zl_K (p, l, e, (headSpec (Cond.codeWith (g_y 324) method_3_code 7 (some .int) [(0, 14, 17, 13)] :: g_tw) (g_rm 102 0 0)).room, st, mid, ((([.ref 0, .int x1, .int x2, .int x3, .int x4, .ref 81] : List Value).map (g_cv X.2.2.1 X.2.2.2.1)).toArray), below, meth, c, fun mc ms t => mc = 0 ∧ ms = 0 → MQ below (zl_Qw X (cM L0 (iwl s1 81 0 x.toInt64.toInt, g_rho)) 0) ((([.ref 0, .int x1, .int x2, .int x3, .int x4, .ref 81] : List Value).map (g_cv X.2.2.1 X.2.2.2.1)).toArray) st 0 0 (g_A X) t) (13, false, method_3_code, 7) X zl_n324 [some (.ref 0), some (.int x1), some (.int x2), some (.int x3), some (.int x4), some (.ref 81), none] [.int x, .int 0, .ref 81] (cM L0 (s1, g_rho)) := by
      refine zl_row H (fun k => rfl) ?_
      refine zl_rowm (L1 := [some (.ref 0), some (.int x1), some (.int x2), some (.int x3), some (.int x4), some (.ref 81), none]) (st1 := []) (m1 := cM L0 (iwl s1 81 0 x.toInt64.toInt, g_rho)) H (fun k => ?_) rfl ?_
      · have e := zl_up (L0 := L0) (y := x.toInt64) (μ := (s1, g_rho))
        show k none _ [] ((cM L0 (s1, g_rho)).1, g_up (cM L0 (s1, g_rho)).2.1 81 0 x.toInt64, (cM L0 (s1, g_rho)).2.2) = _
        rw [e]
      exact zl_jmp H (fun k => rfl) t2
    exact t1 zl_on324
  have C : zl_G (p, l, e, (headSpec (Cond.codeWith (g_y 324) method_3_code 7 (some .int) [(0, 14, 17, 13)] :: g_tw) (g_rm 102 0 0)).room, st, mid, ((([.ref 0, .int x1, .int x2, .int x3, .int x4, .ref 81] : List Value).map (g_cv X.2.2.1 X.2.2.2.1)).toArray), below, meth, c, fun mc ms t => mc = 0 ∧ ms = 0 → MQ below (zl_Qw X (cM L0 (iwl s1 81 0 x.toInt64.toInt, g_rho)) 0) ((([.ref 0, .int x1, .int x2, .int x3, .int x4, .ref 81] : List Value).map (g_cv X.2.2.1 X.2.2.2.1)).toArray) st 0 0 (g_A X) t) (13, false, method_3_code, 7) X 9 [some (.ref 0), some (.int x1), some (.int x2), some (.int x3), some (.int x4), some (.ref 81), none] [.int x4, .int x3, .int x2, .int x1, .ref 0, .int (g_num (2, .iconst 0, 1, 0, 0, 0)), .ref 81] (cM L0 (s, g_rho)) := by
    exact zl_vcall (A := 149) (cl := 11) (q := 0) (As := [.int x1, .int x2, .int x3, .int x4]) (st1 := [.int 0, .ref 81]) (n := 4) H D.1 zl_v324.1 zl_v324.2.1 zl_v324.2.2.1 zl_v324.2.2.2 zl_m3.1 zl_p3.1 rfl rfl rfl rfl hcon tail
  have K : zl_K (p, l, e, (headSpec (Cond.codeWith (g_y 324) method_3_code 7 (some .int) [(0, 14, 17, 13)] :: g_tw) (g_rm 102 0 0)).room, st, mid, ((([.ref 0, .int x1, .int x2, .int x3, .int x4, .ref 81] : List Value).map (g_cv X.2.2.1 X.2.2.2.1)).toArray), below, meth, c, fun mc ms t => mc = 0 ∧ ms = 0 → MQ below (zl_Qw X (cM L0 (iwl s1 81 0 x.toInt64.toInt, g_rho)) 0) ((([.ref 0, .int x1, .int x2, .int x3, .int x4, .ref 81] : List Value).map (g_cv X.2.2.1 X.2.2.2.1)).toArray) st 0 0 (g_A X) t) (13, false, method_3_code, 7) X zl_k324 [some (.ref 0), some (.int x1), some (.int x2), some (.int x3), some (.int x4), some (.ref 81), none] [] (cM L0 (s, g_rho)) := by
    refine zl_row H (fun k => rfl) ?_
    refine zl_row H (fun k => rfl) ?_
    refine zl_row H (fun k => rfl) ?_
    refine zl_row H (fun k => rfl) ?_
    refine zl_row H (fun k => rfl) ?_
    refine zl_row H (fun k => rfl) ?_
    exact zl_fall H (fun k => rfl) C
  have hlv := lv_entry (([.ref 0, .int x1, .int x2, .int x3, .int x4, .ref 81] : List Value).map (g_cv X.2.2.1 X.2.2.2.1)) (n := 7) (by rw [g_sl_len hf]; exact Nat.le_of_ble_eq_true rfl)
  have G := K zl_ok324 0 0
  obtain ⟨mc, ms, g1, g2, g3, g4, g5⟩ := G
  have g3 : mc + 82 = 0 + 82 := g3
  obtain rfl : mc = 0 := by omega
  have g4 : ms + g_slots g_shp = 0 + g_slots g_shp := g4
  obtain rfl : ms = 0 := by omega
  have hw := g5 (Nat.zero_le _) (Nat.zero_le _) st.heap [] _ ⟨hlv.1, hlv.2.1, rfl, fun i v hi => by
    have := g_args_at hf [.ref 0, .int x1, .int x2, .int x3, .int x4, .ref 81] 0 i v (g_pad_nth 7 _ _ _ hi)
    rw [Nat.zero_add] at this
    exact hlv.2.2 _ this⟩ hW va_S.rf
  rw [lg_entry_eq]
  intro T hT Y
  obtain ⟨t, a, b⟩ := hw T hT Y
  exact ⟨t, a, b ⟨rfl, rfl⟩⟩
/-- 325: the class threw -/
theorem zl_T325 (hC : X.2.2.2.2.2.1 = g_C 0) (hx : vx_Met l gm_150.1 (Cond.code gm_150.1 gm_150.2.1 gm_150.2.2.1 gm_150.2.2.2.1 :: g_tw) (g_rm 101 1 6) (zl_Pc X [.ref 0, .int x1] (cM L0 (s, g_rho))) zl_no (zl_XC X (cM L0 (s, g_rho))) 1 6 (g_A X)) :
    Met l (g_y 325) (Cond.codeWith (g_y 325) method_4_code 4 (some .int) [(0, 9, 12, 13)] :: g_tw) (g_rm 102 1 6) (zl_Pc X [.ref 0, .int x1, .ref 81] (cM L0 (s, g_rho))) (zl_Qw X (cM L0 (s, g_rho)) 1) 1 6 (g_A X) := by
  refine va_MetW (cc := method_4_code) (maxL := 4) (ret := some .int) (hh := [(0, 9, 12, 13)]) zl_plain.2.1 rfl ?_
  intro p e st mid args below meth c s₁ B hml hv
  obtain ⟨⟨rfl, hW, hKn, hKc⟩, hZ⟩ := hv
  have hts0 := atoms_spec (ws := Cond.codeWith (g_y 325) method_4_code 4 (some .int) [(0, 9, 12, 13)] :: g_tw) B.pre
  have hts : ∀ w ∈ g_tw, w.before ((([.ref 0, .int x1, .ref 81] : List Value).map (g_cv X.2.2.1 X.2.2.2.1)).toArray) st = true := fun w hw => hts0 w (List.mem_cons_of_mem _ hw)
  have hown : st.vm.findClass (g_on 13) = some mid.cls := findClass_of_methodNamed B.named
  have hf := hKc.2.2.2.2.2.2.2.1
  have hctx : g_Ctx X p st ((([.ref 0, .int x1, .ref 81] : List Value).map (g_cv X.2.2.1 X.2.2.2.1)).toArray) mid meth c (headSpec (Cond.codeWith (g_y 325) method_4_code 4 (some .int) [(0, 9, 12, 13)] :: g_tw) (g_rm 102 1 6)).room 13 false method_4_code 4 102 :=
    ⟨B.exec, B.bytes, hml, hown, hts, hKn, hKc, by show 102 + 2 ≤ 102 + 2; omega, by show 128 * (102 + 2) ≤ 128 * (102 + 2); omega, fun hi => by cases hi⟩
  have H : zl_H (p, l, e, (headSpec (Cond.codeWith (g_y 325) method_4_code 4 (some .int) [(0, 9, 12, 13)] :: g_tw) (g_rm 102 1 6)).room, st, mid, ((([.ref 0, .int x1, .ref 81] : List Value).map (g_cv X.2.2.1 X.2.2.2.1)).toArray), below, meth, c, fun mc ms t => mc = 0 ∧ ms = 0 → MQ below (zl_Qw X (cM L0 (s, g_rho)) 1) ((([.ref 0, .int x1, .ref 81] : List Value).map (g_cv X.2.2.1 X.2.2.2.1)).toArray) st 1 6 (g_A X) t) (13, false, method_4_code, 4) X 101 := ⟨hctx, hC⟩
  have D := zl_dec325
  have tab : c.exceptionTable.toList = [] ++ (⟨0, 9, 12, 13⟩ : ExceptionTableEntry) :: [] := vx_table (x := g_y 325) B (hts0 _ List.mem_cons_self)
  have C : zl_G (p, l, e, (headSpec (Cond.codeWith (g_y 325) method_4_code 4 (some .int) [(0, 9, 12, 13)] :: g_tw) (g_rm 102 1 6)).room, st, mid, ((([.ref 0, .int x1, .ref 81] : List Value).map (g_cv X.2.2.1 X.2.2.2.1)).toArray), below, meth, c, fun mc ms t => mc = 0 ∧ ms = 0 → MQ below (zl_Qw X (cM L0 (s, g_rho)) 1) ((([.ref 0, .int x1, .ref 81] : List Value).map (g_cv X.2.2.1 X.2.2.2.1)).toArray) st 1 6 (g_A X) t) (13, false, method_4_code, 4) X 4 [some (.ref 0), some (.int x1), some (.ref 81), none] [.int x1, .ref 0, .int (g_num (1, .iconst 0, 1, 0, 0, 0)), .ref 81] (cM L0 (s, g_rho)) := by
    intro cells slots
    refine ⟨cells, slots, Nat.le_refl _, Nat.le_refl _, rfl, rfl, fun h1 h2 H9 locs ls hL hW hS => ?_⟩
    by_cases h0 : cells = 0 ∧ slots = 0
    rotate_left
    · intro T hT Y
      exact ⟨_, Steps.refl _, fun h => absurd h h0⟩
    obtain ⟨rfl, rfl⟩ := h0
    have hr : g_recv X.2.2.2.2.2.1 [.ref 0, .int x1] (cM L0 (s, g_rho)) 11 = true := by rw [hC]; rfl
    obtain ⟨q', As1, hq, hrc⟩ := g_recv_at hr hKn hKc hW hS
    cases hq
    obtain ⟨y1, y2, y3, y4, y5⟩ := g_cb (mc := 1) (ms := 6) hctx g_T_ok (show g_T 150 = some gm_150 from rfl)
    have R := vx_runV (C := g_on 11) (As := [.int x1]) (b := X.2.2.1 0) (n := 1) (rest := [.int 0, .ref (X.2.2.1 81)]) (own := g_on 13) (index := 15) (cells := 0) (slots := 0) (locs := locs) (H := H9) (g := F0 mid 4 ls (([.int x1, .ref 0, .int (g_num (1, .iconst 0, 1, 0, 0, 0)), .ref 81] : List Value).map (g_cv X.2.2.1 X.2.2.2.1))) (p := p) (l := l) (e := e) (below := below) (meth := meth) ⟨B.exec, B.bytes, hml, hown, hts⟩ hx
      ⟨⟨rfl, rfl, y4, y5, y2, List.mem_cons_self, y3, hts _ zl_v324.2.2.2, zl_m3.2.1, g_npar zl_p3.2.1, hts _ zl_v325.1⟩, hts _ zl_v325.2.1, hts _ zl_v325.2.2⟩
      ⟨zl_Pc_blind X _ _, hrc, fun U hU hw => ⟨g_Pc_at hKn hKc hW hS [.ref 0, .int x1] U hU hw, by rw [hU]; exact zl_Z_warm hw (zl_Z_kept hZ hS.2.1)⟩⟩ rfl rfl hL.1 rfl (lv_room (Nat.le_of_ble_eq_true rfl)) D.1 ⟨Nat.le_refl _, Nat.le_refl _⟩
    intro T hT Y
    rcases R T hT Y with ⟨v, st₀, t, T', L9, a0, a1, a2, a3, a4, a5, a6⟩ | ⟨q, st₀, t, T', L9, E, ce, a0, a1, a2, a3, a4, ⟨hE, hW9, hF9⟩, a6, a7, a8, a9⟩
    · exact a5.elim
    subst hE
    have hcast : (Cond.castable "java/util/NoSuchElementException" "java/util/NoSuchElementException").before ((([.ref 0, .int x1, .ref 81] : List Value).map (g_cv X.2.2.1 X.2.2.2.1)).toArray) st = true := va_Nw.use rfl (hZ.2.2 _ (by simp [zl_bad]))
    have k := vx_catch (p := p) (l := l) (e := e) (R := (headSpec (Cond.codeWith (g_y 325) method_4_code 4 (some .int) [(0, 9, 12, 13)] :: g_tw) (g_rm 102 1 6)).room) (meth := meth) (below := below) (H := t.heap) (locs := locs ++ L9) (cells := 0 + 1) (slots := 0 + 6) (rest := [.int 0, .ref (X.2.2.1 81)]) (pc := 4) (ls := ls) (Q := MQ below (zl_Qw X (cM L0 (s, g_rho)) 1) ((([.ref 0, .int x1, .ref 81] : List Value).map (g_cv X.2.2.1 X.2.2.2.1)).toArray) st 1 6 (g_A X)) hown [] _ [] tab (fun z hz => nomatch hz) rfl (by decide) (hts _ zl_l13) hcast a6 a7 a8 (by
      refine lv_astore_n B.exec B.bytes D.2.1 rfl (g_lv_has hL) (by decide) rfl (fun ls' _ => ?_)
      refine lv_iconst B.exec B.bytes D.2.2.1 (v := 1) rfl ?_
      exact W.zret B.exec B.bytes B.returns (v := 1) rfl (fun t2 ht2 _ => ⟨rfl, by rw [ht2]; exact hW9, (g_va_S hS a0 hF9 a2).F ht2⟩) (g_va_S hS a0 hF9 a2).2.2 D.2.2.2.1 B.notSynchronized)
    obtain ⟨t2, b1, b2⟩ := k T' a3 a1
    exact ⟨t2, a9.trans b1, fun _ => b2⟩
  have K : zl_K (p, l, e, (headSpec (Cond.codeWith (g_y 325) method_4_code 4 (some .int) [(0, 9, 12, 13)] :: g_tw) (g_rm 102 1 6)).room, st, mid, ((([.ref 0, .int x1, .ref 81] : List Value).map (g_cv X.2.2.1 X.2.2.2.1)).toArray), below, meth, c, fun mc ms t => mc = 0 ∧ ms = 0 → MQ below (zl_Qw X (cM L0 (s, g_rho)) 1) ((([.ref 0, .int x1, .ref 81] : List Value).map (g_cv X.2.2.1 X.2.2.2.1)).toArray) st 1 6 (g_A X) t) (13, false, method_4_code, 4) X zl_k325 [some (.ref 0), some (.int x1), some (.ref 81), none] [] (cM L0 (s, g_rho)) := by
    refine zl_row H (fun k => rfl) ?_
    refine zl_row H (fun k => rfl) ?_
    refine zl_row H (fun k => rfl) ?_
    exact zl_fall H (fun k => rfl) C
  have hlv := lv_entry (([.ref 0, .int x1, .ref 81] : List Value).map (g_cv X.2.2.1 X.2.2.2.1)) (n := 4) (by rw [g_sl_len hf]; exact Nat.le_of_ble_eq_true rfl)
  have G := K zl_ok325 0 0
  obtain ⟨mc, ms, g1, g2, g3, g4, g5⟩ := G
  have g3 : mc + 82 = 0 + 82 := g3
  obtain rfl : mc = 0 := by omega
  have g4 : ms + g_slots g_shp = 0 + g_slots g_shp := g4
  obtain rfl : ms = 0 := by omega
  have hw := g5 (Nat.zero_le _) (Nat.zero_le _) st.heap [] _ ⟨hlv.1, hlv.2.1, rfl, fun i v hi => by
    have := g_args_at hf [.ref 0, .int x1, .ref 81] 0 i v (g_pad_nth 4 _ _ _ hi)
    rw [Nat.zero_add] at this
    exact hlv.2.2 _ this⟩ hW va_S.rf
  rw [lg_entry_eq]
  intro T hT Y
  obtain ⟨t, a, b⟩ := hw T hT Y
  exact ⟨t, a, b ⟨rfl, rfl⟩⟩
/-- 325: the class answered -/
theorem zl_N325 {x : Int32} (hC : X.2.2.2.2.2.1 = g_C 0) (hcon : g_Con X g_T l 101 150 [.ref 0, .int x1] (cM L0 (s, g_rho)) (some (.int x), cM L0 (s1, g_rho))) :
    Met l (g_y 325) (Cond.codeWith (g_y 325) method_4_code 4 (some .int) [(0, 9, 12, 13)] :: g_tw) (g_rm 102 0 0) (zl_Pc X [.ref 0, .int x1, .ref 81] (cM L0 (s, g_rho))) (zl_Qw X (cM L0 (iwl s1 81 0 x.toInt64.toInt, g_rho)) 0) 0 0 (g_A X) := by
  refine va_MetW (cc := method_4_code) (maxL := 4) (ret := some .int) (hh := [(0, 9, 12, 13)]) zl_plain.2.1 rfl ?_
  intro p e st mid args below meth c s₁ B hml hv
  obtain ⟨⟨rfl, hW, hKn, hKc⟩, hZ⟩ := hv
  have hts0 := atoms_spec (ws := Cond.codeWith (g_y 325) method_4_code 4 (some .int) [(0, 9, 12, 13)] :: g_tw) B.pre
  have hts : ∀ w ∈ g_tw, w.before ((([.ref 0, .int x1, .ref 81] : List Value).map (g_cv X.2.2.1 X.2.2.2.1)).toArray) st = true := fun w hw => hts0 w (List.mem_cons_of_mem _ hw)
  have hown : st.vm.findClass (g_on 13) = some mid.cls := findClass_of_methodNamed B.named
  have hf := hKc.2.2.2.2.2.2.2.1
  have hctx : g_Ctx X p st ((([.ref 0, .int x1, .ref 81] : List Value).map (g_cv X.2.2.1 X.2.2.2.1)).toArray) mid meth c (headSpec (Cond.codeWith (g_y 325) method_4_code 4 (some .int) [(0, 9, 12, 13)] :: g_tw) (g_rm 102 0 0)).room 13 false method_4_code 4 102 :=
    ⟨B.exec, B.bytes, hml, hown, hts, hKn, hKc, by show 102 + 2 ≤ 102 + 2; omega, by show 128 * (102 + 2) ≤ 128 * (102 + 2); omega, fun hi => by cases hi⟩
  have H : zl_H (p, l, e, (headSpec (Cond.codeWith (g_y 325) method_4_code 4 (some .int) [(0, 9, 12, 13)] :: g_tw) (g_rm 102 0 0)).room, st, mid, ((([.ref 0, .int x1, .ref 81] : List Value).map (g_cv X.2.2.1 X.2.2.2.1)).toArray), below, meth, c, fun mc ms t => mc = 0 ∧ ms = 0 → MQ below (zl_Qw X (cM L0 (iwl s1 81 0 x.toInt64.toInt, g_rho)) 0) ((([.ref 0, .int x1, .ref 81] : List Value).map (g_cv X.2.2.1 X.2.2.2.1)).toArray) st 0 0 (g_A X) t) (13, false, method_4_code, 4) X 101 := ⟨hctx, hC⟩
  have D := zl_dec325
  have fin : zl_G (p, l, e, (headSpec (Cond.codeWith (g_y 325) method_4_code 4 (some .int) [(0, 9, 12, 13)] :: g_tw) (g_rm 102 0 0)).room, st, mid, ((([.ref 0, .int x1, .ref 81] : List Value).map (g_cv X.2.2.1 X.2.2.2.1)).toArray), below, meth, c, fun mc ms t => mc = 0 ∧ ms = 0 → MQ below (zl_Qw X (cM L0 (iwl s1 81 0 x.toInt64.toInt, g_rho)) 0) ((([.ref 0, .int x1, .ref 81] : List Value).map (g_cv X.2.2.1 X.2.2.2.1)).toArray) st 0 0 (g_A X) t) (13, false, method_4_code, 4) X 16 [some (.ref 0), some (.int x1), some (.ref 81), none] [.int 0] (cM L0 (iwl s1 81 0 x.toInt64.toInt, g_rho)) := by
    intro cells slots
    refine ⟨cells, slots, Nat.le_refl _, Nat.le_refl _, rfl, rfl, fun h1 h2 H9 locs ls hL hW hS => ?_⟩
    by_cases h0 : cells = 0 ∧ slots = 0
    rotate_left
    · intro T hT Y
      exact ⟨_, Steps.refl _, fun h => absurd h h0⟩
    obtain ⟨rfl, rfl⟩ := h0
    intro T hT Y
    obtain ⟨t2, b1, b2⟩ := W.zret (Qc := zl_Qw X (cM L0 (iwl s1 81 0 x.toInt64.toInt, g_rho)) 0) (free := g_A X) B.exec B.bytes B.returns (v := 0) rfl (fun t2 ht2 _ => ⟨rfl, by rw [ht2]; exact hW, hS.F ht2⟩) hS.2.2 D.2.2.2.2 B.notSynchronized T hT Y
    exact ⟨t2, b1, fun _ => b2⟩
  have tail : zl_G (p, l, e, (headSpec (Cond.codeWith (g_y 325) method_4_code 4 (some .int) [(0, 9, 12, 13)] :: g_tw) (g_rm 102 0 0)).room, st, mid, ((([.ref 0, .int x1, .ref 81] : List Value).map (g_cv X.2.2.1 X.2.2.2.1)).toArray), below, meth, c, fun mc ms t => mc = 0 ∧ ms = 0 → MQ below (zl_Qw X (cM L0 (iwl s1 81 0 x.toInt64.toInt, g_rho)) 0) ((([.ref 0, .int x1, .ref 81] : List Value).map (g_cv X.2.2.1 X.2.2.2.1)).toArray) st 0 0 (g_A X) t) (13, false, method_4_code, 4) X 7 [some (.ref 0), some (.int x1), some (.ref 81), none] [.int x, .int 0, .ref 81] (cM L0 (s1, g_rho)) := by
    have t2 := (show zl_K _ (13, false, method_4_code, 4) X [(15, .iconst 0, 1, 0, 0, 0)] [some (.ref 0), some (.int x1), some (.ref 81), none] [] (cM L0 (iwl s1 81 0 x.toInt64.toInt, g_rho)) from zl_fall H (fun k => rfl) fin) zl_oe325
    have t1 : zl_K (p, l, e, (headSpec (Cond.codeWith (g_y 325) method_4_code 4 (some .int) [(0, 9, 12, 13)] :: g_tw) (g_rm 102 0 0)).room, st, mid, ((([.ref 0, .int x1, .ref 81] : List Value).map (g_cv X.2.2.1 X.2.2.2.1)).toArray), below, meth, c, fun mc ms t => mc = 0 ∧ ms = 0 → MQ below (zl_Qw X (cM L0 (iwl s1 81 0 x.toInt64.toInt, g_rho)) 0) ((([.ref 0, .int x1, .ref 81] : List Value).map (g_cv X.2.2.1 X.2.2.2.1)).toArray) st 0 0 (g_A X) t) (13, false, method_4_code, 4) X zl_n325 [some (.ref 0), some (.int x1), some (.ref 81), none] [.int x, .int 0, .ref 81] (cM L0 (s1, g_rho)) := by
      refine zl_row H (fun k => rfl) ?_
      refine zl_rowm (L1 := [some (.ref 0), some (.int x1), some (.ref 81), none]) (st1 := []) (m1 := cM L0 (iwl s1 81 0 x.toInt64.toInt, g_rho)) H (fun k => ?_) rfl ?_
      · have e := zl_up (L0 := L0) (y := x.toInt64) (μ := (s1, g_rho))
        show k none _ [] ((cM L0 (s1, g_rho)).1, g_up (cM L0 (s1, g_rho)).2.1 81 0 x.toInt64, (cM L0 (s1, g_rho)).2.2) = _
        rw [e]
      exact zl_jmp H (fun k => rfl) t2
    exact t1 zl_on325
  have C : zl_G (p, l, e, (headSpec (Cond.codeWith (g_y 325) method_4_code 4 (some .int) [(0, 9, 12, 13)] :: g_tw) (g_rm 102 0 0)).room, st, mid, ((([.ref 0, .int x1, .ref 81] : List Value).map (g_cv X.2.2.1 X.2.2.2.1)).toArray), below, meth, c, fun mc ms t => mc = 0 ∧ ms = 0 → MQ below (zl_Qw X (cM L0 (iwl s1 81 0 x.toInt64.toInt, g_rho)) 0) ((([.ref 0, .int x1, .ref 81] : List Value).map (g_cv X.2.2.1 X.2.2.2.1)).toArray) st 0 0 (g_A X) t) (13, false, method_4_code, 4) X 4 [some (.ref 0), some (.int x1), some (.ref 81), none] [.int x1, .ref 0, .int (g_num (1, .iconst 0, 1, 0, 0, 0)), .ref 81] (cM L0 (s, g_rho)) := by
    exact zl_vcall (A := 150) (cl := 11) (q := 0) (As := [.int x1]) (st1 := [.int 0, .ref 81]) (n := 1) H D.1 zl_v325.1 zl_v325.2.1 zl_v325.2.2 zl_v324.2.2.2 zl_m3.2.1 zl_p3.2.1 rfl rfl rfl rfl hcon tail
  have K : zl_K (p, l, e, (headSpec (Cond.codeWith (g_y 325) method_4_code 4 (some .int) [(0, 9, 12, 13)] :: g_tw) (g_rm 102 0 0)).room, st, mid, ((([.ref 0, .int x1, .ref 81] : List Value).map (g_cv X.2.2.1 X.2.2.2.1)).toArray), below, meth, c, fun mc ms t => mc = 0 ∧ ms = 0 → MQ below (zl_Qw X (cM L0 (iwl s1 81 0 x.toInt64.toInt, g_rho)) 0) ((([.ref 0, .int x1, .ref 81] : List Value).map (g_cv X.2.2.1 X.2.2.2.1)).toArray) st 0 0 (g_A X) t) (13, false, method_4_code, 4) X zl_k325 [some (.ref 0), some (.int x1), some (.ref 81), none] [] (cM L0 (s, g_rho)) := by
    refine zl_row H (fun k => rfl) ?_
    refine zl_row H (fun k => rfl) ?_
    refine zl_row H (fun k => rfl) ?_
    exact zl_fall H (fun k => rfl) C
  have hlv := lv_entry (([.ref 0, .int x1, .ref 81] : List Value).map (g_cv X.2.2.1 X.2.2.2.1)) (n := 4) (by rw [g_sl_len hf]; exact Nat.le_of_ble_eq_true rfl)
  have G := K zl_ok325 0 0
  obtain ⟨mc, ms, g1, g2, g3, g4, g5⟩ := G
  have g3 : mc + 82 = 0 + 82 := g3
  obtain rfl : mc = 0 := by omega
  have g4 : ms + g_slots g_shp = 0 + g_slots g_shp := g4
  obtain rfl : ms = 0 := by omega
  have hw := g5 (Nat.zero_le _) (Nat.zero_le _) st.heap [] _ ⟨hlv.1, hlv.2.1, rfl, fun i v hi => by
    have := g_args_at hf [.ref 0, .int x1, .ref 81] 0 i v (g_pad_nth 4 _ _ _ hi)
    rw [Nat.zero_add] at this
    exact hlv.2.2 _ this⟩ hW va_S.rf
  rw [lg_entry_eq]
  intro T hT Y
  obtain ⟨t, a, b⟩ := hw T hT Y
  exact ⟨t, a, b ⟨rfl, rfl⟩⟩
/-- 326: the class threw -/
theorem zl_T326 (hC : X.2.2.2.2.2.1 = g_C 0) (hx : vx_Met l gm_155.1 (Cond.code gm_155.1 gm_155.2.1 gm_155.2.2.1 gm_155.2.2.2.1 :: g_tw) (g_rm 101 1 6) (zl_Pc X [.ref 0, .int x1] (cM L0 (s, g_rho))) zl_no (zl_XC X (cM L0 (s, g_rho))) 1 6 (g_A X)) :
    Met l (g_y 326) (Cond.codeWith (g_y 326) method_5_code 4 (some .int) [(0, 9, 12, 13)] :: g_tw) (g_rm 102 1 6) (zl_Pc X [.ref 0, .int x1, .ref 81] (cM L0 (s, g_rho))) (zl_Qw X (cM L0 (s, g_rho)) 1) 1 6 (g_A X) := by
  refine va_MetW (cc := method_5_code) (maxL := 4) (ret := some .int) (hh := [(0, 9, 12, 13)]) zl_plain.2.2 rfl ?_
  intro p e st mid args below meth c s₁ B hml hv
  obtain ⟨⟨rfl, hW, hKn, hKc⟩, hZ⟩ := hv
  have hts0 := atoms_spec (ws := Cond.codeWith (g_y 326) method_5_code 4 (some .int) [(0, 9, 12, 13)] :: g_tw) B.pre
  have hts : ∀ w ∈ g_tw, w.before ((([.ref 0, .int x1, .ref 81] : List Value).map (g_cv X.2.2.1 X.2.2.2.1)).toArray) st = true := fun w hw => hts0 w (List.mem_cons_of_mem _ hw)
  have hown : st.vm.findClass (g_on 13) = some mid.cls := findClass_of_methodNamed B.named
  have hf := hKc.2.2.2.2.2.2.2.1
  have hctx : g_Ctx X p st ((([.ref 0, .int x1, .ref 81] : List Value).map (g_cv X.2.2.1 X.2.2.2.1)).toArray) mid meth c (headSpec (Cond.codeWith (g_y 326) method_5_code 4 (some .int) [(0, 9, 12, 13)] :: g_tw) (g_rm 102 1 6)).room 13 false method_5_code 4 102 :=
    ⟨B.exec, B.bytes, hml, hown, hts, hKn, hKc, by show 102 + 2 ≤ 102 + 2; omega, by show 128 * (102 + 2) ≤ 128 * (102 + 2); omega, fun hi => by cases hi⟩
  have H : zl_H (p, l, e, (headSpec (Cond.codeWith (g_y 326) method_5_code 4 (some .int) [(0, 9, 12, 13)] :: g_tw) (g_rm 102 1 6)).room, st, mid, ((([.ref 0, .int x1, .ref 81] : List Value).map (g_cv X.2.2.1 X.2.2.2.1)).toArray), below, meth, c, fun mc ms t => mc = 0 ∧ ms = 0 → MQ below (zl_Qw X (cM L0 (s, g_rho)) 1) ((([.ref 0, .int x1, .ref 81] : List Value).map (g_cv X.2.2.1 X.2.2.2.1)).toArray) st 1 6 (g_A X) t) (13, false, method_5_code, 4) X 101 := ⟨hctx, hC⟩
  have D := zl_dec326
  have tab : c.exceptionTable.toList = [] ++ (⟨0, 9, 12, 13⟩ : ExceptionTableEntry) :: [] := vx_table (x := g_y 326) B (hts0 _ List.mem_cons_self)
  have C : zl_G (p, l, e, (headSpec (Cond.codeWith (g_y 326) method_5_code 4 (some .int) [(0, 9, 12, 13)] :: g_tw) (g_rm 102 1 6)).room, st, mid, ((([.ref 0, .int x1, .ref 81] : List Value).map (g_cv X.2.2.1 X.2.2.2.1)).toArray), below, meth, c, fun mc ms t => mc = 0 ∧ ms = 0 → MQ below (zl_Qw X (cM L0 (s, g_rho)) 1) ((([.ref 0, .int x1, .ref 81] : List Value).map (g_cv X.2.2.1 X.2.2.2.1)).toArray) st 1 6 (g_A X) t) (13, false, method_5_code, 4) X 4 [some (.ref 0), some (.int x1), some (.ref 81), none] [.int x1, .ref 0, .int (g_num (1, .iconst 0, 1, 0, 0, 0)), .ref 81] (cM L0 (s, g_rho)) := by
    intro cells slots
    refine ⟨cells, slots, Nat.le_refl _, Nat.le_refl _, rfl, rfl, fun h1 h2 H9 locs ls hL hW hS => ?_⟩
    by_cases h0 : cells = 0 ∧ slots = 0
    rotate_left
    · intro T hT Y
      exact ⟨_, Steps.refl _, fun h => absurd h h0⟩
    obtain ⟨rfl, rfl⟩ := h0
    have hr : g_recv X.2.2.2.2.2.1 [.ref 0, .int x1] (cM L0 (s, g_rho)) 11 = true := by rw [hC]; rfl
    obtain ⟨q', As1, hq, hrc⟩ := g_recv_at hr hKn hKc hW hS
    cases hq
    obtain ⟨y1, y2, y3, y4, y5⟩ := g_cb (mc := 1) (ms := 6) hctx g_T_ok (show g_T 155 = some gm_155 from rfl)
    have R := vx_runV (C := g_on 11) (As := [.int x1]) (b := X.2.2.1 0) (n := 1) (rest := [.int 0, .ref (X.2.2.1 81)]) (own := g_on 13) (index := 19) (cells := 0) (slots := 0) (locs := locs) (H := H9) (g := F0 mid 4 ls (([.int x1, .ref 0, .int (g_num (1, .iconst 0, 1, 0, 0, 0)), .ref 81] : List Value).map (g_cv X.2.2.1 X.2.2.2.1))) (p := p) (l := l) (e := e) (below := below) (meth := meth) ⟨B.exec, B.bytes, hml, hown, hts⟩ hx
      ⟨⟨rfl, rfl, y4, y5, y2, List.mem_cons_self, y3, hts _ zl_v324.2.2.2, zl_m3.2.2, g_npar zl_p3.2.2, hts _ zl_v326.1⟩, hts _ zl_v326.2.1, hts _ zl_v326.2.2⟩
      ⟨zl_Pc_blind X _ _, hrc, fun U hU hw => ⟨g_Pc_at hKn hKc hW hS [.ref 0, .int x1] U hU hw, by rw [hU]; exact zl_Z_warm hw (zl_Z_kept hZ hS.2.1)⟩⟩ rfl rfl hL.1 rfl (lv_room (Nat.le_of_ble_eq_true rfl)) D.1 ⟨Nat.le_refl _, Nat.le_refl _⟩
    intro T hT Y
    rcases R T hT Y with ⟨v, st₀, t, T', L9, a0, a1, a2, a3, a4, a5, a6⟩ | ⟨q, st₀, t, T', L9, E, ce, a0, a1, a2, a3, a4, ⟨hE, hW9, hF9⟩, a6, a7, a8, a9⟩
    · exact a5.elim
    subst hE
    have hcast : (Cond.castable "java/util/NoSuchElementException" "java/util/NoSuchElementException").before ((([.ref 0, .int x1, .ref 81] : List Value).map (g_cv X.2.2.1 X.2.2.2.1)).toArray) st = true := va_Nw.use rfl (hZ.2.2 _ (by simp [zl_bad]))
    have k := vx_catch (p := p) (l := l) (e := e) (R := (headSpec (Cond.codeWith (g_y 326) method_5_code 4 (some .int) [(0, 9, 12, 13)] :: g_tw) (g_rm 102 1 6)).room) (meth := meth) (below := below) (H := t.heap) (locs := locs ++ L9) (cells := 0 + 1) (slots := 0 + 6) (rest := [.int 0, .ref (X.2.2.1 81)]) (pc := 4) (ls := ls) (Q := MQ below (zl_Qw X (cM L0 (s, g_rho)) 1) ((([.ref 0, .int x1, .ref 81] : List Value).map (g_cv X.2.2.1 X.2.2.2.1)).toArray) st 1 6 (g_A X)) hown [] _ [] tab (fun z hz => nomatch hz) rfl (by decide) (hts _ zl_l13) hcast a6 a7 a8 (by
      refine lv_astore_n B.exec B.bytes D.2.1 rfl (g_lv_has hL) (by decide) rfl (fun ls' _ => ?_)
      refine lv_iconst B.exec B.bytes D.2.2.1 (v := 1) rfl ?_
      exact W.zret B.exec B.bytes B.returns (v := 1) rfl (fun t2 ht2 _ => ⟨rfl, by rw [ht2]; exact hW9, (g_va_S hS a0 hF9 a2).F ht2⟩) (g_va_S hS a0 hF9 a2).2.2 D.2.2.2.1 B.notSynchronized)
    obtain ⟨t2, b1, b2⟩ := k T' a3 a1
    exact ⟨t2, a9.trans b1, fun _ => b2⟩
  have K : zl_K (p, l, e, (headSpec (Cond.codeWith (g_y 326) method_5_code 4 (some .int) [(0, 9, 12, 13)] :: g_tw) (g_rm 102 1 6)).room, st, mid, ((([.ref 0, .int x1, .ref 81] : List Value).map (g_cv X.2.2.1 X.2.2.2.1)).toArray), below, meth, c, fun mc ms t => mc = 0 ∧ ms = 0 → MQ below (zl_Qw X (cM L0 (s, g_rho)) 1) ((([.ref 0, .int x1, .ref 81] : List Value).map (g_cv X.2.2.1 X.2.2.2.1)).toArray) st 1 6 (g_A X) t) (13, false, method_5_code, 4) X zl_k325 [some (.ref 0), some (.int x1), some (.ref 81), none] [] (cM L0 (s, g_rho)) := by
    refine zl_row H (fun k => rfl) ?_
    refine zl_row H (fun k => rfl) ?_
    refine zl_row H (fun k => rfl) ?_
    exact zl_fall H (fun k => rfl) C
  have hlv := lv_entry (([.ref 0, .int x1, .ref 81] : List Value).map (g_cv X.2.2.1 X.2.2.2.1)) (n := 4) (by rw [g_sl_len hf]; exact Nat.le_of_ble_eq_true rfl)
  have G := K zl_ok326 0 0
  obtain ⟨mc, ms, g1, g2, g3, g4, g5⟩ := G
  have g3 : mc + 82 = 0 + 82 := g3
  obtain rfl : mc = 0 := by omega
  have g4 : ms + g_slots g_shp = 0 + g_slots g_shp := g4
  obtain rfl : ms = 0 := by omega
  have hw := g5 (Nat.zero_le _) (Nat.zero_le _) st.heap [] _ ⟨hlv.1, hlv.2.1, rfl, fun i v hi => by
    have := g_args_at hf [.ref 0, .int x1, .ref 81] 0 i v (g_pad_nth 4 _ _ _ hi)
    rw [Nat.zero_add] at this
    exact hlv.2.2 _ this⟩ hW va_S.rf
  rw [lg_entry_eq]
  intro T hT Y
  obtain ⟨t, a, b⟩ := hw T hT Y
  exact ⟨t, a, b ⟨rfl, rfl⟩⟩
/-- 326: the class answered -/
theorem zl_N326 {x : Int32} (hC : X.2.2.2.2.2.1 = g_C 0) (hcon : g_Con X g_T l 101 155 [.ref 0, .int x1] (cM L0 (s, g_rho)) (some (.int x), cM L0 (s1, g_rho))) :
    Met l (g_y 326) (Cond.codeWith (g_y 326) method_5_code 4 (some .int) [(0, 9, 12, 13)] :: g_tw) (g_rm 102 0 0) (zl_Pc X [.ref 0, .int x1, .ref 81] (cM L0 (s, g_rho))) (zl_Qw X (cM L0 (iwl s1 81 0 x.toInt64.toInt, g_rho)) 0) 0 0 (g_A X) := by
  refine va_MetW (cc := method_5_code) (maxL := 4) (ret := some .int) (hh := [(0, 9, 12, 13)]) zl_plain.2.2 rfl ?_
  intro p e st mid args below meth c s₁ B hml hv
  obtain ⟨⟨rfl, hW, hKn, hKc⟩, hZ⟩ := hv
  have hts0 := atoms_spec (ws := Cond.codeWith (g_y 326) method_5_code 4 (some .int) [(0, 9, 12, 13)] :: g_tw) B.pre
  have hts : ∀ w ∈ g_tw, w.before ((([.ref 0, .int x1, .ref 81] : List Value).map (g_cv X.2.2.1 X.2.2.2.1)).toArray) st = true := fun w hw => hts0 w (List.mem_cons_of_mem _ hw)
  have hown : st.vm.findClass (g_on 13) = some mid.cls := findClass_of_methodNamed B.named
  have hf := hKc.2.2.2.2.2.2.2.1
  have hctx : g_Ctx X p st ((([.ref 0, .int x1, .ref 81] : List Value).map (g_cv X.2.2.1 X.2.2.2.1)).toArray) mid meth c (headSpec (Cond.codeWith (g_y 326) method_5_code 4 (some .int) [(0, 9, 12, 13)] :: g_tw) (g_rm 102 0 0)).room 13 false method_5_code 4 102 :=
    ⟨B.exec, B.bytes, hml, hown, hts, hKn, hKc, by show 102 + 2 ≤ 102 + 2; omega, by show 128 * (102 + 2) ≤ 128 * (102 + 2); omega, fun hi => by cases hi⟩
  have H : zl_H (p, l, e, (headSpec (Cond.codeWith (g_y 326) method_5_code 4 (some .int) [(0, 9, 12, 13)] :: g_tw) (g_rm 102 0 0)).room, st, mid, ((([.ref 0, .int x1, .ref 81] : List Value).map (g_cv X.2.2.1 X.2.2.2.1)).toArray), below, meth, c, fun mc ms t => mc = 0 ∧ ms = 0 → MQ below (zl_Qw X (cM L0 (iwl s1 81 0 x.toInt64.toInt, g_rho)) 0) ((([.ref 0, .int x1, .ref 81] : List Value).map (g_cv X.2.2.1 X.2.2.2.1)).toArray) st 0 0 (g_A X) t) (13, false, method_5_code, 4) X 101 := ⟨hctx, hC⟩
  have D := zl_dec326
  have fin : zl_G (p, l, e, (headSpec (Cond.codeWith (g_y 326) method_5_code 4 (some .int) [(0, 9, 12, 13)] :: g_tw) (g_rm 102 0 0)).room, st, mid, ((([.ref 0, .int x1, .ref 81] : List Value).map (g_cv X.2.2.1 X.2.2.2.1)).toArray), below, meth, c, fun mc ms t => mc = 0 ∧ ms = 0 → MQ below (zl_Qw X (cM L0 (iwl s1 81 0 x.toInt64.toInt, g_rho)) 0) ((([.ref 0, .int x1, .ref 81] : List Value).map (g_cv X.2.2.1 X.2.2.2.1)).toArray) st 0 0 (g_A X) t) (13, false, method_5_code, 4) X 16 [some (.ref 0), some (.int x1), some (.ref 81), none] [.int 0] (cM L0 (iwl s1 81 0 x.toInt64.toInt, g_rho)) := by
    intro cells slots
    refine ⟨cells, slots, Nat.le_refl _, Nat.le_refl _, rfl, rfl, fun h1 h2 H9 locs ls hL hW hS => ?_⟩
    by_cases h0 : cells = 0 ∧ slots = 0
    rotate_left
    · intro T hT Y
      exact ⟨_, Steps.refl _, fun h => absurd h h0⟩
    obtain ⟨rfl, rfl⟩ := h0
    intro T hT Y
    obtain ⟨t2, b1, b2⟩ := W.zret (Qc := zl_Qw X (cM L0 (iwl s1 81 0 x.toInt64.toInt, g_rho)) 0) (free := g_A X) B.exec B.bytes B.returns (v := 0) rfl (fun t2 ht2 _ => ⟨rfl, by rw [ht2]; exact hW, hS.F ht2⟩) hS.2.2 D.2.2.2.2 B.notSynchronized T hT Y
    exact ⟨t2, b1, fun _ => b2⟩
  have tail : zl_G (p, l, e, (headSpec (Cond.codeWith (g_y 326) method_5_code 4 (some .int) [(0, 9, 12, 13)] :: g_tw) (g_rm 102 0 0)).room, st, mid, ((([.ref 0, .int x1, .ref 81] : List Value).map (g_cv X.2.2.1 X.2.2.2.1)).toArray), below, meth, c, fun mc ms t => mc = 0 ∧ ms = 0 → MQ below (zl_Qw X (cM L0 (iwl s1 81 0 x.toInt64.toInt, g_rho)) 0) ((([.ref 0, .int x1, .ref 81] : List Value).map (g_cv X.2.2.1 X.2.2.2.1)).toArray) st 0 0 (g_A X) t) (13, false, method_5_code, 4) X 7 [some (.ref 0), some (.int x1), some (.ref 81), none] [.int x, .int 0, .ref 81] (cM L0 (s1, g_rho)) := by
    have t2 := (show zl_K _ (13, false, method_5_code, 4) X [(15, .iconst 0, 1, 0, 0, 0)] [some (.ref 0), some (.int x1), some (.ref 81), none] [] (cM L0 (iwl s1 81 0 x.toInt64.toInt, g_rho)) from zl_fall H (fun k => rfl) fin) zl_oe326
    have t1 : zl_K (p, l, e, (headSpec (Cond.codeWith (g_y 326) method_5_code 4 (some .int) [(0, 9, 12, 13)] :: g_tw) (g_rm 102 0 0)).room, st, mid, ((([.ref 0, .int x1, .ref 81] : List Value).map (g_cv X.2.2.1 X.2.2.2.1)).toArray), below, meth, c, fun mc ms t => mc = 0 ∧ ms = 0 → MQ below (zl_Qw X (cM L0 (iwl s1 81 0 x.toInt64.toInt, g_rho)) 0) ((([.ref 0, .int x1, .ref 81] : List Value).map (g_cv X.2.2.1 X.2.2.2.1)).toArray) st 0 0 (g_A X) t) (13, false, method_5_code, 4) X zl_n325 [some (.ref 0), some (.int x1), some (.ref 81), none] [.int x, .int 0, .ref 81] (cM L0 (s1, g_rho)) := by
      refine zl_row H (fun k => rfl) ?_
      refine zl_rowm (L1 := [some (.ref 0), some (.int x1), some (.ref 81), none]) (st1 := []) (m1 := cM L0 (iwl s1 81 0 x.toInt64.toInt, g_rho)) H (fun k => ?_) rfl ?_
      · have e := zl_up (L0 := L0) (y := x.toInt64) (μ := (s1, g_rho))
        show k none _ [] ((cM L0 (s1, g_rho)).1, g_up (cM L0 (s1, g_rho)).2.1 81 0 x.toInt64, (cM L0 (s1, g_rho)).2.2) = _
        rw [e]
      exact zl_jmp H (fun k => rfl) t2
    exact t1 zl_on326
  have C : zl_G (p, l, e, (headSpec (Cond.codeWith (g_y 326) method_5_code 4 (some .int) [(0, 9, 12, 13)] :: g_tw) (g_rm 102 0 0)).room, st, mid, ((([.ref 0, .int x1, .ref 81] : List Value).map (g_cv X.2.2.1 X.2.2.2.1)).toArray), below, meth, c, fun mc ms t => mc = 0 ∧ ms = 0 → MQ below (zl_Qw X (cM L0 (iwl s1 81 0 x.toInt64.toInt, g_rho)) 0) ((([.ref 0, .int x1, .ref 81] : List Value).map (g_cv X.2.2.1 X.2.2.2.1)).toArray) st 0 0 (g_A X) t) (13, false, method_5_code, 4) X 4 [some (.ref 0), some (.int x1), some (.ref 81), none] [.int x1, .ref 0, .int (g_num (1, .iconst 0, 1, 0, 0, 0)), .ref 81] (cM L0 (s, g_rho)) := by
    exact zl_vcall (A := 155) (cl := 11) (q := 0) (As := [.int x1]) (st1 := [.int 0, .ref 81]) (n := 1) H D.1 zl_v326.1 zl_v326.2.1 zl_v326.2.2 zl_v324.2.2.2 zl_m3.2.2 zl_p3.2.2 rfl rfl rfl rfl hcon tail
  have K : zl_K (p, l, e, (headSpec (Cond.codeWith (g_y 326) method_5_code 4 (some .int) [(0, 9, 12, 13)] :: g_tw) (g_rm 102 0 0)).room, st, mid, ((([.ref 0, .int x1, .ref 81] : List Value).map (g_cv X.2.2.1 X.2.2.2.1)).toArray), below, meth, c, fun mc ms t => mc = 0 ∧ ms = 0 → MQ below (zl_Qw X (cM L0 (iwl s1 81 0 x.toInt64.toInt, g_rho)) 0) ((([.ref 0, .int x1, .ref 81] : List Value).map (g_cv X.2.2.1 X.2.2.2.1)).toArray) st 0 0 (g_A X) t) (13, false, method_5_code, 4) X zl_k325 [some (.ref 0), some (.int x1), some (.ref 81), none] [] (cM L0 (s, g_rho)) := by
    refine zl_row H (fun k => rfl) ?_
    refine zl_row H (fun k => rfl) ?_
    refine zl_row H (fun k => rfl) ?_
    exact zl_fall H (fun k => rfl) C
  have hlv := lv_entry (([.ref 0, .int x1, .ref 81] : List Value).map (g_cv X.2.2.1 X.2.2.2.1)) (n := 4) (by rw [g_sl_len hf]; exact Nat.le_of_ble_eq_true rfl)
  have G := K zl_ok326 0 0
  obtain ⟨mc, ms, g1, g2, g3, g4, g5⟩ := G
  have g3 : mc + 82 = 0 + 82 := g3
  obtain rfl : mc = 0 := by omega
  have g4 : ms + g_slots g_shp = 0 + g_slots g_shp := g4
  obtain rfl : ms = 0 := by omega
  have hw := g5 (Nat.zero_le _) (Nat.zero_le _) st.heap [] _ ⟨hlv.1, hlv.2.1, rfl, fun i v hi => by
    have := g_args_at hf [.ref 0, .int x1, .ref 81] 0 i v (g_pad_nth 4 _ _ _ hi)
    rw [Nat.zero_add] at this
    exact hlv.2.2 _ this⟩ hW va_S.rf
  rw [lg_entry_eq]
  intro T hT Y
  obtain ⟨t, a, b⟩ := hw T hT Y
  exact ⟨t, a, b ⟨rfl, rfl⟩⟩
end ZWRAP

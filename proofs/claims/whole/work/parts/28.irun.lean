section IRUN
variable {L : Nat} {wr : Bool} {fi : iF} {fg : gF} {ki : iK} {kg : gK} {Ls : iLs} {st : List iV} {m : iM} {o : Option iV × iM} {pc len a b c0 : Nat} {ins : Instr}
abbrev iHC (L : Nat) (fi : iF) (fg : gF) : Prop := ∀ i As m o, fi i As m = some o → okS As → okM m → Sim L (fg i (cvS As) (cM L m)) o
theorem okS_app {v : Option iV} {l : List iV} (h1 : ∀ w, v = some w → okv w) (h2 : okS l) : okS (v.toList ++ l) := by
  cases v with
  | none => exact h2
  | some w => exact okS_cons (h1 w rfl) h2
theorem i_call_sim (hcall : iHC L fi fg) (hk : iHK L ki kg o) (hL : okL Ls) {i : Nat} {As : List iV} (hA : okS As) (hS : okS st) (hM : okM m) (h : i_bind (fi i As m) (fun v m => ki none Ls (v.toList ++ st) m) = some o) :
    Sim L (g_old (g_C 0) (cvL Ls) (cvS st) (cM L m) (g_bind (fg i (cvS As) (cM L m)) fun v m => kg none (cvL Ls) (v.toList ++ cvS st) m)) o := by
  show Sim L (g_bind (fg i (cvS As) (cM L m)) fun v m => kg none (cvL Ls) (v.toList ++ cvS st) m) o
  unfold i_bind at h
  split at h
  · cases h
  · rename_i v m1 hq
    obtain ⟨h1, h2, h3⟩ := hcall _ _ _ _ hq hA hM
    rw [h1]
    show Sim L (kg none (cvL Ls) ((v.map cvv).toList ++ cvS st) (cM L m1)) o
    have e1 : (v.map cvv).toList ++ cvS st = cvS (v.toList ++ st) := by cases v <;> rfl
    rw [e1]
    exact hk none Ls _ m1 hL (okS_app h2 hS) h3 h
theorem i_recv_cv (As : List iV) (cl : Nat) : g_recv (g_C 0) (cvS As) (cM L m) cl = i_recv L As m cl := by
  rcases As with _ | ⟨v, As⟩
  · rfl
  · rcases v with _ | x | x | x <;> rfl
theorem cM_copy {sp dp n : Int} {s1 d1 n1 : Nat} {x y : Nat} (h1 : (s1 : Int) = sp) (h2 : (d1 : Int) = dp) (h3 : (n1 : Int) = n) : (g_row (cM L m).1 y (g_cpy ((cM L m).1 x) ((cM L m).1 y) s1 d1 n1), (cM L m).2) = cM L (icw m.1 x y sp dp n, m.2) := by
  subst h1 h2 h3
  refine Prod.ext ?_ rfl
  funext q j
  show (if q = y then (if d1 ≤ j ∧ j < d1 + n1 then Int32.ofInt (m.1.1 x ((s1 + (j - d1) : Nat) : Int)) else Int32.ofInt (m.1.1 y j)) else Int32.ofInt (m.1.1 q j)) = Int32.ofInt (if q = y then (if (d1 : Int) ≤ j ∧ (j : Int) < d1 + n1 then m.1.1 x (s1 + (j - d1)) else m.1.1 y j) else m.1.1 q j)
  by_cases hq : q = y
  · rw [if_pos hq, if_pos hq]
    by_cases hj : d1 ≤ j ∧ j < d1 + n1
    · rw [if_pos hj, if_pos (by omega)]
      have : ((s1 + (j - d1) : Nat) : Int) = (s1 : Int) + ((j : Int) - d1) := by omega
      rw [this]
    · rw [if_neg hj, if_neg (by omega)]
  · rw [if_neg hq, if_neg hq]
theorem okM_icw {sp dp n : Int} {x y : Nat} (h : okM m) : okM (icw m.1 x y sp dp n, m.2) := by
  refine ⟨fun q j => ?_, h.2⟩
  show rg (if q = y then (if dp ≤ j ∧ j < dp + n then m.1.1 x (sp + (j - dp)) else m.1.1 y j) else m.1.1 q j)
  split
  · split
    · exact h.1 _ _
    · exact h.1 _ _
  · exact h.1 _ _
theorem i_inv_sim (hcall : iHC L fi fg) (hk : iHK L ki kg o) (hL : okL Ls) (hS : okS st) (hM : okM m) {e : gCE} (h : i_inv L fi e Ls st m ki = some o) : Sim L (g_inv (g_C 0) fg e (cvL Ls) (cvS st) (cM L m) kg) o := by
  unfold i_inv at h
  unfold g_inv
  split at h
  · rename_i hc
    rw [hc]
    replace h := i_a1_inv h; obtain ⟨x, st, rfl, h⟩ := h
    replace h := i_cond_inv h; obtain ⟨hb, h⟩ := h
    simp only [g_a1, cvS, List.map_cons, cvv]
    have e1 := i_cats_cv st
    simp only [cvS] at e1
    rw [e1, hb]
    exact hk none Ls st m hL (okS_tl hS) hM h
  · rename_i hc
    rw [hc]
    simp only at h ⊢
    split at h
    · rename_i n dp d sp a st
      simp only [cvS, List.map_cons, cvv]
      have hsp : rg sp := okS_hd (okS_tl (okS_tl (okS_tl hS)))
      have hdp : rg dp := okS_hd (okS_tl hS)
      have hn : rg n := okS_hd hS
      simp only [i_sh] at h
      split at h
      · rename_i na nd ha hd
        replace h := icp_inv h; obtain ⟨⟨c1, c2, c3, c4, c5⟩, h⟩ := h
        rw [ha, hd]
        simp only
        have t1 := i32_nat hsp c1
        have t2 := i32_nat hdp c2
        have t3 := i32_nat hn c3
        rw [if_neg (by
          rintro ((q | q | q) | (q | q))
          · exact absurd ((i32_lt hsp rg_0).mp q) (by omega)
          · exact absurd ((i32_lt hdp rg_0).mp q) (by omega)
          · exact absurd ((i32_lt hn rg_0).mp q) (by omega)
          · omega
          · omega)]
        cases hb : Nat.beq a d with
        | true => rw [hb] at h; cases h
        | false =>
          rw [hb] at h
          simp only [cond_false] at h ⊢
          replace h := i_cond_inv h; obtain ⟨hb2, h⟩ := h
          have e1 := i_cats_cv st
          simp only [cvS] at e1
          rw [e1, hb2, cM_copy t1 t2 t3]
          exact hk none Ls st _ hL (okS_tl (okS_tl (okS_tl (okS_tl (okS_tl hS))))) (okM_icw hM) h
      · cases h
    · cases h
  · rename_i hc
    rw [hc]
    replace h := i_b2_inv h; obtain ⟨x, y, st, rfl, h⟩ := h
    replace h := i_cond_inv h; obtain ⟨hb, h⟩ := h
    have hy : rg y := okS_hd hS
    have hx : rg x := okS_hd (okS_tl hS)
    simp only [g_b2, cvS, List.map_cons, cvv]
    have e1 := i_cats_cv st
    simp only [cvS] at e1
    rw [e1, hb]
    have e2 : (if Int32.ofInt x < Int32.ofInt y then Int32.ofInt y else Int32.ofInt x) = Int32.ofInt (if x < y then y else x) := by
      by_cases q : x < y
      · rw [if_pos q, if_pos ((i32_lt hx hy).mpr q)]
      · rw [if_neg q, if_neg (fun z => q ((i32_lt hx hy).mp z))]
    rw [e2]
    exact hk none Ls (vI _ :: st) m hL (okS_cons (v := vI _) (by show rg _; split <;> assumption) (okS_tl (okS_tl hS))) hM h
  · rename_i hc
    rw [hc]
    replace h := i_b2_inv h; obtain ⟨x, y, st, rfl, h⟩ := h
    replace h := i_cond_inv h; obtain ⟨hb, h⟩ := h
    have hy : rg y := okS_hd hS
    have hx : rg x := okS_hd (okS_tl hS)
    simp only [g_b2, cvS, List.map_cons, cvv]
    have e1 := i_cats_cv st
    simp only [cvS] at e1
    rw [e1, hb]
    have e2 : (if Int32.ofInt y < Int32.ofInt x then Int32.ofInt y else Int32.ofInt x) = Int32.ofInt (if y < x then y else x) := by
      by_cases q : y < x
      · rw [if_pos q, if_pos ((i32_lt hy hx).mpr q)]
      · rw [if_neg q, if_neg (fun z => q ((i32_lt hy hx).mp z))]
    rw [e2]
    exact hk none Ls (vI _ :: st) m hL (okS_cons (v := vI _) (by show rg _; split <;> assumption) (okS_tl (okS_tl hS))) hM h
  · rename_i hc
    rw [hc]
    replace h := i_b1_inv h; obtain ⟨x, st, rfl, h⟩ := h
    replace h := i_cond_inv h; obtain ⟨hb, h⟩ := h
    replace h := iov_inv h; obtain ⟨hz, h⟩ := h
    have hx : rg x := okS_hd hS
    simp only [g_b1, cvS, List.map_cons, cvv]
    have e1 := i_cats_cv st
    simp only [cvS] at e1
    rw [e1, hb]
    have e2 : (if (0 : Int32) ≤ Int32.ofInt x then Int32.ofInt x else 0 - Int32.ofInt x) = Int32.ofInt (if 0 ≤ x then x else 0 - x) := by
      have e0 : (0 : Int32) = Int32.ofInt 0 := rfl
      by_cases q : 0 ≤ x
      · rw [if_pos q, e0, if_pos ((i32_le rg_0 hx).mpr q)]
      · rw [if_neg q, e0, if_neg (fun z => q ((i32_le rg_0 hx).mp z)), Int32.ofInt_sub]
    rw [e2]
    exact hk none Ls (vI _ :: st) m hL (okS_cons (v := vI _) (by show rg _; split <;> assumption) (okS_tl hS)) hM h
  · rename_i hc
    rw [hc]
    simp only at h ⊢
    have e0 := i_pop_cv e.2.2.2.2.1 st []
    split at h
    · rename_i As st1 hp
      obtain ⟨hA, hS1⟩ := i_pop_ok _ _ _ _ _ hS okS_nil hp
      rw [hp] at e0
      replace h := i_cond_inv h; obtain ⟨hb, h⟩ := h
      have e1 : g_pop e.2.2.2.2.1 (cvS st) [] = some (cvS As, cvS st1) := e0
      rw [e1]
      simp only
      rw [i_cats_cv, hb]
      exact i_call_sim hcall hk hL hA hS1 hM h
    · cases h
  · rename_i hc
    rw [hc]
    simp only at h ⊢
    have e0 := i_pop_cv e.2.2.2.2.1 st []
    split at h
    · rename_i As st1 hp
      obtain ⟨hA, hS1⟩ := i_pop_ok _ _ _ _ _ hS okS_nil hp
      rw [hp] at e0
      replace h := i_cond_inv h; obtain ⟨hb, h⟩ := h
      have e1 : g_pop e.2.2.2.2.1 (cvS st) [] = some (cvS As, cvS st1) := e0
      rw [e1]
      simp only
      rw [i_cats_cv, hb]
      exact i_call_sim hcall hk hL hA hS1 hM h
    · cases h
  · rename_i n1 n2 n3 n4 n5 n6 n7
    have e0 := i_pop_cv (e.2.2.2.2.1 + 1) st []
    split at h
    · rename_i As st1 hp
      obtain ⟨hA, hS1⟩ := i_pop_ok _ _ _ _ _ hS okS_nil hp
      rw [hp] at e0
      replace h := i_cond_inv h; obtain ⟨hb, h⟩ := h
      replace h := i_cond_inv h; obtain ⟨hb2, h⟩ := h
      have e1 : g_pop (e.2.2.2.2.1 + 1) (cvS st) [] = some (cvS As, cvS st1) := e0
      split
      · rename_i q; exact absurd q n1
      · rename_i q; exact absurd q n2
      · rename_i q; exact absurd q n3
      · rename_i q; exact absurd q n4
      · rename_i q; exact absurd q n5
      · rename_i q; exact absurd q n6
      · rename_i q; exact absurd q n7
      · rw [e1]
        simp only
        rw [i_recv_cv, hb, i_cats_cv, hb2]
        exact i_call_sim hcall hk hL hA hS1 hM h
    · cases h
theorem i_op_sim (hcall : iHC L fi fg) (hk : iHK L ki kg o) (hL : okL Ls) (hS : okS st) (hM : okM m) (hE : i_okE (pc, ins, len, a, b, c0) = true) (h : i_op wr L fi (pc, ins, len, a, b, c0) Ls st m ki = some o) : Sim L (g_op (g_C 0) fg (pc, ins, len, a, b, c0) (cvL Ls) (cvS st) (cM L m) kg) o := by
  cases ins with
  | iconst z => exact i_s_iconst (wr := wr) (pc := pc) (len := len) (a := a) (b := b) (c0 := c0) hk hL hS hM hE h
  | bipush z => exact i_s_bipush (wr := wr) (pc := pc) (len := len) (a := a) (b := b) (c0 := c0) hk hL hS hM hE h
  | sipush z => exact i_s_sipush (wr := wr) (pc := pc) (len := len) (a := a) (b := b) (c0 := c0) hk hL hS hM hE h
  | ldc_w z => exact i_s_ldc_w (wr := wr) (pc := pc) (len := len) (a := a) (b := b) (c0 := c0) hk hL hS hM hE h
  | lconst z => exact i_s_lconst (wr := wr) (pc := pc) (len := len) (a := a) (b := b) (c0 := c0) hk hL hS hM hE h
  | ldc2_w z => exact i_s_ldc2_w (wr := wr) (pc := pc) (len := len) (a := a) (b := b) (c0 := c0) hk hL hS hM hE h
  | ldc z => exact i_s_ldc (wr := wr) (pc := pc) (len := len) (a := a) (b := b) (c0 := c0) hk hL hS hM hE h
  | iload_n i => exact i_s_iload_n (wr := wr) (pc := pc) (len := len) (a := a) (b := b) (c0 := c0) hk hL hS hM h
  | iload i => exact i_s_iload (wr := wr) (pc := pc) (len := len) (a := a) (b := b) (c0 := c0) hk hL hS hM h
  | lload_n i => exact i_s_lload_n (wr := wr) (pc := pc) (len := len) (a := a) (b := b) (c0 := c0) hk hL hS hM h
  | lload i => exact i_s_lload (wr := wr) (pc := pc) (len := len) (a := a) (b := b) (c0 := c0) hk hL hS hM h
  | aload_n i => exact i_s_aload_n (wr := wr) (pc := pc) (len := len) (a := a) (b := b) (c0 := c0) hk hL hS hM h
  | aload i => exact i_s_aload (wr := wr) (pc := pc) (len := len) (a := a) (b := b) (c0 := c0) hk hL hS hM h
  | istore_n i => exact i_s_istore_n (wr := wr) (pc := pc) (len := len) (a := a) (b := b) (c0 := c0) hk hL hS hM h
  | istore i => exact i_s_istore (wr := wr) (pc := pc) (len := len) (a := a) (b := b) (c0 := c0) hk hL hS hM h
  | astore_n i => exact i_s_astore_n (wr := wr) (pc := pc) (len := len) (a := a) (b := b) (c0 := c0) hk hL hS hM h
  | astore i => exact i_s_astore (wr := wr) (pc := pc) (len := len) (a := a) (b := b) (c0 := c0) hk hL hS hM h
  | lstore_n i => exact i_s_lstore_n (wr := wr) (pc := pc) (len := len) (a := a) (b := b) (c0 := c0) hk hL hS hM h
  | lstore i => exact i_s_lstore (wr := wr) (pc := pc) (len := len) (a := a) (b := b) (c0 := c0) hk hL hS hM h
  | iinc i z => exact i_s_iinc (wr := wr) (pc := pc) (len := len) (a := a) (b := b) (c0 := c0) hk hL hS hM h
  | iadd => exact i_s_iadd (wr := wr) (pc := pc) (len := len) (a := a) (b := b) (c0 := c0) hk hL hS hM h
  | isub => exact i_s_isub (wr := wr) (pc := pc) (len := len) (a := a) (b := b) (c0 := c0) hk hL hS hM h
  | imul => exact i_s_imul (wr := wr) (pc := pc) (len := len) (a := a) (b := b) (c0 := c0) hk hL hS hM h
  | ladd => exact i_s_ladd (wr := wr) (pc := pc) (len := len) (a := a) (b := b) (c0 := c0) hk hL hS hM h
  | lsub => exact i_s_lsub (wr := wr) (pc := pc) (len := len) (a := a) (b := b) (c0 := c0) hk hL hS hM h
  | lmul => exact i_s_lmul (wr := wr) (pc := pc) (len := len) (a := a) (b := b) (c0 := c0) hk hL hS hM h
  | idiv => exact i_s_idiv (wr := wr) (pc := pc) (len := len) (a := a) (b := b) (c0 := c0) hk hL hS hM h
  | irem => exact i_s_irem (wr := wr) (pc := pc) (len := len) (a := a) (b := b) (c0 := c0) hk hL hS hM h
  | ldiv => exact i_s_ldiv (wr := wr) (pc := pc) (len := len) (a := a) (b := b) (c0 := c0) hk hL hS hM h
  | lrem => exact i_s_lrem (wr := wr) (pc := pc) (len := len) (a := a) (b := b) (c0 := c0) hk hL hS hM h
  | ineg => exact i_s_ineg (wr := wr) (pc := pc) (len := len) (a := a) (b := b) (c0 := c0) hk hL hS hM h
  | iand => exact i_s_iand (wr := wr) (pc := pc) (len := len) (a := a) (b := b) (c0 := c0) hk hL hS hM h
  | ior => exact i_s_ior (wr := wr) (pc := pc) (len := len) (a := a) (b := b) (c0 := c0) hk hL hS hM h
  | ixor => exact i_s_ixor (wr := wr) (pc := pc) (len := len) (a := a) (b := b) (c0 := c0) hk hL hS hM h
  | ishl => exact i_s_ishl (wr := wr) (pc := pc) (len := len) (a := a) (b := b) (c0 := c0) hk hL hS hM h
  | ishr => exact i_s_ishr (wr := wr) (pc := pc) (len := len) (a := a) (b := b) (c0 := c0) hk hL hS hM h
  | iushr => exact i_s_iushr (wr := wr) (pc := pc) (len := len) (a := a) (b := b) (c0 := c0) hk hL hS hM h
  | land => exact i_s_land (wr := wr) (pc := pc) (len := len) (a := a) (b := b) (c0 := c0) hk hL hS hM h
  | lor => exact i_s_lor (wr := wr) (pc := pc) (len := len) (a := a) (b := b) (c0 := c0) hk hL hS hM h
  | lshl => exact i_s_lshl (wr := wr) (pc := pc) (len := len) (a := a) (b := b) (c0 := c0) hk hL hS hM h
  | lshr => exact i_s_lshr (wr := wr) (pc := pc) (len := len) (a := a) (b := b) (c0 := c0) hk hL hS hM h
  | lushr => exact i_s_lushr (wr := wr) (pc := pc) (len := len) (a := a) (b := b) (c0 := c0) hk hL hS hM h
  | lcmp => exact i_s_lcmp (wr := wr) (pc := pc) (len := len) (a := a) (b := b) (c0 := c0) hk hL hS hM h
  | i2l => exact i_s_i2l (wr := wr) (pc := pc) (len := len) (a := a) (b := b) (c0 := c0) hk hL hS hM h
  | l2i => exact i_s_l2i (wr := wr) (pc := pc) (len := len) (a := a) (b := b) (c0 := c0) hk hL hS hM h
  | i2c => exact i_s_i2c (wr := wr) (pc := pc) (len := len) (a := a) (b := b) (c0 := c0) hk hL hS hM h
  | i2b => exact i_s_i2b (wr := wr) (pc := pc) (len := len) (a := a) (b := b) (c0 := c0) hk hL hS hM h
  | dup => exact i_s_dup (wr := wr) (pc := pc) (len := len) (a := a) (b := b) (c0 := c0) hk hL hS hM h
  | dup2 => exact i_s_dup2 (wr := wr) (pc := pc) (len := len) (a := a) (b := b) (c0 := c0) hk hL hS hM h
  | pop => exact i_s_pop (wr := wr) (pc := pc) (len := len) (a := a) (b := b) (c0 := c0) hk hL hS hM h
  | ifCond c z => exact i_s_ifCond (wr := wr) (pc := pc) (len := len) (a := a) (b := b) (c0 := c0) hk hL hS hM h
  | if_icmp c z => exact i_s_if_icmp (wr := wr) (pc := pc) (len := len) (a := a) (b := b) (c0 := c0) hk hL hS hM h
  | goto z => exact i_s_goto (wr := wr) (pc := pc) (len := len) (a := a) (b := b) (c0 := c0) hk hL hS hM h
  | tableswitch d lo hi offs => exact i_s_tableswitch (wr := wr) (pc := pc) (len := len) (a := a) (b := b) (c0 := c0) hk hL hS hM h
  | arraylength => exact i_s_arraylength (wr := wr) (pc := pc) (len := len) (a := a) (b := b) (c0 := c0) hk hL hS hM h
  | iaload => exact i_s_iaload (wr := wr) (pc := pc) (len := len) (a := a) (b := b) (c0 := c0) hk hL hS hM h
  | laload => exact i_s_laload (wr := wr) (pc := pc) (len := len) (a := a) (b := b) (c0 := c0) hk hL hS hM h
  | caload => exact i_s_caload (wr := wr) (pc := pc) (len := len) (a := a) (b := b) (c0 := c0) hk hL hS hM h
  | baload => exact i_s_baload (wr := wr) (pc := pc) (len := len) (a := a) (b := b) (c0 := c0) hk hL hS hM h
  | iastore => exact i_s_iastore (wr := wr) (pc := pc) (len := len) (a := a) (b := b) (c0 := c0) hk hL hS hM h
  | lastore => exact i_s_lastore (wr := wr) (pc := pc) (len := len) (a := a) (b := b) (c0 := c0) hk hL hS hM h
  | castore => exact i_s_castore (wr := wr) (pc := pc) (len := len) (a := a) (b := b) (c0 := c0) hk hL hS hM h
  | bastore => exact i_s_bastore (wr := wr) (pc := pc) (len := len) (a := a) (b := b) (c0 := c0) hk hL hS hM h
  | getfield z => exact i_s_getfield (wr := wr) (pc := pc) (len := len) (a := a) (b := b) (c0 := c0) hk hL hS hM h
  | putfield z => exact i_s_putfield (wr := wr) (pc := pc) (len := len) (a := a) (b := b) (c0 := c0) hk hL hS hM h
  | getstatic z => exact i_s_getstatic (wr := wr) (pc := pc) (len := len) (a := a) (b := b) (c0 := c0) hk hL hS hM hE h
  | invokevirtual z => exact i_inv_sim hcall hk hL hS hM h
  | invokespecial z => exact i_inv_sim hcall hk hL hS hM h
  | invokestatic z => exact i_inv_sim hcall hk hL hS hM h
  | ireturn =>
    unfold i_op at h
    simp only at h
    split at h
    · rename_i x
      have hx : rg x := okS_hd hS
      have fin : some (some (vI x), m) = some o → Sim L (some (some (.int (Int32.ofInt x)), cM L m)) o := fun h => by
        cases h
        exact ⟨rfl, fun v hv => by cases hv; exact hx, hM⟩
      unfold g_op
      simp only [cvS, List.map_cons, List.map_nil, cvv]
      split at h
      · exact fin h
      · replace h := ib1_inv h; obtain ⟨h1, h⟩ := h
        have h2 : Int32.ofInt x = 0 ∨ Int32.ofInt x = 1 := h1.elim (fun q => Or.inl (by rw [q]; rfl)) (fun q => Or.inr (by rw [q]; rfl))
        simp only
        rw [if_pos h2]
        exact fin h
      · replace h := ich_inv h; obtain ⟨h1, h2, h⟩ := h
        split
        · exact fin h
        · rename_i q; exact absurd rfl q
        · rw [if_pos (i32_nar h1 h2)]
          exact fin h
    · cases h
  | lreturn =>
    unfold i_op at h
    simp only at h
    split at h
    · cases h
      exact ⟨rfl, fun v hv => by cases hv; exact okS_hd hS, hM⟩
    · cases h
  | return_ =>
    unfold i_op at h
    simp only at h
    split at h
    · cases h
      exact ⟨rfl, (fun v hv => nomatch hv), hM⟩
    · cases h
  | _ => cases h
theorem i_run_nil {jt : List (Nat × List gCE)} {n : Nat} : i_run wr L fi jt n [] Ls st m = none := by cases n <;> rfl
theorem i_run_sim (hcall : iHC L fi fg) {jt : List (Nat × List gCE)} (hjt : (jt.all fun q => q.2.all i_okE) = true) :
    ∀ (n : Nat) (cur : List gCE) (Ls : iLs) (st : List iV) (m : iM), cur.all i_okE = true → okL Ls → okS st → okM m → i_run wr L fi jt n cur Ls st m = some o → Sim L (g_run (g_C 0) fg jt n cur (cvL Ls) (cvS st) (cM L m)) o := by
  intro n
  induction n with
  | zero => intro cur Ls st m _ _ _ _ h; cases h
  | succ n ih =>
    intro cur Ls st m hok hL hS hM h
    cases cur with
    | nil => cases h
    | cons e nx =>
      simp only [List.all_cons, Bool.and_eq_true] at hok
      obtain ⟨pc, ins, len, a, b, c0⟩ := e
      rw [g_run_succ]
      refine i_op_sim (wr := wr) (fi := fi) (ki := fun j Ls st m => match j with
        | none => i_run wr L fi jt n nx Ls st m
        | some t => i_run wr L fi jt n (g_find jt t) Ls st m) hcall (fun j Ls1 st1 m1 hL1 hS1 hM1 h1 => ?_) hL hS hM hok.1 h
      cases j with
      | none => exact ih nx Ls1 st1 m1 hok.2 hL1 hS1 hM1 h1
      | some t =>
        have h1 : i_run wr L fi jt n (g_find jt t) Ls1 st1 m1 = some o := h1
        refine ih (g_find jt t) Ls1 st1 m1 ?_ hL1 hS1 hM1 h1
        rcases g_find_spec (jt := jt) (t := t) with h0 | ⟨q, hq, _, hqe⟩
        · rw [h0]; rfl
        · rw [hqe]; exact List.all_eq_true.mp hjt q hq
def i_okMD (md : gMD) : Bool := md.2.2.2.2.1.all i_okE && md.2.2.2.2.2.all fun q => q.2.all i_okE
theorem i_lf {i k : Nat} {q md : gMD} (hk : i_okMD q = true) (h : (bif Nat.beq i k then some q else none) = some md) : i_okMD md = true := by
  cases hb : Nat.beq i k with
  | false => rw [hb] at h; cases h
  | true =>
    rw [hb] at h
    rw [← Option.some.inj h]
    exact hk
theorem ic_0 : i_okMD gm_0 = true := by decide +kernel
theorem ic_1 : i_okMD gm_1 = true := by decide +kernel
theorem ic_2 : i_okMD gm_2 = true := by decide +kernel
theorem ic_3 : i_okMD gm_3 = true := by decide +kernel
theorem ic_4 : i_okMD gm_4 = true := by decide +kernel
theorem ic_5 : i_okMD gm_5 = true := by decide +kernel
theorem ic_6 : i_okMD gm_6 = true := by decide +kernel
theorem ic_7 : i_okMD gm_7 = true := by decide +kernel
theorem ic_8 : i_okMD gm_8 = true := by decide +kernel
theorem ic_9 : i_okMD gm_9 = true := by decide +kernel
theorem ic_10 : i_okMD gm_10 = true := by decide +kernel
theorem ic_11 : i_okMD gm_11 = true := by decide +kernel
theorem ic_12 : i_okMD gm_12 = true := by decide +kernel
theorem ic_13 : i_okMD gm_13 = true := by decide +kernel
theorem ic_14 : i_okMD gm_14 = true := by decide +kernel
theorem ic_15 : i_okMD gm_15 = true := by decide +kernel
theorem ic_16 : i_okMD gm_16 = true := by decide +kernel
theorem ic_17 : i_okMD gm_17 = true := by decide +kernel
theorem ic_18 : i_okMD gm_18 = true := by decide +kernel
theorem ic_19 : i_okMD gm_19 = true := by decide +kernel
theorem ic_20 : i_okMD gm_20 = true := by decide +kernel
theorem ic_21 : i_okMD gm_21 = true := by decide +kernel
theorem ic_22 : i_okMD gm_22 = true := by decide +kernel
theorem ic_23 : i_okMD gm_23 = true := by decide +kernel
theorem ic_24 : i_okMD gm_24 = true := by decide +kernel
theorem ic_25 : i_okMD gm_25 = true := by decide +kernel
theorem ic_26 : i_okMD gm_26 = true := by decide +kernel
theorem ic_27 : i_okMD gm_27 = true := by decide +kernel
theorem ic_28 : i_okMD gm_28 = true := by decide +kernel
theorem ic_29 : i_okMD gm_29 = true := by decide +kernel
theorem ic_30 : i_okMD gm_30 = true := by decide +kernel
theorem ic_31 : i_okMD gm_31 = true := by decide +kernel
theorem ic_32 : i_okMD gm_32 = true := by decide +kernel
theorem ic_33 : i_okMD gm_33 = true := by decide +kernel
theorem ic_34 : i_okMD gm_34 = true := by decide +kernel
theorem ic_35 : i_okMD gm_35 = true := by decide +kernel
theorem ic_36 : i_okMD gm_36 = true := by decide +kernel
theorem ic_37 : i_okMD gm_37 = true := by decide +kernel
theorem ic_38 : i_okMD gm_38 = true := by decide +kernel
theorem ic_39 : i_okMD gm_39 = true := by decide +kernel
theorem ic_40 : i_okMD gm_40 = true := by decide +kernel
theorem ic_41 : i_okMD gm_41 = true := by decide +kernel
theorem ic_42 : i_okMD gm_42 = true := by decide +kernel
theorem ic_43 : i_okMD gm_43 = true := by decide +kernel
theorem ic_44 : i_okMD gm_44 = true := by decide +kernel
theorem ic_45 : i_okMD gm_45 = true := by decide +kernel
theorem ic_46 : i_okMD gm_46 = true := by decide +kernel
theorem ic_47 : i_okMD gm_47 = true := by decide +kernel
theorem ic_48 : i_okMD gm_48 = true := by decide +kernel
theorem ic_49 : i_okMD gm_49 = true := by decide +kernel
theorem ic_50 : i_okMD gm_50 = true := by decide +kernel
theorem ic_51 : i_okMD gm_51 = true := by decide +kernel
theorem ic_52 : i_okMD gm_52 = true := by decide +kernel
theorem ic_53 : i_okMD gm_53 = true := by decide +kernel
theorem ic_54 : i_okMD gm_54 = true := by decide +kernel
theorem ic_55 : i_okMD gm_55 = true := by decide +kernel
theorem ic_56 : i_okMD gm_56 = true := by decide +kernel
theorem ic_57 : i_okMD gm_57 = true := by decide +kernel
theorem ic_58 : i_okMD gm_58 = true := by decide +kernel
theorem ic_59 : i_okMD gm_59 = true := by decide +kernel
theorem ic_60 : i_okMD gm_60 = true := by decide +kernel
theorem ic_61 : i_okMD gm_61 = true := by decide +kernel
theorem ic_62 : i_okMD gm_62 = true := by decide +kernel
theorem ic_63 : i_okMD gm_63 = true := by decide +kernel
theorem ic_64 : i_okMD gm_64 = true := by decide +kernel
theorem ic_65 : i_okMD gm_65 = true := by decide +kernel
theorem ic_66 : i_okMD gm_66 = true := by decide +kernel
theorem ic_67 : i_okMD gm_67 = true := by decide +kernel
theorem ic_68 : i_okMD gm_68 = true := by decide +kernel
theorem ic_69 : i_okMD gm_69 = true := by decide +kernel
theorem ic_70 : i_okMD gm_70 = true := by decide +kernel
theorem ic_71 : i_okMD gm_71 = true := by decide +kernel
theorem ic_72 : i_okMD gm_72 = true := by decide +kernel
theorem ic_73 : i_okMD gm_73 = true := by decide +kernel
theorem ic_74 : i_okMD gm_74 = true := by decide +kernel
theorem ic_75 : i_okMD gm_75 = true := by decide +kernel
theorem ic_76 : i_okMD gm_76 = true := by decide +kernel
theorem ic_77 : i_okMD gm_77 = true := by decide +kernel
theorem ic_78 : i_okMD gm_78 = true := by decide +kernel
theorem ic_79 : i_okMD gm_79 = true := by decide +kernel
theorem ic_80 : i_okMD gm_80 = true := by decide +kernel
theorem ic_81 : i_okMD gm_81 = true := by decide +kernel
theorem ic_82 : i_okMD gm_82 = true := by decide +kernel
theorem ic_83 : i_okMD gm_83 = true := by decide +kernel
theorem ic_84 : i_okMD gm_84 = true := by decide +kernel
theorem ic_85 : i_okMD gm_85 = true := by decide +kernel
theorem ic_86 : i_okMD gm_86 = true := by decide +kernel
theorem ic_87 : i_okMD gm_87 = true := by decide +kernel
theorem ic_88 : i_okMD gm_88 = true := by decide +kernel
theorem ic_89 : i_okMD gm_89 = true := by decide +kernel
theorem ic_90 : i_okMD gm_90 = true := by decide +kernel
theorem ic_91 : i_okMD gm_91 = true := by decide +kernel
theorem ic_92 : i_okMD gm_92 = true := by decide +kernel
theorem ic_93 : i_okMD gm_93 = true := by decide +kernel
theorem ic_94 : i_okMD gm_94 = true := by decide +kernel
theorem ic_95 : i_okMD gm_95 = true := by decide +kernel
theorem ic_96 : i_okMD gm_96 = true := by decide +kernel
theorem ic_97 : i_okMD gm_97 = true := by decide +kernel
theorem ic_98 : i_okMD gm_98 = true := by decide +kernel
theorem ic_99 : i_okMD gm_99 = true := by decide +kernel
theorem ic_100 : i_okMD gm_100 = true := by decide +kernel
theorem ic_101 : i_okMD gm_101 = true := by decide +kernel
theorem ic_102 : i_okMD gm_102 = true := by decide +kernel
theorem ic_103 : i_okMD gm_103 = true := by decide +kernel
theorem ic_104 : i_okMD gm_104 = true := by decide +kernel
theorem ic_105 : i_okMD gm_105 = true := by decide +kernel
theorem ic_106 : i_okMD gm_106 = true := by decide +kernel
theorem ic_107 : i_okMD gm_107 = true := by decide +kernel
theorem ic_108 : i_okMD gm_108 = true := by decide +kernel
theorem ic_109 : i_okMD gm_109 = true := by decide +kernel
theorem ic_110 : i_okMD gm_110 = true := by decide +kernel
theorem ic_111 : i_okMD gm_111 = true := by decide +kernel
theorem ic_112 : i_okMD gm_112 = true := by decide +kernel
theorem ic_113 : i_okMD gm_113 = true := by decide +kernel
theorem ic_114 : i_okMD gm_114 = true := by decide +kernel
theorem ic_115 : i_okMD gm_115 = true := by decide +kernel
theorem ic_116 : i_okMD gm_116 = true := by decide +kernel
theorem ic_117 : i_okMD gm_117 = true := by decide +kernel
theorem ic_118 : i_okMD gm_118 = true := by decide +kernel
theorem ic_119 : i_okMD gm_119 = true := by decide +kernel
theorem ic_120 : i_okMD gm_120 = true := by decide +kernel
theorem ic_121 : i_okMD gm_121 = true := by decide +kernel
theorem ic_122 : i_okMD gm_122 = true := by decide +kernel
theorem ic_123 : i_okMD gm_123 = true := by decide +kernel
theorem ic_124 : i_okMD gm_124 = true := by decide +kernel
theorem ic_125 : i_okMD gm_125 = true := by decide +kernel
theorem ic_126 : i_okMD gm_126 = true := by decide +kernel
theorem ic_127 : i_okMD gm_127 = true := by decide +kernel
theorem ic_128 : i_okMD gm_128 = true := by decide +kernel
theorem ic_129 : i_okMD gm_129 = true := by decide +kernel
theorem ic_130 : i_okMD gm_130 = true := by decide +kernel
theorem ic_131 : i_okMD gm_131 = true := by decide +kernel
theorem ic_132 : i_okMD gm_132 = true := by decide +kernel
theorem ic_133 : i_okMD gm_133 = true := by decide +kernel
theorem ic_134 : i_okMD gm_134 = true := by decide +kernel
theorem ic_135 : i_okMD gm_135 = true := by decide +kernel
theorem ic_136 : i_okMD gm_136 = true := by decide +kernel
theorem ic_137 : i_okMD gm_137 = true := by decide +kernel
theorem ic_138 : i_okMD gm_138 = true := by decide +kernel
theorem ic_139 : i_okMD gm_139 = true := by decide +kernel
theorem ic_140 : i_okMD gm_140 = true := by decide +kernel
theorem ic_141 : i_okMD gm_141 = true := by decide +kernel
theorem ic_142 : i_okMD gm_142 = true := by decide +kernel
theorem ic_143 : i_okMD gm_143 = true := by decide +kernel
theorem ic_144 : i_okMD gm_144 = true := by decide +kernel
theorem ic_145 : i_okMD gm_145 = true := by decide +kernel
theorem ic_146 : i_okMD gm_146 = true := by decide +kernel
theorem ic_147 : i_okMD gm_147 = true := by decide +kernel
theorem ic_148 : i_okMD gm_148 = true := by decide +kernel
theorem ic_149 : i_okMD gm_149 = true := by decide +kernel
theorem ic_150 : i_okMD gm_150 = true := by decide +kernel
theorem ic_151 : i_okMD gm_151 = true := by decide +kernel
theorem ic_152 : i_okMD gm_152 = true := by decide +kernel
theorem ic_153 : i_okMD gm_153 = true := by decide +kernel
theorem ic_154 : i_okMD gm_154 = true := by decide +kernel
theorem ic_155 : i_okMD gm_155 = true := by decide +kernel
theorem ic_156 : i_okMD gm_156 = true := by decide +kernel
theorem ic_157 : i_okMD gm_157 = true := by decide +kernel
theorem ic_158 : i_okMD gm_158 = true := by decide +kernel
theorem ic_159 : i_okMD gm_159 = true := by decide +kernel
theorem ic_160 : i_okMD gm_160 = true := by decide +kernel
theorem ic_161 : i_okMD gm_161 = true := by decide +kernel
theorem ic_162 : i_okMD gm_162 = true := by decide +kernel
theorem ic_163 : i_okMD gm_163 = true := by decide +kernel
theorem ic_164 : i_okMD gm_164 = true := by decide +kernel
theorem ic_165 : i_okMD gm_165 = true := by decide +kernel
theorem ic_166 : i_okMD gm_166 = true := by decide +kernel
theorem ic_167 : i_okMD gm_167 = true := by decide +kernel
theorem ic_168 : i_okMD gm_168 = true := by decide +kernel
theorem ic_169 : i_okMD gm_169 = true := by decide +kernel
theorem ic_170 : i_okMD gm_170 = true := by decide +kernel
theorem ic_171 : i_okMD gm_171 = true := by decide +kernel
theorem ic_172 : i_okMD gm_172 = true := by decide +kernel
theorem ic_173 : i_okMD gm_173 = true := by decide +kernel
theorem ic_174 : i_okMD gm_174 = true := by decide +kernel
theorem ic_175 : i_okMD gm_175 = true := by decide +kernel
theorem ic_176 : i_okMD gm_176 = true := by decide +kernel
theorem ic_177 : i_okMD gm_177 = true := by decide +kernel
theorem ic_178 : i_okMD gm_178 = true := by decide +kernel
theorem ic_179 : i_okMD gm_179 = true := by decide +kernel
theorem ic_180 : i_okMD gm_180 = true := by decide +kernel
theorem ic_181 : i_okMD gm_181 = true := by decide +kernel
theorem ic_182 : i_okMD gm_182 = true := by decide +kernel
theorem ic_183 : i_okMD gm_183 = true := by decide +kernel
theorem ic_184 : i_okMD gm_184 = true := by decide +kernel
theorem ic_185 : i_okMD gm_185 = true := by decide +kernel
theorem ic_186 : i_okMD gm_186 = true := by decide +kernel
theorem ic_187 : i_okMD gm_187 = true := by decide +kernel
theorem ic_188 : i_okMD gm_188 = true := by decide +kernel
theorem ic_189 : i_okMD gm_189 = true := by decide +kernel
theorem ic_190 : i_okMD gm_190 = true := by decide +kernel
theorem ic_191 : i_okMD gm_191 = true := by decide +kernel
theorem ic_192 : i_okMD gm_192 = true := by decide +kernel
theorem ic_193 : i_okMD gm_193 = true := by decide +kernel
theorem ic_194 : i_okMD gm_194 = true := by decide +kernel
theorem ic_195 : i_okMD gm_195 = true := by decide +kernel
theorem ic_196 : i_okMD gm_196 = true := by decide +kernel
theorem ic_197 : i_okMD gm_197 = true := by decide +kernel
theorem ic_198 : i_okMD gm_198 = true := by decide +kernel
theorem ic_199 : i_okMD gm_199 = true := by decide +kernel
theorem ic_200 : i_okMD gm_200 = true := by decide +kernel
theorem ic_201 : i_okMD gm_201 = true := by decide +kernel
theorem ic_202 : i_okMD gm_202 = true := by decide +kernel
theorem ic_203 : i_okMD gm_203 = true := by decide +kernel
theorem ic_204 : i_okMD gm_204 = true := by decide +kernel
theorem ic_205 : i_okMD gm_205 = true := by decide +kernel
theorem ic_206 : i_okMD gm_206 = true := by decide +kernel
theorem ic_207 : i_okMD gm_207 = true := by decide +kernel
theorem ic_208 : i_okMD gm_208 = true := by decide +kernel
theorem ic_209 : i_okMD gm_209 = true := by decide +kernel
theorem ic_210 : i_okMD gm_210 = true := by decide +kernel
theorem ic_211 : i_okMD gm_211 = true := by decide +kernel
theorem ic_212 : i_okMD gm_212 = true := by decide +kernel
theorem ic_213 : i_okMD gm_213 = true := by decide +kernel
theorem ic_214 : i_okMD gm_214 = true := by decide +kernel
theorem ic_215 : i_okMD gm_215 = true := by decide +kernel
theorem ic_216 : i_okMD gm_216 = true := by decide +kernel
theorem ic_217 : i_okMD gm_217 = true := by decide +kernel
theorem ic_218 : i_okMD gm_218 = true := by decide +kernel
theorem ic_219 : i_okMD gm_219 = true := by decide +kernel
theorem ic_220 : i_okMD gm_220 = true := by decide +kernel
theorem ic_221 : i_okMD gm_221 = true := by decide +kernel
theorem ic_222 : i_okMD gm_222 = true := by decide +kernel
theorem ic_223 : i_okMD gm_223 = true := by decide +kernel
theorem ic_224 : i_okMD gm_224 = true := by decide +kernel
theorem ic_225 : i_okMD gm_225 = true := by decide +kernel
theorem ic_226 : i_okMD gm_226 = true := by decide +kernel
theorem ic_227 : i_okMD gm_227 = true := by decide +kernel
theorem ic_228 : i_okMD gm_228 = true := by decide +kernel
theorem ic_229 : i_okMD gm_229 = true := by decide +kernel
theorem ic_230 : i_okMD gm_230 = true := by decide +kernel
theorem ic_231 : i_okMD gm_231 = true := by decide +kernel
theorem ic_232 : i_okMD gm_232 = true := by decide +kernel
theorem ic_233 : i_okMD gm_233 = true := by decide +kernel
theorem ic_234 : i_okMD gm_234 = true := by decide +kernel
theorem ic_235 : i_okMD gm_235 = true := by decide +kernel
theorem ic_236 : i_okMD gm_236 = true := by decide +kernel
theorem ic_237 : i_okMD gm_237 = true := by decide +kernel
theorem ic_238 : i_okMD gm_238 = true := by decide +kernel
theorem ic_239 : i_okMD gm_239 = true := by decide +kernel
theorem ic_240 : i_okMD gm_240 = true := by decide +kernel
theorem ic_241 : i_okMD gm_241 = true := by decide +kernel
theorem ic_242 : i_okMD gm_242 = true := by decide +kernel
theorem ic_243 : i_okMD gm_243 = true := by decide +kernel
theorem ic_244 : i_okMD gm_244 = true := by decide +kernel
theorem ic_245 : i_okMD gm_245 = true := by decide +kernel
theorem ic_246 : i_okMD gm_246 = true := by decide +kernel
theorem ic_247 : i_okMD gm_247 = true := by decide +kernel
theorem ic_248 : i_okMD gm_248 = true := by decide +kernel
theorem ic_249 : i_okMD gm_249 = true := by decide +kernel
theorem ic_250 : i_okMD gm_250 = true := by decide +kernel
theorem ic_251 : i_okMD gm_251 = true := by decide +kernel
theorem ic_252 : i_okMD gm_252 = true := by decide +kernel
theorem ic_253 : i_okMD gm_253 = true := by decide +kernel
theorem ic_254 : i_okMD gm_254 = true := by decide +kernel
theorem ic_255 : i_okMD gm_255 = true := by decide +kernel
theorem ic_256 : i_okMD gm_256 = true := by decide +kernel
theorem ic_257 : i_okMD gm_257 = true := by decide +kernel
theorem ic_258 : i_okMD gm_258 = true := by decide +kernel
theorem ic_259 : i_okMD gm_259 = true := by decide +kernel
theorem ic_260 : i_okMD gm_260 = true := by decide +kernel
theorem ic_261 : i_okMD gm_261 = true := by decide +kernel
theorem ic_262 : i_okMD gm_262 = true := by decide +kernel
theorem ic_263 : i_okMD gm_263 = true := by decide +kernel
theorem ic_264 : i_okMD gm_264 = true := by decide +kernel
theorem ic_265 : i_okMD gm_265 = true := by decide +kernel
theorem ic_266 : i_okMD gm_266 = true := by decide +kernel
theorem ic_267 : i_okMD gm_267 = true := by decide +kernel
theorem ic_268 : i_okMD gm_268 = true := by decide +kernel
theorem ic_269 : i_okMD gm_269 = true := by decide +kernel
theorem ic_270 : i_okMD gm_270 = true := by decide +kernel
theorem ic_271 : i_okMD gm_271 = true := by decide +kernel
theorem ic_272 : i_okMD gm_272 = true := by decide +kernel
theorem ic_273 : i_okMD gm_273 = true := by decide +kernel
theorem ic_274 : i_okMD gm_274 = true := by decide +kernel
theorem ic_275 : i_okMD gm_275 = true := by decide +kernel
theorem ic_276 : i_okMD gm_276 = true := by decide +kernel
theorem ic_277 : i_okMD gm_277 = true := by decide +kernel
theorem ic_278 : i_okMD gm_278 = true := by decide +kernel
theorem ic_279 : i_okMD gm_279 = true := by decide +kernel
theorem ic_280 : i_okMD gm_280 = true := by decide +kernel
theorem ic_281 : i_okMD gm_281 = true := by decide +kernel
theorem ic_282 : i_okMD gm_282 = true := by decide +kernel
theorem ic_283 : i_okMD gm_283 = true := by decide +kernel
theorem ic_284 : i_okMD gm_284 = true := by decide +kernel
theorem ic_285 : i_okMD gm_285 = true := by decide +kernel
theorem ic_286 : i_okMD gm_286 = true := by decide +kernel
theorem ic_287 : i_okMD gm_287 = true := by decide +kernel
theorem ic_288 : i_okMD gm_288 = true := by decide +kernel
theorem ic_289 : i_okMD gm_289 = true := by decide +kernel
theorem ic_290 : i_okMD gm_290 = true := by decide +kernel
theorem ic_291 : i_okMD gm_291 = true := by decide +kernel
theorem ic_292 : i_okMD gm_292 = true := by decide +kernel
theorem ic_296 : i_okMD gm_296 = true := by decide +kernel
theorem ic_300 : i_okMD gm_300 = true := by decide +kernel
theorem ic_301 : i_okMD gm_301 = true := by decide +kernel
theorem ic_302 : i_okMD gm_302 = true := by decide +kernel
theorem ic_303 : i_okMD gm_303 = true := by decide +kernel
theorem ic_304 : i_okMD gm_304 = true := by decide +kernel
theorem ic_305 : i_okMD gm_305 = true := by decide +kernel
theorem ic_306 : i_okMD gm_306 = true := by decide +kernel
theorem ic_308 : i_okMD gm_308 = true := by decide +kernel
theorem ic_309 : i_okMD gm_309 = true := by decide +kernel
theorem ic_310 : i_okMD gm_310 = true := by decide +kernel
theorem ic_311 : i_okMD gm_311 = true := by decide +kernel
theorem ic_321 : i_okMD gm_321 = true := by decide +kernel
theorem ic_322 : i_okMD gm_322 = true := by decide +kernel
theorem i_T_ok {i : Nat} {md : gMD} (h : g_T i = some md) : i_okMD md = true := (g_tr (g_tr (g_tr (g_tr (g_tr (g_tr (g_tr (g_tr (i_lf ic_0) (i_lf ic_1)) (g_tr (i_lf ic_2) (i_lf ic_3))) (g_tr (g_tr (i_lf ic_4) (i_lf ic_5)) (g_tr (i_lf ic_6) (g_tr (i_lf ic_7) (i_lf ic_8))))) (g_tr (g_tr (g_tr (i_lf ic_9) (i_lf ic_10)) (g_tr (i_lf ic_11) (g_tr (i_lf ic_12) (i_lf ic_13)))) (g_tr (g_tr (i_lf ic_14) (i_lf ic_15)) (g_tr (i_lf ic_16) (g_tr (i_lf ic_17) (i_lf ic_18)))))) (g_tr (g_tr (g_tr (g_tr (i_lf ic_19) (i_lf ic_20)) (g_tr (i_lf ic_21) (i_lf ic_22))) (g_tr (g_tr (i_lf ic_23) (i_lf ic_24)) (g_tr (i_lf ic_25) (g_tr (i_lf ic_26) (i_lf ic_27))))) (g_tr (g_tr (g_tr (i_lf ic_28) (i_lf ic_29)) (g_tr (i_lf ic_30) (g_tr (i_lf ic_31) (i_lf ic_32)))) (g_tr (g_tr (i_lf ic_33) (i_lf ic_34)) (g_tr (i_lf ic_35) (g_tr (i_lf ic_36) (i_lf ic_37))))))) (g_tr (g_tr (g_tr (g_tr (g_tr (i_lf ic_38) (i_lf ic_39)) (g_tr (i_lf ic_40) (i_lf ic_41))) (g_tr (g_tr (i_lf ic_42) (i_lf ic_43)) (g_tr (i_lf ic_44) (g_tr (i_lf ic_45) (i_lf ic_46))))) (g_tr (g_tr (g_tr (i_lf ic_47) (i_lf ic_48)) (g_tr (i_lf ic_49) (g_tr (i_lf ic_50) (i_lf ic_51)))) (g_tr (g_tr (i_lf ic_52) (i_lf ic_53)) (g_tr (i_lf ic_54) (g_tr (i_lf ic_55) (i_lf ic_56)))))) (g_tr (g_tr (g_tr (g_tr (i_lf ic_57) (i_lf ic_58)) (g_tr (i_lf ic_59) (i_lf ic_60))) (g_tr (g_tr (i_lf ic_61) (i_lf ic_62)) (g_tr (i_lf ic_63) (g_tr (i_lf ic_64) (i_lf ic_65))))) (g_tr (g_tr (g_tr (i_lf ic_66) (i_lf ic_67)) (g_tr (i_lf ic_68) (g_tr (i_lf ic_69) (i_lf ic_70)))) (g_tr (g_tr (i_lf ic_71) (i_lf ic_72)) (g_tr (i_lf ic_73) (g_tr (i_lf ic_74) (i_lf ic_75)))))))) (g_tr (g_tr (g_tr (g_tr (g_tr (g_tr (i_lf ic_76) (i_lf ic_77)) (g_tr (i_lf ic_78) (i_lf ic_79))) (g_tr (g_tr (i_lf ic_80) (i_lf ic_81)) (g_tr (i_lf ic_82) (g_tr (i_lf ic_83) (i_lf ic_84))))) (g_tr (g_tr (g_tr (i_lf ic_85) (i_lf ic_86)) (g_tr (i_lf ic_87) (g_tr (i_lf ic_88) (i_lf ic_89)))) (g_tr (g_tr (i_lf ic_90) (i_lf ic_91)) (g_tr (i_lf ic_92) (g_tr (i_lf ic_93) (i_lf ic_94)))))) (g_tr (g_tr (g_tr (g_tr (i_lf ic_95) (i_lf ic_96)) (g_tr (i_lf ic_97) (i_lf ic_98))) (g_tr (g_tr (i_lf ic_99) (i_lf ic_100)) (g_tr (i_lf ic_101) (g_tr (i_lf ic_102) (i_lf ic_103))))) (g_tr (g_tr (g_tr (i_lf ic_104) (i_lf ic_105)) (g_tr (i_lf ic_106) (g_tr (i_lf ic_107) (i_lf ic_108)))) (g_tr (g_tr (i_lf ic_109) (i_lf ic_110)) (g_tr (i_lf ic_111) (g_tr (i_lf ic_112) (i_lf ic_113))))))) (g_tr (g_tr (g_tr (g_tr (g_tr (i_lf ic_114) (i_lf ic_115)) (g_tr (i_lf ic_116) (i_lf ic_117))) (g_tr (g_tr (i_lf ic_118) (i_lf ic_119)) (g_tr (i_lf ic_120) (g_tr (i_lf ic_121) (i_lf ic_122))))) (g_tr (g_tr (g_tr (i_lf ic_123) (i_lf ic_124)) (g_tr (i_lf ic_125) (g_tr (i_lf ic_126) (i_lf ic_127)))) (g_tr (g_tr (i_lf ic_128) (i_lf ic_129)) (g_tr (i_lf ic_130) (g_tr (i_lf ic_131) (i_lf ic_132)))))) (g_tr (g_tr (g_tr (g_tr (i_lf ic_133) (i_lf ic_134)) (g_tr (i_lf ic_135) (g_tr (i_lf ic_136) (i_lf ic_137)))) (g_tr (g_tr (i_lf ic_138) (i_lf ic_139)) (g_tr (i_lf ic_140) (g_tr (i_lf ic_141) (i_lf ic_142))))) (g_tr (g_tr (g_tr (i_lf ic_143) (i_lf ic_144)) (g_tr (i_lf ic_145) (g_tr (i_lf ic_146) (i_lf ic_147)))) (g_tr (g_tr (i_lf ic_148) (i_lf ic_149)) (g_tr (i_lf ic_150) (g_tr (i_lf ic_151) (i_lf ic_152))))))))) (g_tr (g_tr (g_tr (g_tr (g_tr (g_tr (g_tr (i_lf ic_153) (i_lf ic_154)) (g_tr (i_lf ic_155) (i_lf ic_156))) (g_tr (g_tr (i_lf ic_157) (i_lf ic_158)) (g_tr (i_lf ic_159) (g_tr (i_lf ic_160) (i_lf ic_161))))) (g_tr (g_tr (g_tr (i_lf ic_162) (i_lf ic_163)) (g_tr (i_lf ic_164) (g_tr (i_lf ic_165) (i_lf ic_166)))) (g_tr (g_tr (i_lf ic_167) (i_lf ic_168)) (g_tr (i_lf ic_169) (g_tr (i_lf ic_170) (i_lf ic_171)))))) (g_tr (g_tr (g_tr (g_tr (i_lf ic_172) (i_lf ic_173)) (g_tr (i_lf ic_174) (i_lf ic_175))) (g_tr (g_tr (i_lf ic_176) (i_lf ic_177)) (g_tr (i_lf ic_178) (g_tr (i_lf ic_179) (i_lf ic_180))))) (g_tr (g_tr (g_tr (i_lf ic_181) (i_lf ic_182)) (g_tr (i_lf ic_183) (g_tr (i_lf ic_184) (i_lf ic_185)))) (g_tr (g_tr (i_lf ic_186) (i_lf ic_187)) (g_tr (i_lf ic_188) (g_tr (i_lf ic_189) (i_lf ic_190))))))) (g_tr (g_tr (g_tr (g_tr (g_tr (i_lf ic_191) (i_lf ic_192)) (g_tr (i_lf ic_193) (i_lf ic_194))) (g_tr (g_tr (i_lf ic_195) (i_lf ic_196)) (g_tr (i_lf ic_197) (g_tr (i_lf ic_198) (i_lf ic_199))))) (g_tr (g_tr (g_tr (i_lf ic_200) (i_lf ic_201)) (g_tr (i_lf ic_202) (g_tr (i_lf ic_203) (i_lf ic_204)))) (g_tr (g_tr (i_lf ic_205) (i_lf ic_206)) (g_tr (i_lf ic_207) (g_tr (i_lf ic_208) (i_lf ic_209)))))) (g_tr (g_tr (g_tr (g_tr (i_lf ic_210) (i_lf ic_211)) (g_tr (i_lf ic_212) (g_tr (i_lf ic_213) (i_lf ic_214)))) (g_tr (g_tr (i_lf ic_215) (i_lf ic_216)) (g_tr (i_lf ic_217) (g_tr (i_lf ic_218) (i_lf ic_219))))) (g_tr (g_tr (g_tr (i_lf ic_220) (i_lf ic_221)) (g_tr (i_lf ic_222) (g_tr (i_lf ic_223) (i_lf ic_224)))) (g_tr (g_tr (i_lf ic_225) (i_lf ic_226)) (g_tr (i_lf ic_227) (g_tr (i_lf ic_228) (i_lf ic_229)))))))) (g_tr (g_tr (g_tr (g_tr (g_tr (g_tr (i_lf ic_230) (i_lf ic_231)) (g_tr (i_lf ic_232) (i_lf ic_233))) (g_tr (g_tr (i_lf ic_234) (i_lf ic_235)) (g_tr (i_lf ic_236) (g_tr (i_lf ic_237) (i_lf ic_238))))) (g_tr (g_tr (g_tr (i_lf ic_239) (i_lf ic_240)) (g_tr (i_lf ic_241) (g_tr (i_lf ic_242) (i_lf ic_243)))) (g_tr (g_tr (i_lf ic_244) (i_lf ic_245)) (g_tr (i_lf ic_246) (g_tr (i_lf ic_247) (i_lf ic_248)))))) (g_tr (g_tr (g_tr (g_tr (i_lf ic_249) (i_lf ic_250)) (g_tr (i_lf ic_251) (i_lf ic_252))) (g_tr (g_tr (i_lf ic_253) (i_lf ic_254)) (g_tr (i_lf ic_255) (g_tr (i_lf ic_256) (i_lf ic_257))))) (g_tr (g_tr (g_tr (i_lf ic_258) (i_lf ic_259)) (g_tr (i_lf ic_260) (g_tr (i_lf ic_261) (i_lf ic_262)))) (g_tr (g_tr (i_lf ic_263) (i_lf ic_264)) (g_tr (i_lf ic_265) (g_tr (i_lf ic_266) (i_lf ic_267))))))) (g_tr (g_tr (g_tr (g_tr (g_tr (i_lf ic_268) (i_lf ic_269)) (g_tr (i_lf ic_270) (i_lf ic_271))) (g_tr (g_tr (i_lf ic_272) (i_lf ic_273)) (g_tr (i_lf ic_274) (g_tr (i_lf ic_275) (i_lf ic_276))))) (g_tr (g_tr (g_tr (i_lf ic_277) (i_lf ic_278)) (g_tr (i_lf ic_279) (g_tr (i_lf ic_280) (i_lf ic_281)))) (g_tr (g_tr (i_lf ic_282) (i_lf ic_283)) (g_tr (i_lf ic_284) (g_tr (i_lf ic_285) (i_lf ic_286)))))) (g_tr (g_tr (g_tr (g_tr (i_lf ic_287) (i_lf ic_288)) (g_tr (i_lf ic_289) (g_tr (i_lf ic_290) (i_lf ic_291)))) (g_tr (g_tr (i_lf ic_292) (i_lf ic_296)) (g_tr (i_lf ic_300) (g_tr (i_lf ic_301) (i_lf ic_302))))) (g_tr (g_tr (g_tr (i_lf ic_303) (i_lf ic_304)) (g_tr (i_lf ic_305) (g_tr (i_lf ic_306) (i_lf ic_308)))) (g_tr (g_tr (i_lf ic_309) (i_lf ic_310)) (g_tr (i_lf ic_311) (g_tr (i_lf ic_321) (i_lf ic_322)))))))))) h
theorem i_exec_sim {n : Nat} : ∀ (d : Nat), iHC L (i_exec L n d) (g_exec (g_C 0) g_T n d) := by
  intro d
  induction d with
  | zero => intro i As m o h; cases h
  | succ d ih =>
    intro i As m o h hA hM
    have h : (match g_T i with
      | none => none
      | some md => bif Nat.ble (i_args As).length md.2.2.1 then i_run (i_wr i) L (i_exec L n d) md.2.2.2.2.2 n md.2.2.2.2.1 (i_pad md.2.2.1 (i_args As)) [] m else none) = some o := h
    show Sim L (match g_T i with
      | none => none
      | some md => bif Nat.ble (g_args (cvS As)).length md.2.2.1 then g_run (g_C 0) (g_exec (g_C 0) g_T n d) md.2.2.2.2.2 n md.2.2.2.2.1 (g_pad md.2.2.1 (g_args (cvS As))) [] (cM L m) else none) o
    split at h
    · cases h
    · rename_i md hmd
      have hok := i_T_ok hmd
      unfold i_okMD at hok
      simp only [Bool.and_eq_true] at hok
      replace h := i_cond_inv h; obtain ⟨hb, h⟩ := h
      rw [i_args_cv, i_len_cv, hb, i_pad_cv]
      exact i_run_sim ih hok.2 n _ _ [] m hok.1 (i_pad_ok _ _ (i_args_ok _ hA)) okS_nil hM h
end IRUN

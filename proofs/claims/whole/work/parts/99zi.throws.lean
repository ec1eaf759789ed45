/-! What gain, next and await throw: their contracts. -/
/-- what a throw stands on, beside the world -/
def zl_Z (X : gX) (U : State) (H : Heap) : Prop := vx_Zq Bundle.tN "UNASSIGNED_STACK" Bundle.steD (g_A X) U H ∧ vx_Zq Bundle.tN "SUPPRESSED_SENTINEL" Bundle.listD (g_A X) U H ∧ ∀ w ∈ zl_bad, va_Nw w U
def zl_Pc (X : gX) (As : List Value) (m : gM) : Array Value → State → Prop := fun a U => g_Pc X As m a U ∧ zl_Z X U U.heap
def zl_XC (X : gX) (m : gM) : String → State → State → Prop := fun E st t => E = "java/util/NoSuchElementException" ∧ g_W X m t.heap ∧ va_F (g_A X) st t
def zl_no : Array Value → State → Outcome → State → Prop := fun _ _ _ _ => False
section ZTHROWS
variable {p : Program} {l : Launch} {e : Env} {R : Room} {s : State} {mid : MethodId} {args : Array Value} {below : List Frame} {meth : Method} {c : Code}
variable {X : gX} {on nL d : Nat} {ini : Bool} {bytes : ByteArray} {L : gLs} {m : gM} {H H1 : Heap} {U V : State} {L0 : Nat} {σ : gI}
theorem zl_bad_warm (hW : s.WarmedH U.vm) (h : ∀ w ∈ zl_bad, va_Nw w s) : ∀ w ∈ zl_bad, va_Nw w U := fun w hw => by
  have h1 := h w hw
  simp only [zl_bad, List.mem_cons, List.not_mem_nil, or_false] at hw
  rcases hw with rfl | rfl | rfl | rfl
  · exact va_Nw.warmC hW h1
  · exact va_Nw.warmD hW h1
  · exact va_Nw.warmD hW h1
  · exact va_Nw.warmD hW h1
theorem zl_Z_warm (hW : s.WarmedH U.vm) (h : zl_Z X s H) : zl_Z X U H := ⟨vx_Zq.moved hW.alike h.1, vx_Zq.moved hW.alike h.2.1, zl_bad_warm hW h.2.2⟩
theorem zl_Z_kept (h : zl_Z X U H) (hq : ∀ a : Nat, a < H.size → ¬ g_A X a → H1[a]? = H[a]?) : zl_Z X U H1 := ⟨h.1.kept hq, h.2.1.kept hq, h.2.2⟩
theorem zl_Pc_blind (X : gX) (As : List Value) (m : gM) : FrameBlind (zl_Pc X As m) := by
  intro a U g mk h
  refine ⟨g_Pc_blind X As m a U g mk h.1, vx_Zq.moved (Vm.Alike.refl U.vm) h.2.1, vx_Zq.moved (Vm.Alike.refl U.vm) h.2.2.1, fun w hw => ?_⟩
  have h1 := h.2.2.2 w hw
  simp only [zl_bad, List.mem_cons, List.not_mem_nil, or_false] at hw
  rcases hw with rfl | rfl | rfl | rfl <;> exact va_Nw.same (u := U) rfl rfl h1
theorem zl_Wg (hW : g_W X m H) (hq : ∀ q : Nat, q < H.size → H1[q]? = H[q]?) : g_W X m H1 := ⟨hW.1.kept fun k q hk => hq _ (vx_lt hW.1 hk), hW.2⟩
theorem zl_hat (hts : ∀ w ∈ g_tw, w.before args s = true) (hZ : ∀ w ∈ zl_bad, va_Nw w s) : ∀ w ∈ zl_at, w.before args s = true := by
  refine vx_hat (B := zl_bad) (fun w hw => hts w ?_) zl_w2 (fun w hw => ?_)
  · exact List.mem_filter.mpr ⟨zl_w1 w hw, (List.mem_filter.mp hw).2⟩
  · have h1 := hZ w hw
    simp only [zl_bad, List.mem_cons, List.not_mem_nil, or_false] at hw
    rcases hw with rfl | rfl | rfl | rfl <;> exact va_Nw.use rfl h1
/-- from the throw's first row on -/
theorem zl_thr {pc is sa cells slots : Nat} {text : String} (hctx : g_Ctx X p s args mid meth c R 11 ini bytes nL d) (hl : l.stackTraces = false) (hZ : zl_Z X s s.heap) (hlocks : meth.locks = false) (htab : ∀ x ∈ c.exceptionTable.toList, False) (hsh : m.2.2.2.1 = g_shp) (hstr : vk_R "GutterNine" is text sa s)
    (d0 : decode bytes pc = .ok (.new 204, 3)) (d3 : decode bytes (pc + 3) = .ok (.dup, 1)) (d4 : decode bytes (pc + 4) = .ok (.ldc is, 2)) (d6 : decode bytes (pc + 6) = .ok (.invokespecial 208, 3)) (d9 : decode bytes (pc + 9) = .ok (.athrow, 1))
    (hR : 5 < R.frames ∧ 100 ≤ R.locals ∧ 1 ≤ R.cells ∧ 6 ≤ R.slots) :
    g_G X p l e R s mid args below meth c (fun mc ms t => mc = 0 ∧ ms = 0 → vx_MQ below zl_no (zl_XC X m) args s 1 6 (g_A X) t) nL yl_o pc L [] m cells slots := by
  obtain ⟨hx, hb, hml, hown, hts, hKn, hKc, hfr, hlo, hin⟩ := hctx
  refine ⟨cells, slots, Nat.le_refl _, Nat.le_refl _, by rw [hsh]; rfl, by rw [hsh]; rfl, fun h1 h2 H locs ls hL hW hS => ?_⟩
  by_cases h0 : cells = 0 ∧ slots = 0
  · obtain ⟨rfl, rfl⟩ := h0
    have k := zl_throwS (p := p) (l := l) (e := e) (R := R) (s := s) (m := mid) (args := args) (below := below) (meth := meth) (c := c) (H := H) (locs := locs) (cells := 0) (slots := 0) (ls := ls) (rest := []) (Qc := zl_no) (XC := zl_XC X m) (free := g_A X) (mc := 1) (ms := 6) (A := g_A X) (own := "GutterNine") (cls := "java/util/NoSuchElementException") (Y1 := "java/lang/RuntimeException") (i1 := 13) (by1 := prog_31_method_4_code) (names := ["java/lang/Exception"]) (ic := 208) (ik := 204) (is := is) (sa := sa) (text := text) (pc := pc)
      hx hb hl hown zl_w6.1 zl_w6.2.1 zl_i0.1 zl_i0.2.1 zl_i0.2.2.1 zl_i0.2.2.2 zl_w6.2.2 (hts _ zl_w5.1) (hts _ zl_w5.2) hstr (zl_hat hts hZ.2.2) zl_w4 hZ.1 hZ.2.1 hS (hL.1.trans hml.symm) d0 d3 d4 d6 d9 (fun x hx => (htab x hx).elim)
      (by show 1 + 4 < R.frames; omega) (by show 0 + (13 * (1 + 2) + 43) ≤ R.locals; omega) (by omega) (by omega) hlocks
      (fun t _ h3 h4 => ⟨rfl, zl_Wg hW h4, Nat.le_trans hS.1 h3, fun q hq hn => (h4 q (Nat.lt_of_lt_of_le hq hS.1)).trans (hS.2.1 q hq hn)⟩) hS.2.2 (Nat.le_refl _) (Nat.le_refl _)
    intro T hT Y
    obtain ⟨t, a, b⟩ := k T hT Y
    exact ⟨t, a, fun _ => b⟩
  · intro T hT Y
    exact ⟨_, Steps.refl _, fun h => absurd h h0⟩
theorem zl_thrW {pc is sa cells slots : Nat} {text : String} (hctx : g_Ctx X p s args mid meth c R 11 ini bytes nL d) (hl : l.stackTraces = false) (hZ : zl_Z X s s.heap) (hlocks : meth.locks = false) (htab : ∀ x ∈ c.exceptionTable.toList, False) (hsh : m.2.2.2.1 = g_shp) (hstr : vk_R "GutterNine" is text sa s)
    (d0 : decode bytes pc = .ok (.new 204, 3)) (d3 : decode bytes (pc + 3) = .ok (.dup, 1)) (d4 : decode bytes (pc + 4) = .ok (.ldc_w is, 3)) (d7 : decode bytes (pc + 7) = .ok (.invokespecial 208, 3)) (d10 : decode bytes (pc + 10) = .ok (.athrow, 1))
    (hR : 5 < R.frames ∧ 100 ≤ R.locals ∧ 1 ≤ R.cells ∧ 6 ≤ R.slots) :
    g_G X p l e R s mid args below meth c (fun mc ms t => mc = 0 ∧ ms = 0 → vx_MQ below zl_no (zl_XC X m) args s 1 6 (g_A X) t) nL yl_o pc L [] m cells slots := by
  obtain ⟨hx, hb, hml, hown, hts, hKn, hKc, hfr, hlo, hin⟩ := hctx
  refine ⟨cells, slots, Nat.le_refl _, Nat.le_refl _, by rw [hsh]; rfl, by rw [hsh]; rfl, fun h1 h2 H locs ls hL hW hS => ?_⟩
  by_cases h0 : cells = 0 ∧ slots = 0
  · obtain ⟨rfl, rfl⟩ := h0
    have k := zl_throwSW (p := p) (l := l) (e := e) (R := R) (s := s) (m := mid) (args := args) (below := below) (meth := meth) (c := c) (H := H) (locs := locs) (cells := 0) (slots := 0) (ls := ls) (rest := []) (Qc := zl_no) (XC := zl_XC X m) (free := g_A X) (mc := 1) (ms := 6) (A := g_A X) (own := "GutterNine") (cls := "java/util/NoSuchElementException") (Y1 := "java/lang/RuntimeException") (i1 := 13) (by1 := prog_31_method_4_code) (names := ["java/lang/Exception"]) (ic := 208) (ik := 204) (is := is) (sa := sa) (text := text) (pc := pc)
      hx hb hl hown zl_w6.1 zl_w6.2.1 zl_i0.1 zl_i0.2.1 zl_i0.2.2.1 zl_i0.2.2.2 zl_w6.2.2 (hts _ zl_w5.1) (hts _ zl_w5.2) hstr (zl_hat hts hZ.2.2) zl_w4 hZ.1 hZ.2.1 hS (hL.1.trans hml.symm) d0 d3 d4 d7 d10 (fun x hx => (htab x hx).elim)
      (by show 1 + 4 < R.frames; omega) (by show 0 + (13 * (1 + 2) + 43) ≤ R.locals; omega) (by omega) (by omega) hlocks
      (fun t _ h3 h4 => ⟨rfl, zl_Wg hW h4, Nat.le_trans hS.1 h3, fun q hq hn => (h4 q (Nat.lt_of_lt_of_le hq hS.1)).trans (hS.2.1 q hq hn)⟩) hS.2.2 (Nat.le_refl _) (Nat.le_refl _)
    intro T hT Y
    obtain ⟨t, a, b⟩ := k T hT Y
    exact ⟨t, a, fun _ => b⟩
  · intro T hT Y
    exact ⟨_, Steps.refl _, fun h => absurd h h0⟩
theorem zl_conI {D A : Nat} {As : List iV} {μ : iM} {o : Option iV × iM} (hC : X.2.2.2.2.2.1 = g_C 0) (h : iEE L0 D A As μ o) (hA : okS As) (hM : okM μ) : g_Con X g_T l D A (cvS As) (cM L0 μ) (o.1.map cvv, cM L0 o.2) ∧ okM o.2 := by
  obtain ⟨N, hN⟩ := iEE.to h hA hM
  obtain ⟨h1, h2, h3⟩ := hN N (Nat.le_refl _)
  refine ⟨?_, h3⟩
  refine g_T_run (n := N) D X A _ _ _ _ ?_
  rw [hC]
  exact h1
/-- a method of ours that throws: its contract, out of its rows -/
theorem zl_met {i : Nat} {md : gMD} {As : List Value} (hck : g_ckP i md) (hon : g_yo i = 11) (hret : md.2.2.2.1 = some .int) (hle : Nat.ble (g_args As).length md.2.2.1 = true) (hC : X.2.2.2.2.2.1 = g_C 0) (hsh : m.2.2.2.1 = g_shp)
    (h : ∀ (p : Program) (e : Env) (R : Room) (s : State) (mid : MethodId) (args : Array Value) (below : List Frame) (meth : Method) (c : Code), zl_H (p, l, e, R, s, mid, args, below, meth, c, fun mc ms t => mc = 0 ∧ ms = 0 → vx_MQ below zl_no (zl_XC X m) args s 1 6 (g_A X) t) (11, decide (md.1.name = "<init>"), md.2.1, md.2.2.1) X 100 →
      (∀ (pc is sa : Nat) (text : String) (L : gLs), vk_R "GutterNine" is text sa s → decode md.2.1 pc = .ok (.new 204, 3) → decode md.2.1 (pc + 3) = .ok (.dup, 1) → ((decode md.2.1 (pc + 4) = .ok (.ldc is, 2) ∧ decode md.2.1 (pc + 6) = .ok (.invokespecial 208, 3) ∧ decode md.2.1 (pc + 9) = .ok (.athrow, 1)) ∨ (decode md.2.1 (pc + 4) = .ok (.ldc_w is, 3) ∧ decode md.2.1 (pc + 7) = .ok (.invokespecial 208, 3) ∧ decode md.2.1 (pc + 10) = .ok (.athrow, 1))) →
        zl_G (p, l, e, R, s, mid, args, below, meth, c, fun mc ms t => mc = 0 ∧ ms = 0 → vx_MQ below zl_no (zl_XC X m) args s 1 6 (g_A X) t) (11, decide (md.1.name = "<init>"), md.2.1, md.2.2.1) X pc L [] m) →
      (∀ (i : Nat) (q : Nat × Nat), g_ss[i]? = some q → vk_R (g_on q.1) q.2 (g_sx.getD i "") (X.2.2.1 (1010 + 2 * i)) s) →
      zl_K (p, l, e, R, s, mid, args, below, meth, c, fun mc ms t => mc = 0 ∧ ms = 0 → vx_MQ below zl_no (zl_XC X m) args s 1 6 (g_A X) t) (11, decide (md.1.name = "<init>"), md.2.1, md.2.2.1) X md.2.2.2.2.1 (g_pad md.2.2.1 (g_args As)) [] m)
    (hl : l.stackTraces = false) : vx_Met l md.1 (Cond.code md.1 md.2.1 md.2.2.1 md.2.2.2.1 :: g_tw) (g_rm 101 1 6) (zl_Pc X As m) zl_no (zl_XC X m) 1 6 (g_A X) := by
  obtain ⟨hok, hpl, htw, hm60, -⟩ := hck
  simp only [g_okM, Bool.and_eq_true, decide_eq_true_eq] at hok
  obtain ⟨hy, hhd, hokc, hjt⟩ := hok
  refine vx_ofW (cc := md.2.1) (maxL := md.2.2.1) (ret := md.2.2.2.1) hpl rfl ?_
  intro p e s mid args below meth c s₁ B hml htab hv
  obtain ⟨⟨rfl, hW, hKn, hKc⟩, hZ⟩ := hv
  have hts0 := atoms_spec (ws := Cond.code md.1 md.2.1 md.2.2.1 md.2.2.2.1 :: g_tw) B.pre
  have hts : ∀ w ∈ g_tw, w.before ((As.map (g_cv X.2.2.1 X.2.2.2.1)).toArray) s = true := fun w hw => hts0 w (List.mem_cons_of_mem _ hw)
  have hown : s.vm.findClass md.1.cls = some mid.cls := findClass_of_methodNamed B.named
  have hnm : md.1.name = meth.name := (name_of_methodNamed B.named B.method).1.symm
  have hf := hKc.2.2.2.2.2.2.2.1
  have hcls : md.1.cls = g_on (g_yo i) := by rw [hy]; rfl
  rw [hcls, hon] at hown
  have hctx : g_Ctx X p s ((As.map (g_cv X.2.2.1 X.2.2.2.1)).toArray) mid meth c (headSpec (Cond.code md.1 md.2.1 md.2.2.1 md.2.2.2.1 :: g_tw) (g_rm 101 1 6)).room 11 (decide (md.1.name = "<init>")) md.2.1 md.2.2.1 101 :=
    ⟨B.exec, B.bytes, hml, hown, hts, hKn, hKc, by show 101 + 2 ≤ 101 + 2; omega, by show 128 * (101 + 2) ≤ 128 * (101 + 2); omega, fun hi => by rw [← hnm]; exact of_decide_eq_true hi⟩
  have hR : 5 < (headSpec (Cond.code md.1 md.2.1 md.2.2.1 md.2.2.2.1 :: g_tw) (g_rm 101 1 6)).room.frames ∧ 100 ≤ (headSpec (Cond.code md.1 md.2.1 md.2.2.1 md.2.2.2.1 :: g_tw) (g_rm 101 1 6)).room.locals ∧ 1 ≤ (headSpec (Cond.code md.1 md.2.1 md.2.2.1 md.2.2.2.1 :: g_tw) (g_rm 101 1 6)).room.cells ∧ 6 ≤ (headSpec (Cond.code md.1 md.2.1 md.2.2.1 md.2.2.2.1 :: g_tw) (g_rm 101 1 6)).room.slots := by
    show 5 < 101 + 2 ∧ 100 ≤ 128 * (101 + 2) ∧ 1 ≤ 1 ∧ 6 ≤ 6
    omega
  have K := h p e _ s mid _ below meth c ⟨hctx, hC⟩ (fun pc is sa text L hstr d0 d3 dd cells slots => by
    rcases dd with ⟨d4, d6, d9⟩ | ⟨d4, d7, d10⟩
    · exact zl_thr hctx hl hZ B.notSynchronized htab hsh hstr d0 d3 d4 d6 d9 hR
    · exact zl_thrW hctx hl hZ B.notSynchronized htab hsh hstr d0 d3 d4 d7 d10 hR) hKc.2.2.2.2.2.1
  have G := K (by
    show g_okC 11 (decide (md.1.name = "<init>")) md.2.1 (some .int) md.2.2.2.2.1 = true
    rw [← hon, ← hret]
    exact hokc) 0 0
  obtain ⟨mc, ms, g1, g2, g3, g4, g5⟩ := G
  rw [hsh] at g3 g4
  have e1 : yl_o.2.2.2.2.1 = g_shp := rfl
  rw [e1] at g3 g4
  obtain rfl : mc = 0 := by omega
  obtain rfl : ms = 0 := by omega
  have hlen := Nat.le_of_ble_eq_true hle
  have hlv := lv_entry (As.map (g_cv X.2.2.1 X.2.2.2.1)) (n := md.2.2.1) (by rw [g_sl_len hf]; exact hlen)
  have hw := g5 (Nat.zero_le _) (Nat.zero_le _) s.heap [] _ ⟨hlv.1, hlv.2.1, g_pad_len _ _, fun i v hi => by
    have := g_args_at hf As 0 i v (g_pad_nth _ _ _ _ hi)
    rw [Nat.zero_add] at this
    exact hlv.2.2 _ this⟩ hW va_S.rf
  have e0 : g_pc md.2.2.2.2.1 = 0 := by
    cases hz : md.2.2.2.2.1 with
    | nil => rfl
    | cons e3 nx3 =>
      rw [hz] at hhd
      exact Nat.eq_of_beq_eq_true hhd
  rw [e0] at hw
  rw [lg_entry_eq]
  intro T hT Y
  obtain ⟨t, a, b⟩ := hw T hT Y
  exact ⟨t, a, b ⟨rfl, rfl⟩⟩
end ZTHROWS

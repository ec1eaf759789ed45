/-! A call by name, its words told one by one. -/
section ZVCALL
variable {E : yl_E} {b : zl_M} {X : gX} {d n A ix pc q cl : Nat} {L L1 : gLs} {st st1 As : List Value} {m m1 : gM} {v : Option Value} {H : Heap} {locs : List Loc}
theorem zl_vcall (K : zl_H E b X d) (hdg : decode b.2.2.1 pc = .ok (.invokevirtual ix, 3)) (w0 : Cond.methodLink (g_on b.1) ix (g_y A) ∈ g_tw) (w1 : Cond.instanceMethod (g_y A) ∈ g_tw) (w2 : Cond.selects (g_on cl) (g_y A) (g_y A) ∈ g_tw) (wi : Cond.initialized (g_y A).cls ∈ g_tw)
    (wm : (g_y A).cls ≠ "java/lang/invoke/MethodHandle" ∧ (g_y A).cls ≠ "java/lang/invoke/VarHandle") (wp : (parseMethodDescriptor (g_y A).desc).map (fun d => d.parameters.length) = some n)
    (hst : st = As.reverse ++ .ref q :: st1) (hn : As.length = n) (hr : g_recv (g_C 0) (.ref q :: As) m cl = true) (hcat : Nat.ble (g_cats st1) 8 = true) (hcon : g_Con X g_T E.2.1 d A (.ref q :: As) m (v, m1))
    (hk : zl_G E b X (pc + 3) L (v.toList ++ st1) m1) : zl_G E b X pc L st m := by
  obtain ⟨hctx, hC⟩ := K
  have hc' := hctx
  obtain ⟨hx, hb, hml, hown, hts, hKn, hKc, hfr, hlo, hin⟩ := hctx
  intro cells slots
  have f0 : X.2.2.2.2.2.1.2.2.2 = 0 := by rw [hC]; rfl
  refine g_Gcall (st1 := st1) hcon (fun h => absurd f0 h) (fun md mc ms H locs ls hmd hM hc1 hs1 hL hW hS => ?_) (fun ad hF cells slots => ?_)
  · rw [← hC] at hr
    obtain ⟨q', As1, hq, hrc⟩ := g_recv_at hr hKn hKc hW hS
    cases hq
    obtain ⟨y1, y2, y3, y4, y5⟩ := g_cb (mc := mc) (ms := ms) hc' g_T_ok hmd
    rw [← y1] at w0 w1 w2 wi wm wp
    refine va_runV (C := g_on cl) (As := As.map (g_cv X.2.2.1 X.2.2.2.1)) (b := X.2.2.1 q) (n := n) ⟨hx, hb, hml, hown, hts⟩ hM
      ⟨⟨rfl, rfl, y4, y5, y2, List.mem_cons_self, y3, hts _ wi, wm, g_npar wp, hts _ w0⟩, hts _ w1, hts _ w2⟩
      ⟨g_Pc_blind X _ m, hrc, fun U hU hw => g_Pc_at hKn hKc hW hS (.ref q :: As) U hU hw⟩ rfl (by rw [List.length_map]; exact hn) hL.1 ?_ (lv_room (by rw [g_cats_eq hKc.2.2.2.2.2.2.2.1]; exact Nat.le_of_ble_eq_true hcat)) hdg ⟨hc1, hs1⟩
    show (st.map _) = _
    rw [hst]
    simp [g_cv]
  · have e0 : ad = X.2.2.1 := hF.2 f0
    subst e0
    exact hk cells slots
/-- a row that writes -/
theorem zl_rowm {e1 e2 : gCE} {nx : List gCE} (K : zl_H E b X d) (h : ∀ k : gK, g_op (g_C 0) (fun _ _ _ => none) e1 L st m k = k none L1 st1 m1) (hs : m1.2.2.2.1 = m.2.2.2.1) (hk : zl_K E b X (e2 :: nx) L1 st1 m1) : zl_K E b X (e1 :: e2 :: nx) L st m := fun hok => by
  obtain ⟨h1, h2, h3, h4⟩ := zl_cons hok
  refine zl_any (T := g_T) (fc := fun _ _ _ => none) K g_T_ok (fun _ _ _ _ _ q => by cases q) h1 h2 (j := none) h hs ?_
  show zl_G E b X (e1.1 + e1.2.2.1) L1 st1 m1
  rw [← h4 e2 nx rfl]
  exact hk h3
end ZVCALL

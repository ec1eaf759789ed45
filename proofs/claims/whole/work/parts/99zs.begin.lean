/-! The law's rows before its loop: what is made. -/
def yk_H (E : yl_E) (X : gX) : Prop := g_Ctx X E.1 E.2.2.2.2.1 E.2.2.2.2.2.2.1 E.2.2.2.2.2.1 E.2.2.2.2.2.2.2.2.1 E.2.2.2.2.2.2.2.2.2.1 E.2.2.2.1 (g_yo 327) yl_ini code 7 61 ∧ X.2.2.2.2.2.1 = g_C 1
def yk_ad (X : gX) (ad : Nat → Nat) : Prop := ∀ k, 1000 ≤ k → ad k = X.2.2.1 k
def yk_K (E : yl_E) (X : gX) (cur : List gCE) (L : gLs) (st : List Value) (m : gM) : Prop := g_okC (g_yo 327) yl_ini code (some .boolean) cur = true → yl_G E X (g_pc cur) L st m
section YKROW
variable {E : yl_E} {X : gX} {d n A ix c0 pc pc1 pc2 pc3 pc4 L0 : Nat} {L L1 : gLs} {st st1 As : List Value} {m m1 : gM} {T : Nat → Option gMD} {fc : gF} {e1 e2 e3 e6 : gCE} {nx : List gCE} {v : Option Value}
theorem yk_HA {ad : Nat → Nat} (h : yk_H E X) (ha : yk_ad X ad) : yk_H E (g_xa X ad) := by
  obtain ⟨⟨h1, h2, h3, h4, h5, h6, h7, h8⟩, hC⟩ := h
  refine ⟨⟨h1, h2, h3, h4, h5, h6, g_Kc_xa (n := 0) ⟨fun k hk => ha k (by omega), fun h0 => ?_⟩ h7, h8⟩, hC⟩
  rw [hC] at h0
  exact absurd (show (1 : Nat) = 0 from h0) (by decide)
theorem yk_any (H : yk_H E X) (hT : g_TOk T) (hcon : ∀ i As m v m1, fc i As m = some (v, m1) → g_Con X T E.2.1 60 i As m (v, m1)) (hD : g_okD code e1 = true) (hI : g_okI (g_yo 327) yl_ini (some .boolean) e1 = true) (h : ∀ k : gK, g_op (g_C 1) fc e1 L st m k = k none L1 st1 m1)
    (hk : ∀ ad, yk_ad X ad → yl_G E (g_xa X ad) (e1.1 + e1.2.2.1) L1 st1 m1) : yl_G E X e1.1 L st m := by
  intro cells slots
  obtain ⟨hc, hC⟩ := H
  obtain ⟨pc, ins, len, a, b, c0⟩ := e1
  refine g_o_any (o := yl_o) hc hT hcon yl_ret hD hI (k := fun j' L' st' m' => @ite _ (j' = none ∧ L' = L1 ∧ st' = st1 ∧ m' = m1) (Classical.propDecidable _) (some yl_o) none) (fun ad hF j' L' st' m' _ hk' cells slots => ?_) (fun j' L' st' m' hm hk' cells slots => ?_) ?_ cells slots
  · by_cases q : j' = none ∧ L' = L1 ∧ st' = st1 ∧ m' = m1
    · obtain ⟨q1, q2, q3, q4⟩ := q
      subst q1 q2 q3 q4
      exact hk ad (fun k hk => hF.1 k (Or.inr hk)) cells slots
    · have : (none : gRs) = some yl_o := (if_neg q).symm.trans hk'
      cases this
  · by_cases q : j' = none ∧ L' = L1 ∧ st' = st1 ∧ m' = m1
    · obtain ⟨q1, q2, q3, q4⟩ := q
      subst q1 q2 q3 q4
      exact hk X.2.2.1 (fun _ _ => rfl) cells slots
    · have : (none : gRs) = some yl_o := (if_neg q).symm.trans hk'
      cases this
  · rw [hC, h]
    exact if_pos ⟨rfl, rfl, rfl, rfl⟩
/-- a row that goes on to the next -/
theorem yk_row (H : yk_H E X) (h : ∀ k : gK, g_op (g_C 1) (fun _ _ _ => none) e1 L st m k = k none L1 st1 m1) (hk : ∀ ad, yk_ad X ad → yk_H E (g_xa X ad) → yk_K E (g_xa X ad) (e2 :: nx) L1 st1 m1) : yk_K E X (e1 :: e2 :: nx) L st m := fun hok => by
  obtain ⟨h1, h2, h3, h4⟩ := yl_cons hok
  refine yk_any (T := g_T) (fc := fun _ _ _ => none) H g_T_ok (fun _ _ _ _ _ q => by cases q) h1 h2 h (fun ad ha => ?_)
  rw [← h4 e2 nx rfl]
  exact hk ad ha (yk_HA H ha) h3
/-- a constructor's row -/
theorem yk_call {x1 x2 x3 x4 : Nat} (H : yk_H E X) (hx : g_exec (g_C 1) g_T 5000 60 A As m = some (none, m1)) (h : ∀ k : gK, g_op (g_C 1) (fun i As' m' => @ite _ (i = A ∧ As' = As ∧ m' = m) (Classical.propDecidable _) (some (none, m1)) none) (pc, .invokespecial ix, x1, x2, x3, x4) L st m k = k none L st1 m1) (hk : ∀ ad, yk_ad X ad → yk_H E (g_xa X ad) → yk_K E (g_xa X ad) (e2 :: nx) L st1 m1) : yk_K E X ((pc, .invokespecial ix, x1, x2, x3, x4) :: e2 :: nx) L st m := fun hok => by
  obtain ⟨h1, h2, h3, h4⟩ := yl_cons hok
  refine yk_any (T := g_T) (fc := fun i As' m' => @ite _ (i = A ∧ As' = As ∧ m' = m) (Classical.propDecidable _) (some (none, m1)) none) H g_T_ok (fun i As' m' v' m1' q => ?_) h1 h2 h (fun ad ha => ?_)
  · by_cases g : i = A ∧ As' = As ∧ m' = m
    · obtain ⟨g1, g2, g3⟩ := g
      subst g1 g2 g3
      have : some (none, m1) = some (v', m1') := (if_pos ⟨rfl, rfl, rfl⟩).symm.trans q
      cases this
      refine g_T_run (n := 5000) 60 X i _ _ _ _ ?_
      rw [H.2]
      exact hx
    · have : (none : gRs) = some (v', m1') := (if_neg g).symm.trans q
      cases this
  · have h5 := h4 e2 nx rfl
    have h5 : e2.1 = pc + x1 := h5
    show yl_G E (g_xa X ad) (pc + x1) L st1 m1
    rw [← h5]
    exact hk ad ha (yk_HA H ha) h3
theorem yk_tr {ad ad1 : Nat → Nat} (h : yk_ad X ad) (h1 : yk_ad (g_xa X ad) ad1) : yk_ad X ad1 := fun k hk => (h1 k hk).trans (h k hk)
theorem yk_some {r : gRs} {m : gM} (h : yk_ok r = true) : r = some (none, yk_get r m) := by
  unfold yk_ok at h
  split at h
  · rfl
  · cases h
theorem yk_inv4 {C : gC} {k : gK} {m2 : gM} {fc : gF} (h16 : c0 % 16 = 4) (hp : g_pop (n + 1) st [] = some (As, st1)) (hr : g_recv C As m (c0 / 16) = true) (hc : Nat.ble (g_cats st1) 8 = true) (ho : ∀ kr : gRs, g_old C L st1 m kr = kr) (hf : fc A As m = some (none, m1)) : g_op C fc (pc, .invokespecial ix, 3, A, n, c0) L st m k = k none L st1 m1 := by
  show g_inv C fc (pc, .invokespecial ix, 3, A, n, c0) L st m k = _
  unfold g_inv
  simp only [h16, hp, hr, hc, hf, cond_true, ho]
  rfl
theorem yk_opnew {k : gK} {c : Nat} (hn : m.2.2.2.1.length = n) (hlt : Nat.blt n 1000 = true) (hw : (g_wfL n L && g_wfS n st) = true) : g_op (g_C 1) fc (pc, .new ix, 3, c, 0, 0) L st m k = k none L (.ref n :: st) (yk_new m (0, c)) := by
  subst hn
  show (bif Nat.blt 0 1 && Nat.blt m.2.2.2.1.length 1000 then (bif g_wfL m.2.2.2.1.length L && g_wfS m.2.2.2.1.length st then k none L (.ref m.2.2.2.1.length :: st) (yk_new m (0, c)) else none) else none) = _
  rw [hlt, hw]
  rfl
theorem yk_oparr {k : gK} (hn : m.2.2.2.1.length = n) (hlt : Nat.blt n 1000 = true) (hw : (g_wfL n L && g_wfS n st) = true) : g_op (g_C 1) fc (pc, .newarray .long, 2, 2, 0, 0) L (.int 1 :: st) m k = k none L (.ref n :: st) (yk_new m (2, 1)) := by
  subst hn
  show (bif Nat.blt 0 1 && Nat.blt m.2.2.2.1.length 1000 then (bif g_wfL m.2.2.2.1.length L && g_wfS m.2.2.2.1.length st then k none L (.ref m.2.2.2.1.length :: st) (yk_new m (2, 1)) else none) else none) = _
  rw [hlt, hw]
  rfl
end YKROW
section YKBEGIN
variable {E : yl_E} {X : gX}
def yk_Ls (a b c d : Option Value) : gLs := [some (.ref 1900), a, b, c, d, none, none]
theorem yk_r63 : g_recv (g_C 1) [.ref 63] (yk_new yk_1 (0, 12)) 12 = true := by decide +kernel
theorem yk_r0 : g_recv (g_C 1) [.ref 0] (yk_new yk_0 (0, 11)) 11 = true := by decide +kernel
theorem yk_n1 : (yk_new yk_0 (0, 11)).2.2.2.1.length = 1 ∧ (yk_new yk_1 (0, 12)).2.2.2.1.length = 64 := by decide +kernel
theorem yk_begin (H : yk_H E X) (hend : ∀ ad, yk_ad X ad → yl_G E (g_xa X ad) 23 (yk_Ls (some (.ref 0)) (some (.ref 63)) (some (.ref 81)) (some (.int 0))) [] yk_3) : yl_G E X 0 (yk_Ls none none none none) [] yk_0 := by
  have l1 := yk_len.1
  have l2 := yk_len.2.1
  have K : yk_K E X k327_0 (yk_Ls none none none none) [] yk_0 := by
    refine yk_row (L1 := yk_Ls none none none none) (st1 := [.ref 0]) (m1 := yk_new yk_0 (0, 11)) H (fun k => rfl) (fun a1 b1 H => ?_)
    refine yk_row (L1 := yk_Ls none none none none) (st1 := [.ref 0, .ref 0]) (m1 := yk_new yk_0 (0, 11)) H (fun k => rfl) (fun a2 b2 H => ?_)
    refine yk_call (m1 := yk_1) (st1 := [.ref 0]) (As := [.ref 0]) H (yk_some yk_1ok) (fun k => yk_inv4 (m2 := yk_0) rfl rfl yk_r0 rfl (fun kr => rfl) (if_pos ⟨rfl, rfl, rfl⟩)) (fun a3 b3 H => ?_)
    refine yk_row (L1 := yk_Ls (some (.ref 0)) none none none) (st1 := []) (m1 := yk_1) H (fun k => rfl) (fun a4 b4 H => ?_)
    refine yk_row (L1 := yk_Ls (some (.ref 0)) none none none) (st1 := [.ref 63]) (m1 := yk_new yk_1 (0, 12)) H (fun k => yk_opnew l1 rfl rfl) (fun a5 b5 H => ?_)
    refine yk_row (L1 := yk_Ls (some (.ref 0)) none none none) (st1 := [.ref 63, .ref 63]) (m1 := yk_new yk_1 (0, 12)) H (fun k => rfl) (fun a6 b6 H => ?_)
    refine yk_call (m1 := yk_2) (st1 := [.ref 63]) (As := [.ref 63]) H (yk_some yk_2ok) (fun k => yk_inv4 (m2 := yk_0) rfl rfl yk_r63 rfl (fun kr => ?_) (if_pos ⟨rfl, rfl, rfl⟩)) (fun a7 b7 H => ?_)
    · unfold g_old
      rw [yk_n1.2]
      rfl
    refine yk_row (L1 := yk_Ls (some (.ref 0)) (some (.ref 63)) none none) (st1 := []) (m1 := yk_2) H (fun k => rfl) (fun a8 b8 H => ?_)
    refine yk_row (L1 := yk_Ls (some (.ref 0)) (some (.ref 63)) none none) (st1 := [.int 1]) (m1 := yk_2) H (fun k => rfl) (fun a9 b9 H => ?_)
    refine yk_row (L1 := yk_Ls (some (.ref 0)) (some (.ref 63)) none none) (st1 := [.ref 81]) (m1 := yk_3) H (fun k => yk_oparr l2 rfl rfl) (fun a10 b10 H => ?_)
    refine yk_row (L1 := yk_Ls (some (.ref 0)) (some (.ref 63)) (some (.ref 81)) none) (st1 := []) (m1 := yk_3) H (fun k => rfl) (fun a11 b11 H => ?_)
    refine yk_row (L1 := yk_Ls (some (.ref 0)) (some (.ref 63)) (some (.ref 81)) none) (st1 := [.int 0]) (m1 := yk_3) H (fun k => rfl) (fun a12 b12 H => ?_)
    refine yk_row (L1 := yk_Ls (some (.ref 0)) (some (.ref 63)) (some (.ref 81)) (some (.int 0))) (st1 := []) (m1 := yk_3) H (fun k => rfl) (fun a13 b13 H => ?_)
    intro _
    refine hend a13 ?_
    exact yk_tr (yk_tr (yk_tr (yk_tr (yk_tr (yk_tr (yk_tr (yk_tr (yk_tr (yk_tr (yk_tr (yk_tr b1 b2) b3) b4) b5) b6) b7) b8) b9) b10) b11) b12) b13
  have h := gl_0
  simp only [Bool.and_eq_true] at h
  have := K h.2
  have e : g_pc k327_0 = 0 := Nat.eq_of_beq_eq_true h.1
  rw [e] at this
  exact this
end YKBEGIN

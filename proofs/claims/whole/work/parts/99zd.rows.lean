/-! Rows of whatever method that answers an int (from 99y). -/
abbrev zl_M : Type := Nat × Bool × ByteArray × Nat
/-- from here the law ends as it should, whatever was made until now -/
def zl_G (E : yl_E) (b : zl_M) (X : gX) (pc : Nat) (L : gLs) (st : List Value) (m : gM) : Prop := ∀ cells slots, g_G X E.1 E.2.1 E.2.2.1 E.2.2.2.1 E.2.2.2.2.1 E.2.2.2.2.2.1 E.2.2.2.2.2.2.1 E.2.2.2.2.2.2.2.1 E.2.2.2.2.2.2.2.2.1 E.2.2.2.2.2.2.2.2.2.1 E.2.2.2.2.2.2.2.2.2.2 b.2.2.2 yl_o pc L st m cells slots
/-- where the law stands -/
def zl_H (E : yl_E) (b : zl_M) (X : gX) (d : Nat) : Prop := g_Ctx X E.1 E.2.2.2.2.1 E.2.2.2.2.2.2.1 E.2.2.2.2.2.1 E.2.2.2.2.2.2.2.2.1 E.2.2.2.2.2.2.2.2.2.1 E.2.2.2.1 b.1 b.2.1 b.2.2.1 b.2.2.2 (d + 1) ∧ X.2.2.2.2.2.1 = g_C 0
/-- .. at a row of rows -/
def zl_K (E : yl_E) (b : zl_M) (X : gX) (cur : List gCE) (L : gLs) (st : List Value) (m : gM) : Prop := g_okC b.1 b.2.1 b.2.2.1 (some .int) cur = true → zl_G E b X (g_pc cur) L st m
def zl_nx (e1 : gCE) : Option Nat → Nat
  | none => e1.1 + e1.2.2.1
  | some t => t
section ZROW
variable {E : yl_E} {b : zl_M} {X : gX} {d n A ix c0 pc pc1 pc2 pc3 pc4 L0 : Nat} {L L1 : gLs} {st st1 As : List Value} {m m1 : gM} {T : Nat → Option gMD} {fc : gF} {e1 e2 e3 e6 : gCE} {nx : List gCE} {v : Option Value} {μ μ1 : iM} {i kk : Int32} {u5 u6 : Option Value}
theorem zl_ret : g_Ret X E.1 E.2.1 E.2.2.1 E.2.2.2.1 E.2.2.2.2.1 E.2.2.2.2.2.1 E.2.2.2.2.2.2.1 E.2.2.2.2.2.2.2.1 E.2.2.2.2.2.2.2.2.1 E.2.2.2.2.2.2.2.2.2.1 E.2.2.2.2.2.2.2.2.2.2 b.2.2.1 (some .int) yl_o := by
  intro pc m H locs ls cells slots hW hS
  refine ⟨fun x rt _ _ _ _ ho => ?_, fun x _ h1 _ => (by cases h1), fun _ h1 _ => (by cases h1)⟩
  have h2 : (none : Option Value) = some (.int x) := congrArg Prod.fst ho
  cases h2
theorem zl_any (H : zl_H E b X d) (hT : g_TOk T) (hcon : ∀ i As m v m1, fc i As m = some (v, m1) → g_Con X T E.2.1 d i As m (v, m1)) (hD : g_okD b.2.2.1 e1 = true) (hI : g_okI b.1 b.2.1 (some .int) e1 = true) {j : Option Nat} (h : ∀ k : gK, g_op (g_C 0) fc e1 L st m k = k j L1 st1 m1) (hs : m1.2.2.2.1 = m.2.2.2.1)
    (hk : zl_G E b X (zl_nx e1 j) L1 st1 m1) : zl_G E b X e1.1 L st m := by
  intro cells slots
  obtain ⟨hc, hC⟩ := H
  obtain ⟨pc, ins, len, a, b1, c0⟩ := e1
  refine g_o_any (o := yl_o) hc hT hcon zl_ret hD hI (k := fun j' L' st' m' => @ite _ (j' = j ∧ L' = L1 ∧ st' = st1 ∧ m' = m1) (Classical.propDecidable _) (some yl_o) none) (fun ad hF j' L' st' m' _ hk' cells slots => ?_) (fun j' L' st' m' hm hk' cells slots => ?_) ?_ cells slots
  · have e0 : ad = X.2.2.1 := hF.2 (by rw [hC]; rfl)
    by_cases q : j' = j ∧ L' = L1 ∧ st' = st1 ∧ m' = m1
    · obtain ⟨q1, q2, q3, q4⟩ := q
      subst q1 q2 q3 q4 e0
      cases j' <;> exact hk cells slots
    · have : (none : gRs) = some yl_o := (if_neg q).symm.trans hk'
      cases this
  · by_cases q : j' = j ∧ L' = L1 ∧ st' = st1 ∧ m' = m1
    · obtain ⟨q1, q2, q3, q4⟩ := q
      subst q1 q2 q3 q4
      cases j' <;> exact hk cells slots
    · have : (none : gRs) = some yl_o := (if_neg q).symm.trans hk'
      cases this
  · rw [hC, h]
    exact if_pos ⟨rfl, rfl, rfl, rfl⟩
theorem zl_cons (h : g_okC b.1 b.2.1 b.2.2.1 (some .int) (e1 :: nx) = true) : g_okD b.2.2.1 e1 = true ∧ g_okI b.1 b.2.1 (some .int) e1 = true ∧ g_okC b.1 b.2.1 b.2.2.1 (some .int) nx = true ∧ (∀ e2 nx2, nx = e2 :: nx2 → e2.1 = e1.1 + e1.2.2.1) := by
  simp only [g_okC, Bool.and_eq_true] at h
  obtain ⟨h1, h2, h3, h4⟩ := h
  refine ⟨h1, h2, h4, fun e2 nx2 hn => ?_⟩
  subst hn
  exact Nat.eq_of_beq_eq_true h3
/-- a row that goes on to the next -/
theorem zl_row (H : zl_H E b X d) (h : ∀ k : gK, g_op (g_C 0) (fun _ _ _ => none) e1 L st m k = k none L1 st1 m) (hk : zl_K E b X (e2 :: nx) L1 st1 m) : zl_K E b X (e1 :: e2 :: nx) L st m := fun hok => by
  obtain ⟨h1, h2, h3, h4⟩ := zl_cons hok
  refine zl_any (T := g_T) (fc := fun _ _ _ => none) H g_T_ok (fun _ _ _ _ _ q => by cases q) h1 h2 (j := none) h rfl ?_
  show zl_G E b X (e1.1 + e1.2.2.1) L1 st1 m
  rw [← h4 e2 nx rfl]
  exact hk h3
/-- a row that jumps -/
theorem zl_jmp {t : Nat} (H : zl_H E b X d) (h : ∀ k : gK, g_op (g_C 0) (fun _ _ _ => none) e1 L st m k = k (some t) L1 st1 m) (hk : zl_G E b X t L1 st1 m) : zl_K E b X (e1 :: nx) L st m := fun hok => by
  obtain ⟨h1, h2, h3, h4⟩ := zl_cons hok
  exact zl_any (T := g_T) (fc := fun _ _ _ => none) H g_T_ok (fun _ _ _ _ _ q => by cases q) h1 h2 (j := some t) h rfl hk
theorem zl_opv {C : gC} {x1 x2 x3 x4 : Nat} {k : gK} : g_op C fc (pc, .invokevirtual ix, x1, x2, x3, x4) L st m k = g_inv C fc (pc, .invokevirtual ix, x1, x2, x3, x4) L st m k := rfl
/-- a row that calls -/
theorem zl_inv {k : gK} (h16 : c0 % 16 = 0 ∨ c0 % 16 = 1) (hp : g_pop (n + 1) st [] = some (As, st1)) (hr : g_recv (g_C 0) As m (c0 / 16) = true) (hc : Nat.ble (g_cats st1) 8 = true) (hf : fc A As m = some (v, m1)) : g_inv (g_C 0) fc (pc, .invokevirtual ix, 3, A, n, c0) L st m k = k none L (v.toList ++ st1) m1 := by
  unfold g_inv
  rcases h16 with h16 | h16 <;> simp only [h16, hp, hr, hc, hf, cond_true] <;> rfl
theorem zl_call (H : zl_H E b X d) (hT : g_TOk T) (h16 : c0 % 16 = 0 ∨ c0 % 16 = 1) (hp : g_pop (n + 1) st [] = some (As, st1)) (hr : g_recv (g_C 0) As m (c0 / 16) = true) (hc : Nat.ble (g_cats st1) 8 = true) (hcon : g_Con X T E.2.1 d A As m (v, m1)) (hs : m1.2.2.2.1 = m.2.2.2.1) (hk : zl_K E b X (e2 :: nx) L (v.toList ++ st1) m1) : zl_K E b X ((pc, .invokevirtual ix, 3, A, n, c0) :: e2 :: nx) L st m := fun hok => by
  obtain ⟨h1, h2, h3, h4⟩ := zl_cons hok
  have h5 := h4 e2 nx rfl
  refine zl_any (T := T) (fc := fun i As' m' => @ite _ (i = A ∧ As' = As ∧ m' = m) (Classical.propDecidable _) (some (v, m1)) none) H hT (fun i As' m' v' m1' q => ?_) h1 h2 (j := none) (L1 := L) (st1 := v.toList ++ st1) (m1 := m1) (fun k => ?_) hs ?_
  · by_cases g : i = A ∧ As' = As ∧ m' = m
    · obtain ⟨g1, g2, g3⟩ := g
      subst g1 g2 g3
      have : some (v, m1) = some (v', m1') := (if_pos ⟨rfl, rfl, rfl⟩).symm.trans q
      cases this
      exact hcon
    · have : (none : gRs) = some (v', m1') := (if_neg g).symm.trans q
      cases this
  · rw [zl_opv]
    exact zl_inv h16 hp hr hc (if_pos ⟨rfl, rfl, rfl⟩)
  · show zl_G E b X (pc + 3) L (v.toList ++ st1) m1
    have h6 : e2.1 = pc + 3 := h5
    rw [← h6]
    exact hk h3
/-- the last row of a stretch, that goes on -/
theorem zl_fall (H : zl_H E b X d) (h : ∀ k : gK, g_op (g_C 0) (fun _ _ _ => none) e1 L st m k = k none L1 st1 m) (hk : zl_G E b X (e1.1 + e1.2.2.1) L1 st1 m) : zl_K E b X [e1] L st m := fun hok => by
  obtain ⟨h1, h2, h3, h4⟩ := zl_cons hok
  exact zl_any (T := g_T) (fc := fun _ _ _ => none) H g_T_ok (fun _ _ _ _ _ q => by cases q) h1 h2 (j := none) h rfl hk
end ZROW

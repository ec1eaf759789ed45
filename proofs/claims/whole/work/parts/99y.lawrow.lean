/-! The law's own method, row by row. -/
abbrev yl_E : Type := Program × Launch × Env × Room × State × MethodId × Array Value × List Frame × Method × Code × (Nat → Nat → State → Prop)
def yl_o : Option Value × gM := (none, (fun _ _ => 0, fun _ _ => 0, fun _ _ => 0, g_shp, 0))
def yl_ini : Bool := decide (gm_327.1.name = "<init>")
/-- from here the law ends as it should, whatever was made until now -/
def yl_G (E : yl_E) (X : gX) (pc : Nat) (L : gLs) (st : List Value) (m : gM) : Prop := ∀ cells slots, g_G X E.1 E.2.1 E.2.2.1 E.2.2.2.1 E.2.2.2.2.1 E.2.2.2.2.2.1 E.2.2.2.2.2.2.1 E.2.2.2.2.2.2.2.1 E.2.2.2.2.2.2.2.2.1 E.2.2.2.2.2.2.2.2.2.1 E.2.2.2.2.2.2.2.2.2.2 7 yl_o pc L st m cells slots
/-- where the law stands -/
def yl_H (E : yl_E) (X : gX) (d : Nat) : Prop := g_Ctx X E.1 E.2.2.2.2.1 E.2.2.2.2.2.2.1 E.2.2.2.2.2.1 E.2.2.2.2.2.2.2.2.1 E.2.2.2.2.2.2.2.2.2.1 E.2.2.2.1 (g_yo 327) yl_ini code 7 (d + 1) ∧ X.2.2.2.2.2.1 = g_C 0
/-- .. at a row of rows -/
def yl_K (E : yl_E) (X : gX) (cur : List gCE) (L : gLs) (st : List Value) (m : gM) : Prop := g_okC (g_yo 327) yl_ini code (some .boolean) cur = true → yl_G E X (g_pc cur) L st m
def yl_nx (e1 : gCE) : Option Nat → Nat
  | none => e1.1 + e1.2.2.1
  | some t => t
section LAWROW
variable {E : yl_E} {X : gX} {d n A ix c0 pc pc1 pc2 pc3 pc4 L0 : Nat} {L L1 : gLs} {st st1 As : List Value} {m m1 : gM} {T : Nat → Option gMD} {fc : gF} {e1 e2 e3 e6 : gCE} {nx : List gCE} {v : Option Value} {μ μ1 : iM} {i kk : Int32} {u5 u6 : Option Value}
theorem yl_ret : g_Ret X E.1 E.2.1 E.2.2.1 E.2.2.2.1 E.2.2.2.2.1 E.2.2.2.2.2.1 E.2.2.2.2.2.2.1 E.2.2.2.2.2.2.2.1 E.2.2.2.2.2.2.2.2.1 E.2.2.2.2.2.2.2.2.2.1 E.2.2.2.2.2.2.2.2.2.2 code (some .boolean) yl_o := by
  intro pc m H locs ls cells slots hW hS
  refine ⟨fun x rt _ _ _ _ ho => ?_, fun x _ h1 _ => (by cases h1), fun _ h1 _ => (by cases h1)⟩
  have h2 : (none : Option Value) = some (.int x) := congrArg Prod.fst ho
  cases h2
theorem yl_any (H : yl_H E X d) (hT : g_TOk T) (hcon : ∀ i As m v m1, fc i As m = some (v, m1) → g_Con X T E.2.1 d i As m (v, m1)) (hD : g_okD code e1 = true) (hI : g_okI (g_yo 327) yl_ini (some .boolean) e1 = true) {j : Option Nat} (h : ∀ k : gK, g_op (g_C 0) fc e1 L st m k = k j L1 st1 m1) (hs : m1.2.2.2.1 = m.2.2.2.1)
    (hk : yl_G E X (yl_nx e1 j) L1 st1 m1) : yl_G E X e1.1 L st m := by
  intro cells slots
  obtain ⟨hc, hC⟩ := H
  obtain ⟨pc, ins, len, a, b, c0⟩ := e1
  refine g_o_any (o := yl_o) hc hT hcon yl_ret hD hI (k := fun j' L' st' m' => @ite _ (j' = j ∧ L' = L1 ∧ st' = st1 ∧ m' = m1) (Classical.propDecidable _) (some yl_o) none) (fun ad hF j' L' st' m' _ hk' cells slots => ?_) (fun j' L' st' m' hm hk' cells slots => ?_) ?_ cells slots
  · have e0 : ad = X.2.2.1 := hF.2 (by rw [hC]; rfl)
    by_cases q : j' = j ∧ L' = L1 ∧ st' = st1 ∧ m' = m1
    · obtain ⟨q1, q2, q3, q4⟩ := q
      subst q1 q2 q3 q4 e0
      cases j' <;> exact hk cells slots
    · have : (none : gRs) = some yl_o := (if_neg q).symm.trans hk'
      cases this
  · by_cases q : j' = j ∧ L' = L1 ∧ st' = st1 ∧ m' = m1
    · obtain ⟨q1, q2, q3, q4⟩ := q
      subst q1 q2 q3 q4
      cases j' <;> exact hk cells slots
    · have : (none : gRs) = some yl_o := (if_neg q).symm.trans hk'
      cases this
  · rw [hC, h]
    exact if_pos ⟨rfl, rfl, rfl, rfl⟩
theorem yl_cons (h : g_okC (g_yo 327) yl_ini code (some .boolean) (e1 :: nx) = true) : g_okD code e1 = true ∧ g_okI (g_yo 327) yl_ini (some .boolean) e1 = true ∧ g_okC (g_yo 327) yl_ini code (some .boolean) nx = true ∧ (∀ e2 nx2, nx = e2 :: nx2 → e2.1 = e1.1 + e1.2.2.1) := by
  simp only [g_okC, Bool.and_eq_true] at h
  obtain ⟨h1, h2, h3, h4⟩ := h
  refine ⟨h1, h2, h4, fun e2 nx2 hn => ?_⟩
  subst hn
  exact Nat.eq_of_beq_eq_true h3
/-- a row that goes on to the next -/
theorem yl_row (H : yl_H E X d) (h : ∀ k : gK, g_op (g_C 0) (fun _ _ _ => none) e1 L st m k = k none L1 st1 m) (hk : yl_K E X (e2 :: nx) L1 st1 m) : yl_K E X (e1 :: e2 :: nx) L st m := fun hok => by
  obtain ⟨h1, h2, h3, h4⟩ := yl_cons hok
  refine yl_any (T := g_T) (fc := fun _ _ _ => none) H g_T_ok (fun _ _ _ _ _ q => by cases q) h1 h2 (j := none) h rfl ?_
  show yl_G E X (e1.1 + e1.2.2.1) L1 st1 m
  rw [← h4 e2 nx rfl]
  exact hk h3
/-- a row that jumps -/
theorem yl_jmp {t : Nat} (H : yl_H E X d) (h : ∀ k : gK, g_op (g_C 0) (fun _ _ _ => none) e1 L st m k = k (some t) L1 st1 m) (hk : yl_G E X t L1 st1 m) : yl_K E X (e1 :: nx) L st m := fun hok => by
  obtain ⟨h1, h2, h3, h4⟩ := yl_cons hok
  exact yl_any (T := g_T) (fc := fun _ _ _ => none) H g_T_ok (fun _ _ _ _ _ q => by cases q) h1 h2 (j := some t) h rfl hk
theorem yl_opv {C : gC} {x1 x2 x3 x4 : Nat} {k : gK} : g_op C fc (pc, .invokevirtual ix, x1, x2, x3, x4) L st m k = g_inv C fc (pc, .invokevirtual ix, x1, x2, x3, x4) L st m k := rfl
/-- a row that calls -/
theorem yl_inv {k : gK} (h16 : c0 % 16 = 0) (hp : g_pop (n + 1) st [] = some (As, st1)) (hr : g_recv (g_C 0) As m (c0 / 16) = true) (hc : Nat.ble (g_cats st1) 8 = true) (hf : fc A As m = some (v, m1)) : g_inv (g_C 0) fc (pc, .invokevirtual ix, 3, A, n, c0) L st m k = k none L (v.toList ++ st1) m1 := by
  unfold g_inv
  simp only [h16, hp, hr, hc, hf, cond_true]
  rfl
theorem yl_call (H : yl_H E X d) (hT : g_TOk T) (h16 : c0 % 16 = 0) (hp : g_pop (n + 1) st [] = some (As, st1)) (hr : g_recv (g_C 0) As m (c0 / 16) = true) (hc : Nat.ble (g_cats st1) 8 = true) (hcon : g_Con X T E.2.1 d A As m (v, m1)) (hs : m1.2.2.2.1 = m.2.2.2.1) (hk : yl_K E X (e2 :: nx) L (v.toList ++ st1) m1) : yl_K E X ((pc, .invokevirtual ix, 3, A, n, c0) :: e2 :: nx) L st m := fun hok => by
  obtain ⟨h1, h2, h3, h4⟩ := yl_cons hok
  have h5 := h4 e2 nx rfl
  refine yl_any (T := T) (fc := fun i As' m' => @ite _ (i = A ∧ As' = As ∧ m' = m) (Classical.propDecidable _) (some (v, m1)) none) H hT (fun i As' m' v' m1' q => ?_) h1 h2 (j := none) (L1 := L) (st1 := v.toList ++ st1) (m1 := m1) (fun k => ?_) hs ?_
  · by_cases g : i = A ∧ As' = As ∧ m' = m
    · obtain ⟨g1, g2, g3⟩ := g
      subst g1 g2 g3
      have : some (v, m1) = some (v', m1') := (if_pos ⟨rfl, rfl, rfl⟩).symm.trans q
      cases this
      exact hcon
    · have : (none : gRs) = some (v', m1') := (if_neg g).symm.trans q
      cases this
  · rw [yl_opv]
    exact yl_inv h16 hp hr hc (if_pos ⟨rfl, rfl, rfl⟩)
  · show yl_G E X (pc + 3) L (v.toList ++ st1) m1
    have h6 : e2.1 = pc + 3 := h5
    rw [← h6]
    exact hk h3
/-- the script in the memory is the script -/
theorem yl_scr (h : m.1 2000 = X.2.2.2.2.2.2.1 → yl_G E X pc L st m) (hs : m.2.2.2.1 = g_shp) : yl_G E X pc L st m := by
  intro cells slots
  refine ⟨cells, slots, Nat.le_refl _, Nat.le_refl _, by rw [hs]; rfl, by rw [hs]; rfl, fun h1 h2 H locs ls hL hW hS => ?_⟩
  obtain ⟨mc, ms, a1, a2, a3, a4, a5⟩ := h hW.2.2.2.2.1 cells slots
  rw [hs] at a3 a4
  have e1 : yl_o.2.2.2.2.1 = g_shp := rfl
  rw [e1] at a3 a4
  obtain rfl : mc = cells := by omega
  obtain rfl : ms = slots := by omega
  exact a5 h1 h2 H locs ls hL hW hS
/-- what the script says at i + kk -/
theorem yl_arg (H : yl_H E X d) (hs : (cM L0 μ).1 2000 = X.2.2.2.2.2.2.1) (hL : L = [some (.ref 2000), some (.ref 0), some (.ref 63), some (.ref 81), some (.int i), u5, u6]) (h3 : ∀ (k : gK) (st : List Value), g_op (g_C 0) (fun _ _ _ => none) e3 L st (cM L0 μ) k = k none L (.int kk :: st) (cM L0 μ)) (hy : ¬ (i + kk < 0 ∨ L0 ≤ (i + kk).toNatClampNeg))
    (hk : yl_K E X (e6 :: nx) L (.int (X.2.2.2.2.2.2.1 (i + kk).toNatClampNeg) :: st) (cM L0 μ)) : yl_K E X ((pc, .aload_n 0, 1, 0, 0, 0) :: (pc1, .iload 4, 2, 0, 0, 0) :: e3 :: (pc3, .iadd, 1, 0, 0, 0) :: (pc4, .iaload, 1, 0, 0, 0) :: e6 :: nx) L st (cM L0 μ) := by
  subst hL
  refine yl_row H (fun k => rfl) (yl_row H (fun k => rfl) (yl_row H (fun k => h3 k _) (yl_row H (fun k => rfl) (yl_row H (fun k => ?_) hk))))
  show g_chk (i + kk) L0 (k none _ (.int ((cM L0 μ).1 2000 (i + kk).toNatClampNeg) :: st) (cM L0 μ)) = _
  rw [hs]
  unfold g_chk
  exact if_neg hy
end LAWROW

/-! The machine does what the plain machine does. -/
def g_slots : List (Nat × Nat) → Nat
  | [] => 0
  | (0, c) :: l => g_slots l + g_nf c
  | (_ + 1, n) :: l => g_slots l + n
theorem g_slots_app : ∀ (a b : List (Nat × Nat)), g_slots (a ++ b) = g_slots a + g_slots b
  | [], b => by simp [g_slots]
  | (0, c) :: l, b => by simp [g_slots, g_slots_app l b]; omega
  | (k + 1, n) :: l, b => by simp [g_slots, g_slots_app l b]; omega
def g_rm (d mc ms : Nat) : Room := { frames := d + 2, cells := mc, slots := ms, locals := 128 * (d + 2) }
def g_Pc (X : gX) (As : List Value) (m : gM) : Array Value → State → Prop := fun a U => a = (As.map (g_cv X.2.2.1 X.2.2.2.1)).toArray ∧ g_W X m U.heap ∧ g_Kn X U ∧ g_Kc X U U.heap
/-- other addresses: what was made, and the constants, lie where they lay -/
def g_xa (X : gX) (ad : Nat → Nat) : gX := (X.1, X.2.1, ad, X.2.2.2)
def g_Fam (X : gX) (n : Nat) (ad : Nat → Nat) : Prop := (∀ k, (k < n ∨ 1000 ≤ k) → ad k = X.2.2.1 k) ∧ (X.2.2.2.2.2.1.2.2.2 = 0 → ad = X.2.2.1)
def g_Qc (X : gX) (n : Nat) (o : Option Value × gM) : Array Value → State → Outcome → State → Prop := fun _ st oc t => ∃ ad, g_Fam X n ad ∧ (oc = .returned (o.1.map (g_cv ad X.2.2.2.1)) ∧ g_W (g_xa X ad) o.2 t.heap) ∧ va_F (g_A X) st t
def g_Con (X : gX) (T : Nat → Option gMD) (l : Launch) (d i : Nat) (As : List Value) (m : gM) (o : Option Value × gM) : Prop :=
  ∃ md, T i = some md ∧ ∃ mc ms, m.2.2.2.1.length + mc = o.2.2.2.2.1.length ∧ g_slots m.2.2.2.1 + ms = g_slots o.2.2.2.2.1 ∧
    Met l md.1 (Cond.code md.1 md.2.1 md.2.2.1 md.2.2.2.1 :: g_tw) (g_rm d mc ms) (g_Pc X As m) (g_Qc X m.2.2.2.1.length o) mc ms (g_A X)
/-- what is known of a table of methods -/
def g_TOk (T : Nat → Option gMD) : Prop := ∀ i md, T i = some md → md.1 = g_y i ∧ Cond.code md.1 md.2.1 md.2.2.1 md.2.2.2.1 ∈ g_tw ∧ md.2.2.1 ≤ 60 ∧ (md.1.name = "<init>" → md.2.2.2.1 = none)
theorem g_Pc_blind (X : gX) (As : List Value) (m : gM) : FrameBlind (g_Pc X As m) := by
  intro a U g mk h
  refine ⟨h.1, h.2.1, g_Kn_same (s := U) (U := U.calling g mk a) rfl h.2.2.1, g_Kc_to (U := U.calling g mk a) (Vm.Alike.refl U.vm) (fun _ _ _ _ q => vk_R.same rfl q) (fun _ _ _ => rfl) (Nat.le_refl _) h.2.2.2⟩
section SIM
variable {p : Program} {l : Launch} {e : Env} {R : Room} {s : State} {mid : MethodId} {args : Array Value} {below : List Frame} {meth : Method} {c : Code} {Q : Nat → Nat → State → Prop}
/-- where a method stands: its own number, its bytes, its locals -/
def g_Ctx (X : gX) (p : Program) (s : State) (args : Array Value) (mid : MethodId) (meth : Method) (c : Code) (R : Room) (on : Nat) (ini : Bool) (bytes : ByteArray) (nL d : Nat) : Prop :=
  p.tables.exec = Jvm.exec ∧ c.code = bytes ∧ c.maxLocals = nL ∧ s.vm.findClass (g_on on) = some mid.cls ∧ (∀ w ∈ g_tw, w.before args s = true) ∧ g_Kn X s ∧ g_Kc X s s.heap ∧
  d + 2 ≤ R.frames ∧ 128 * (d + 2) ≤ R.locals ∧ (ini = true → meth.name = "<init>")
def g_G (X : gX) (p : Program) (l : Launch) (e : Env) (R : Room) (s : State) (mid : MethodId) (args : Array Value) (below : List Frame) (meth : Method) (c : Code) (Q : Nat → Nat → State → Prop) (nL : Nat) (o : Option Value × gM) (pc : Nat) (L : gLs) (st : List Value) (m : gM) (cells slots : Nat) : Prop :=
  ∃ mc ms, cells ≤ mc ∧ slots ≤ ms ∧ mc + m.2.2.2.1.length = cells + o.2.2.2.2.1.length ∧ ms + g_slots m.2.2.2.1 = slots + g_slots o.2.2.2.2.1 ∧
    (mc ≤ R.cells → ms ≤ R.slots → ∀ (H : Heap) (locs : List Loc) (ls : Array Slot), g_Ls X ls nL L → g_W X m H → va_S (g_A X) s.heap H locs →
      W p l e R s mid args below meth c H locs cells slots (Q mc ms) (F0 mid pc ls (st.map (g_cv X.2.2.1 X.2.2.2.1))))
variable {X : gX} {on nL d : Nat} {ini : Bool} {bytes : ByteArray} {o : Option Value × gM}
/-- a row that makes no cell -/
theorem g_G.step {pc pc1 : Nat} {L L1 : gLs} {st st1 : List Value} {m m1 : gM} {cells slots : Nat}
    (hs : m1.2.2.2.1 = m.2.2.2.1)
    (hw : ∀ (Q1 : State → Prop) (H : Heap) (locs : List Loc) (ls : Array Slot), g_Ls X ls nL L → g_W X m H → va_S (g_A X) s.heap H locs →
      (∀ (H1 : Heap) (locs1 : List Loc) (ls1 : Array Slot), g_Ls X ls1 nL L1 → g_W X m1 H1 → va_S (g_A X) s.heap H1 locs1 → W p l e R s mid args below meth c H1 locs1 cells slots Q1 (F0 mid pc1 ls1 (st1.map (g_cv X.2.2.1 X.2.2.2.1)))) →
      W p l e R s mid args below meth c H locs cells slots Q1 (F0 mid pc ls (st.map (g_cv X.2.2.1 X.2.2.2.1))))
    (h : g_G X p l e R s mid args below meth c Q nL o pc1 L1 st1 m1 cells slots) : g_G X p l e R s mid args below meth c Q nL o pc L st m cells slots := by
  obtain ⟨mc, ms, h1, h2, h3, h4, h5⟩ := h
  rw [hs] at h3 h4
  exact ⟨mc, ms, h1, h2, h3, h4, fun a b H locs ls hL hW hS => hw _ H locs ls hL hW hS fun H1 locs1 ls1 k1 k2 k3 => h5 a b H1 locs1 ls1 k1 k2 k3⟩
/-- a row that touches the stack alone -/
theorem g_G.pure {pc pc1 : Nat} {L : gLs} {st st1 : List Value} {m : gM} {cells slots : Nat}
    (hw : ∀ (Q1 : State → Prop) (H : Heap) (locs : List Loc) (ls : Array Slot), g_Ls X ls nL L → g_W X m H → va_S (g_A X) s.heap H locs →
      W p l e R s mid args below meth c H locs cells slots Q1 (F0 mid pc1 ls (st1.map (g_cv X.2.2.1 X.2.2.2.1))) →
      W p l e R s mid args below meth c H locs cells slots Q1 (F0 mid pc ls (st.map (g_cv X.2.2.1 X.2.2.2.1))))
    (h : g_G X p l e R s mid args below meth c Q nL o pc1 L st1 m cells slots) : g_G X p l e R s mid args below meth c Q nL o pc L st m cells slots :=
  g_G.step rfl (fun Q1 H locs ls hL hW hS kk => hw Q1 H locs ls hL hW hS (kk H locs ls hL hW hS)) h
theorem g_bo {pc len : Nat} {ins : Instr} {a b c0 : Nat} (h : g_okD bytes (pc, ins, len, a, b, c0) = true) : decode bytes pc = .ok (ins, len) := by
  simp only [g_okD, Bool.and_eq_true, decide_eq_true_eq] at h
  exact h.1
theorem g_ln {pc len : Nat} {ins : Instr} {a b c0 : Nat} (h : g_okD bytes (pc, ins, len, a, b, c0) = true) : match ins with
  | .tableswitch .. => True
  | i => g_len i = len := by
  simp only [g_okD, Bool.and_eq_true] at h
  have h := h.2
  cases ins <;> first | trivial | exact Nat.eq_of_beq_eq_true h
theorem g_b1_inv {st : List Value} {f : Int32 → List Value → gRs} {r : Option Value × gM} (h : g_b1 st f = some r) : ∃ x st1, st = .int x :: st1 ∧ f x st1 = some r := by
  unfold g_b1 at h
  split at h
  · exact ⟨_, _, rfl, h⟩
  · cases h
theorem g_b2_inv {st : List Value} {f : Int32 → Int32 → List Value → gRs} {r : Option Value × gM} (h : g_b2 st f = some r) : ∃ x y st1, st = .int y :: .int x :: st1 ∧ f x y st1 = some r := by
  unfold g_b2 at h
  split at h
  · exact ⟨_, _, _, rfl, h⟩
  · cases h
theorem g_l1_inv {st : List Value} {f : Int64 → List Value → gRs} {r : Option Value × gM} (h : g_l1 st f = some r) : ∃ x st1, st = .long x :: st1 ∧ f x st1 = some r := by
  unfold g_l1 at h
  split at h
  · exact ⟨_, _, rfl, h⟩
  · cases h
theorem g_l2_inv {st : List Value} {f : Int64 → Int64 → List Value → gRs} {r : Option Value × gM} (h : g_l2 st f = some r) : ∃ x y st1, st = .long y :: .long x :: st1 ∧ f x y st1 = some r := by
  unfold g_l2 at h
  split at h
  · exact ⟨_, _, _, rfl, h⟩
  · cases h
theorem g_il_inv {st : List Value} {f : Int64 → Int32 → List Value → gRs} {r : Option Value × gM} (h : g_il st f = some r) : ∃ x y st1, st = .int y :: .long x :: st1 ∧ f x y st1 = some r := by
  unfold g_il at h
  split at h
  · exact ⟨_, _, _, rfl, h⟩
  · cases h
theorem g_ai_inv {st : List Value} {f : Nat → Int32 → List Value → gRs} {r : Option Value × gM} (h : g_ai st f = some r) : ∃ a i st1, st = .int i :: .ref a :: st1 ∧ f a i st1 = some r := by
  unfold g_ai at h
  split at h
  · exact ⟨_, _, _, rfl, h⟩
  · cases h
theorem g_aii_inv {st : List Value} {f : Nat → Int32 → Int32 → List Value → gRs} {r : Option Value × gM} (h : g_aii st f = some r) : ∃ a i x st1, st = .int x :: .int i :: .ref a :: st1 ∧ f a i x st1 = some r := by
  unfold g_aii at h
  split at h
  · exact ⟨_, _, _, _, rfl, h⟩
  · cases h
theorem g_ail_inv {st : List Value} {f : Nat → Int32 → Int64 → List Value → gRs} {r : Option Value × gM} (h : g_ail st f = some r) : ∃ a i x st1, st = .long x :: .int i :: .ref a :: st1 ∧ f a i x st1 = some r := by
  unfold g_ail at h
  split at h
  · exact ⟨_, _, _, _, rfl, h⟩
  · cases h
theorem g_a1_inv {st : List Value} {f : Nat → List Value → gRs} {r : Option Value × gM} (h : g_a1 st f = some r) : ∃ a st1, st = .ref a :: st1 ∧ f a st1 = some r := by
  unfold g_a1 at h
  split at h
  · exact ⟨_, _, rfl, h⟩
  · cases h
theorem g_chk_inv {i : Int32} {n : Nat} {k : gRs} {r : Option Value × gM} (h : g_chk i n k = some r) : vp_in i n ∧ k = some r := by
  unfold g_chk at h
  split at h
  · cases h
  · exact ⟨by assumption, h⟩
theorem g_cond_inv {b : Bool} {k : gRs} {r : Option Value × gM} (h : (bif b then k else none) = some r) : b = true ∧ k = some r := by
  cases b
  · cases h
  · exact ⟨rfl, h⟩
theorem g_ite_inv {q : Prop} [Decidable q] {k : gRs} {r : Option Value × gM} (h : (if q then none else k) = some r) : ¬ q ∧ k = some r := by
  split at h
  · cases h
  · exact ⟨by assumption, h⟩
end SIM

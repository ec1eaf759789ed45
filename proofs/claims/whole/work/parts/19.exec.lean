section EXEC
variable {p : Program} {l : Launch} {e : Env} {R : Room} {s : State} {mid : MethodId} {args : Array Value} {below : List Frame} {meth : Method} {c : Code} {Q : Nat → Nat → State → Prop}
variable {X : gX} {on nL d : Nat} {ini : Bool} {bytes : ByteArray} {o : Option Value × gM} {ret : Option FieldType} {T : Nat → Option gMD} {fc : gF}
def g_pc (cur : List gCE) : Nat := match cur with
  | [] => 0
  | e :: _ => e.1
theorem g_Ctx_xa {n : Nat} {ad : Nat → Nat} (hF : g_Fam X n ad) (hc : g_Ctx X p s args mid meth c R on ini bytes nL d) : g_Ctx (g_xa X ad) p s args mid meth c R on ini bytes nL d := by
  obtain ⟨h1, h2, h3, h4, h5, h6, h7, h8⟩ := hc
  exact ⟨h1, h2, h3, h4, h5, h6, g_Kc_xa hF h7, h8⟩
theorem g_find_spec {jt : List (Nat × List gCE)} {t : Nat} : g_find jt t = [] ∨ ∃ q ∈ jt, q.1 = t ∧ g_find jt t = q.2 := by
  induction jt with
  | nil => exact Or.inl rfl
  | cons q l ih =>
    unfold g_find
    cases h : Nat.beq q.1 t with
    | true => exact Or.inr ⟨q, List.mem_cons_self, Nat.eq_of_beq_eq_true h, rfl⟩
    | false =>
      rcases ih with h | ⟨q2, h1, h2⟩
      · exact Or.inl h
      · exact Or.inr ⟨q2, List.mem_cons_of_mem _ h1, h2⟩
theorem g_run_zero {C : gC} {jt : List (Nat × List gCE)} {cur : List gCE} {L : gLs} {st : List Value} {m : gM} : g_run C fc jt 0 cur L st m = none := rfl
theorem g_run_nil {C : gC} {jt : List (Nat × List gCE)} {n : Nat} {L : gLs} {st : List Value} {m : gM} : g_run C fc jt n [] L st m = none := by cases n <;> rfl
theorem g_run_succ {C : gC} {jt : List (Nat × List gCE)} {n : Nat} {ce : gCE} {nx : List gCE} {L : gLs} {st : List Value} {m : gM} : g_run C fc jt (n + 1) (ce :: nx) L st m = g_op C fc ce L st m fun j L st m => match j with
      | none => g_run C fc jt n nx L st m
      | some t => g_run C fc jt n (g_find jt t) L st m := rfl
/-- a run of a method's rows -/
theorem g_sim_run {n0 : Nat} (hT : g_TOk T) (hcall : ∀ X1 : gX, X1.2.2.2 = X.2.2.2 → ∀ i As m v m1, fc i As m = some (v, m1) → g_Con X1 T l d i As m (v, m1)) {jt : List (Nat × List gCE)}
    (hjt : (jt.all fun q => g_hd q.1 q.2 && g_okC on ini bytes ret q.2) = true) :
    ∀ (n : Nat) (cur : List gCE) (L : gLs) (st : List Value) (m : gM) (ad : Nat → Nat), g_Ctx X p s args mid meth c R on ini bytes nL (d + 1) → g_Fam X n0 ad → n0 ≤ m.2.2.2.1.length →
      (∀ ad, g_Fam X n0 ad → g_Ret (g_xa X ad) p l e R s mid args below meth c Q bytes ret o) →
      g_okC on ini bytes ret cur = true → g_run X.2.2.2.2.2.1 fc jt n cur L st m = some o → ∀ cells slots, g_G (g_xa X ad) p l e R s mid args below meth c Q nL o (g_pc cur) L st m cells slots := by
  intro n
  induction n with
  | zero =>
    intro cur L st m ad _ _ _ _ _ h
    rw [g_run_zero] at h
    cases h
  | succ n ih =>
    intro cur L st m ad hc hF hn hret hok h cells slots
    cases cur with
    | nil => rw [g_run_nil] at h; cases h
    | cons ce nx =>
      rw [g_run_succ] at h
      simp only [g_okC, Bool.and_eq_true] at hok
      obtain ⟨hD, hI, hnx, hoknx⟩ := hok
      have next : ∀ (ad1 : Nat → Nat) (j : Option Nat) (L : gLs) (st : List Value) (m1 : gM), g_Fam X n0 ad1 → n0 ≤ m1.2.2.2.1.length → (match j with
          | none => g_run X.2.2.2.2.2.1 fc jt n nx L st m1
          | some t => g_run X.2.2.2.2.2.1 fc jt n (g_find jt t) L st m1) = some o → ∀ cells slots, g_G (g_xa X ad1) p l e R s mid args below meth c Q nL o (match j with
          | none => ce.1 + ce.2.2.1
          | some t => t) L st m1 cells slots := by
        intro ad1 j L st m1 hF1 hn1 h cells slots
        cases j with
        | none =>
          cases nx with
          | nil => rw [g_run_nil] at h; cases h
          | cons e2 nx2 =>
            have e1 : e2.1 = ce.1 + ce.2.2.1 := Nat.eq_of_beq_eq_true hnx
            have := ih (e2 :: nx2) L st m1 ad1 hc hF1 hn1 hret hoknx h cells slots
            show g_G (g_xa X ad1) p l e R s mid args below meth c Q nL o (ce.1 + ce.2.2.1) L st m1 cells slots
            rw [← e1]
            exact this
        | some t =>
          have h : g_run X.2.2.2.2.2.1 fc jt n (g_find jt t) L st m1 = some o := h
          rcases g_find_spec (jt := jt) (t := t) with h0 | ⟨q, hq, hqt, hqe⟩
          · rw [h0, g_run_nil] at h; cases h
          · rw [hqe] at h
            have hq2 := List.all_eq_true.mp hjt q hq
            simp only [Bool.and_eq_true] at hq2
            have := ih q.2 L st m1 ad1 hc hF1 hn1 hret hq2.2 h cells slots
            have e1 : g_pc q.2 = t := by
              cases hz : q.2 with
              | nil => rw [hz, g_run_nil] at h; cases h
              | cons e3 nx3 =>
                rw [hz] at hq2
                exact (Nat.eq_of_beq_eq_true hq2.1).trans hqt
            rw [e1] at this
            exact this
      obtain ⟨pc, ins, len, a, b, c0⟩ := ce
      exact g_o_any (X := g_xa X ad) (g_Ctx_xa hF hc) hT (hcall _ rfl) (hret ad hF) hD hI (fun ad2 hF2 j L st m1 hm h cells slots => next ad2 j L st m1 (hF.trans hn hF2) (Nat.le_trans hn hm) h cells slots)
        (fun j L st m1 hm h cells slots => next ad j L st m1 hF (by rw [hm]; exact hn) h cells slots) h cells slots
/-- a method's own end -/
theorem g_ret_own {n0 : Nat} {ad : Nat → Nat} (hF : g_Fam X n0 ad) (hx : p.tables.exec = Jvm.exec) (hb : c.code = bytes) (hr : meth.sig.returnType = ret) (hlocks : meth.locks = false) :
    g_Ret (g_xa X ad) p l e R s mid args below meth c (fun mc ms => MQ below (g_Qc X n0 o) args s mc ms (g_A X)) bytes ret o := by
  intro pc m H locs ls cells slots hW hS
  have post : ∀ (t : State) (v : Option Value), t.heap = H → o = (v, m) → g_Qc X n0 o args s (.returned (v.map (g_cv ad X.2.2.2.1))) t := by
    intro t v ht ho
    subst ho
    exact ⟨ad, hF, ⟨rfl, by rw [ht]; exact hW⟩, hS.F ht⟩
  refine ⟨fun x rt hd h1 h2 _ ho => ?_, fun x hd h1 ho => ?_, fun hd h1 ho => ?_⟩
  · exact W.zret hx hb (hr.trans h1) h2 (fun t ht _ => post t (some (.int x)) ht ho) hS.2.2 hd hlocks
  · exact W.lret hx hb (hr.trans h1) (fun t ht _ => post t (some (.long x)) ht ho) hS.2.2 hd hlocks
  · exact W.vret hx hb (hr.trans h1) (fun t ht _ => post t none ht ho) hS.2.2 hd hlocks
end EXEC

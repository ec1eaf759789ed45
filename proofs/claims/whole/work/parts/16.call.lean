section CALL
variable {p : Program} {l : Launch} {e : Env} {R : Room} {s : State} {mid : MethodId} {args : Array Value} {below : List Frame} {meth : Method} {c : Code} {Q : Nat → Nat → State → Prop}
variable {X : gX} {on nL d : Nat} {ini : Bool} {bytes : ByteArray} {o : Option Value × gM} {ret : Option FieldType} {pc len a b c0 : Nat} {ins : Instr} {k : gK} {L : gLs} {st : List Value} {m : gM} {H : Heap} {ad : Nat → Nat} {T : Nat → Option gMD}
theorem g_goes {locs : List Loc} {cells slots mc ms : Nat} {ls : Array Slot} {st0 rest : List Value} {Qa : State → Outcome → State → Prop} {Q1 : State → Prop} (hr : va_Run p l e R s mid args below meth c H locs cells slots mc ms (F0 mid pc ls st0) rest Qa (g_A X))
    (kk : ∀ (v : Option Value) (u t : State) (L : List Loc), u.heap = H → Qa u (.returned v) t → (∀ q ∈ L, g_A X q.base) → W p l e R s mid args below meth c t.heap (locs ++ L) (cells + mc) (slots + ms) Q1 (F0 mid (pc + 3) ls (v.toList ++ rest))) :
    W p l e R s mid args below meth c H locs cells slots Q1 (F0 mid pc ls st0) := by
  intro T hT Y
  obtain ⟨v, u, t, T', L, h0, Y', hL, e1, e2, hq, st⟩ := hr T hT Y
  obtain ⟨t2, a1, b1⟩ := kk v u t L h0 hq hL T' e1 Y'
  exact ⟨t2, st t2 a1, b1⟩
/-- the callee's beginning, out of the caller's world -/
theorem g_Pc_at {locs : List Loc} (hKn : g_Kn X s) (hKc : g_Kc X s s.heap) (hW : g_W X m H) (hS : va_S (g_A X) s.heap H locs) (As : List Value) : ∀ U : State, U.heap = H → s.WarmedH U.vm → g_Pc X As m (As.map (g_cv X.2.2.1 X.2.2.2.1)).toArray U := by
  intro U hU hw
  refine ⟨rfl, by rw [hU]; exact hW, g_Kn_warm hw hKn, ?_⟩
  rw [hU]
  exact g_Kc_to hw.alike (fun _ _ _ _ q => vk_R.warm hw q) (fun q h1 h2 => hS.2.1 q h1 h2) hS.1 hKc
theorem g_va_S {locs L1 : List Loc} {u t : State} (hS : va_S (g_A X) s.heap H locs) (hu : u.heap = H) (hF : va_F (g_A X) u t) (hL : ∀ q ∈ L1, g_A X q.base) : va_S (g_A X) s.heap t.heap (locs ++ L1) := by
  refine ⟨Nat.le_trans hS.1 (by rw [← hu]; exact hF.1), fun q h1 h2 => ?_, fun q hq => ?_⟩
  · rw [hF.2 q (by rw [hu]; exact Nat.lt_of_lt_of_le h1 hS.1) h2, hu]
    exact hS.2.1 q h1 h2
  · rcases List.mem_append.mp hq with h | h
    · exact hS.2.2 q h
    · exact hL q h
/-- a call, in the shape of the plain machine's: the row 'hrow' goes from the caller to 'va_Run' -/
theorem g_Gcall {As : List Value} {st0 st1 : List Value} {cells slots : Nat} {v : Option Value} {m1 : gM}
    (hcon : g_Con X T l d a As m (v, m1))
    (hwf : X.2.2.2.2.2.1.2.2.2 ≠ 0 → g_wfL m.2.2.2.1.length L = true ∧ g_wfS m.2.2.2.1.length st1 = true)
    (hrow : ∀ (md : gMD) (mc ms : Nat) (H : Heap) (locs : List Loc) (ls : Array Slot), T a = some md → Met l md.1 (Cond.code md.1 md.2.1 md.2.2.1 md.2.2.2.1 :: g_tw) (g_rm d mc ms) (g_Pc X As m) (g_Qc X m.2.2.2.1.length (v, m1)) mc ms (g_A X) →
      cells + mc ≤ R.cells → slots + ms ≤ R.slots → g_Ls X ls nL L → g_W X m H → va_S (g_A X) s.heap H locs →
      va_Run p l e R s mid args below meth c H locs cells slots mc ms (F0 mid pc ls (st0.map (g_cv X.2.2.1 X.2.2.2.1))) (st1.map (g_cv X.2.2.1 X.2.2.2.1)) (g_Qc X m.2.2.2.1.length (v, m1) (As.map (g_cv X.2.2.1 X.2.2.2.1)).toArray) (g_A X))
    (hk : ∀ ad, g_Fam X m.2.2.2.1.length ad → ∀ cells slots, g_G (g_xa X ad) p l e R s mid args below meth c Q nL o (pc + 3) L (v.toList ++ st1) m1 cells slots) :
    g_G X p l e R s mid args below meth c Q nL o pc L st0 m cells slots := by
  obtain ⟨md, hmd, mc0, ms0, e1, e2, hM⟩ := hcon
  obtain ⟨mc, ms, h1, h2, h3, h4, -⟩ := hk X.2.2.1 g_Fam.rf (cells + mc0) (slots + ms0)
  have e1 : m.2.2.2.1.length + mc0 = m1.2.2.2.1.length := e1
  have e2 : g_slots m.2.2.2.1 + ms0 = g_slots m1.2.2.2.1 := e2
  refine ⟨mc, ms, by omega, by omega, by omega, by omega, fun hc1 hs1 H locs ls hL hW hS => ?_⟩
  refine g_goes (hrow md mc0 ms0 H locs ls hmd hM (by omega) (by omega) hL hW hS) fun v1 u t L1 hu hq hL1 => ?_
  obtain ⟨ad, hF, ⟨hv, hW1⟩, hva⟩ := hq
  have hv : v1 = v.map (g_cv ad X.2.2.2.1) := by injection hv
  obtain ⟨mc', ms', k1, k2, k3, k4, k5⟩ := hk ad hF (cells + mc0) (slots + ms0)
  obtain rfl : mc' = mc := by omega
  obtain rfl : ms' = ms := by omega
  have hL2 : g_Ls (g_xa X ad) ls nL L ∧ st1.map (g_cv ad X.2.2.2.1) = st1.map (g_cv X.2.2.1 X.2.2.2.1) := by
    by_cases h0 : X.2.2.2.2.2.1.2.2.2 = 0
    · rw [hF.2 h0]
      exact ⟨hL, rfl⟩
    · exact ⟨g_Ls_xa hF (hwf h0).1 hL, g_wfS_cv hF _ (hwf h0).2⟩
  have hw := k5 hc1 hs1 t.heap (locs ++ L1) ls hL2.1 hW1 (g_va_S hS hu hva hL1)
  have e3 : (v.toList ++ st1).map (g_cv (g_xa X ad).2.2.1 (g_xa X ad).2.2.2.1) = v1.toList ++ st1.map (g_cv X.2.2.1 X.2.2.2.1) := by
    show (v.toList ++ st1).map (g_cv ad X.2.2.2.1) = _
    rw [List.map_append, hL2.2, hv]
    cases v <;> rfl
  rw [e3] at hw
  exact hw
theorem g_tw_good : GoodIn g_tw g_tw := fun w hw => ⟨hw, good_of_word (List.mem_filter.mp hw).2⟩
theorem g_code_good {y : MethodName} {by1 : ByteArray} {mx : Nat} {rt : Option FieldType} (h : Cond.code y by1 mx rt ∈ g_tw) : GoodIn g_tw (Cond.code y by1 mx rt :: g_tw) := by
  intro w hw
  rcases List.mem_cons.mp hw with rfl | hw
  · exact g_tw_good _ h
  · exact g_tw_good _ hw
theorem g_ml_of {on ix a b c0 : Nat} (h : (g_ml.any fun r => g_at2 on ix r && (Nat.beq r.2.2.1 a && (Nat.beq r.2.2.2.1 b && Nat.beq r.2.2.2.2.1 c0))) = true) :
    ∃ r ∈ g_ml, g_mlc r = true ∧ r.1 = on ∧ r.2.1 = ix ∧ r.2.2.1 = a ∧ r.2.2.2.1 = b ∧ r.2.2.2.2.1 = c0 := by
  obtain ⟨r, hr, h1⟩ := List.any_eq_true.mp h
  simp only [g_at2, Bool.and_eq_true] at h1
  exact ⟨r, hr, g_ml_ok r hr, Nat.eq_of_beq_eq_true h1.1.1, Nat.eq_of_beq_eq_true h1.1.2, Nat.eq_of_beq_eq_true h1.2.1, Nat.eq_of_beq_eq_true h1.2.2.1, Nat.eq_of_beq_eq_true h1.2.2.2⟩
theorem g_n_in {h : Nat} {w : Cond} (q : g_n h w = true) : w ∈ lw_tbl := List.mem_of_getElem? (of_decide_eq_true q)
/-- what a row of calls gives, by its kind -/
theorem g_mlc_of {r : gML} (h : g_mlc r = true) :
    Cond.initialized (g_y r.2.2.1).cls ∈ g_tw ∧ ((g_y r.2.2.1).cls ≠ "java/lang/invoke/MethodHandle" ∧ (g_y r.2.2.1).cls ≠ "java/lang/invoke/VarHandle") ∧ (parseMethodDescriptor (g_y r.2.2.1).desc).map (fun d => d.parameters.length) = some r.2.2.2.1 ∧
    ((r.2.2.2.2.1 % 16 = 0 ∧ Cond.methodLink (g_on r.1) r.2.1 (g_y r.2.2.1) ∈ g_tw ∧ Cond.instanceMethod (g_y r.2.2.1) ∈ g_tw ∧ Cond.selects (g_y r.2.2.1).cls (g_y r.2.2.1) (g_y r.2.2.1) ∈ g_tw ∧ (g_y r.2.2.1).cls = g_on (r.2.2.2.2.1 / 16)) ∨
     (r.2.2.2.2.1 % 16 = 2 ∧ Cond.methodLink (g_on r.1) r.2.1 (g_y r.2.2.1) ∈ g_tw ∧ Cond.static (g_y r.2.2.1) ∈ g_tw) ∨
     (r.2.2.2.2.1 % 16 = 3 ∧ Cond.methodLinkNest (g_on r.1) r.2.1 (g_y r.2.2.1) "GutterNine" ∈ lw_tbl ∧ Cond.static (g_y r.2.2.1) ∈ g_tw) ∨
     (r.2.2.2.2.1 % 16 = 4 ∧ Cond.methodLink (g_on r.1) r.2.1 (g_y r.2.2.1) ∈ g_tw ∧ Cond.instanceMethod (g_y r.2.2.1) ∈ g_tw ∧ (g_y r.2.2.1).name = "<init>") ∨
     (r.2.2.2.2.1 % 16 = 5 ∧ Cond.methodLinkNest (g_on r.1) r.2.1 (g_y r.2.2.1) "GutterNine" ∈ lw_tbl ∧ Cond.instanceMethod (g_y r.2.2.1) ∈ g_tw ∧ (g_y r.2.2.1).name = "<init>")) := by
  unfold g_mlc at h
  simp only [Bool.and_eq_true, decide_eq_true_eq] at h
  obtain ⟨⟨⟨⟨h1, h2⟩, h3⟩, h4⟩, h5⟩ := h
  refine ⟨g_w_in h2, ⟨h3, h4⟩, h5, ?_⟩
  split at h1
  · rename_i hk
    simp only [Bool.and_eq_true, decide_eq_true_eq] at h1
    exact Or.inl ⟨hk, g_w_in h1.1.1.1, g_w_in h1.1.1.2, g_w_in h1.1.2, h1.2⟩
  · rename_i hk
    simp only [Bool.and_eq_true] at h1
    exact Or.inr (Or.inl ⟨hk, g_w_in h1.1, g_w_in h1.2⟩)
  · rename_i hk
    simp only [Bool.and_eq_true] at h1
    exact Or.inr (Or.inr (Or.inl ⟨hk, g_n_in h1.1, g_w_in h1.2⟩))
  · rename_i hk
    simp only [Bool.and_eq_true, decide_eq_true_eq] at h1
    exact Or.inr (Or.inr (Or.inr (Or.inl ⟨hk, g_w_in h1.1.1, g_w_in h1.1.2, h1.2⟩)))
  · rename_i hk
    simp only [Bool.and_eq_true, decide_eq_true_eq] at h1
    exact Or.inr (Or.inr (Or.inr (Or.inr ⟨hk, g_n_in h1.1.1, g_w_in h1.1.2, h1.2⟩)))
  · cases h1
end CALL

/-! The world at the law's entry, whole. -/
def yk_a (b ta td : Nat) (aK : Nat → Nat × Nat) (n : Nat) : Nat := if n = 2000 then b else if n = 1900 then b else if n < 1010 then (if n = 1001 then td else ta) else if n % 2 = 0 then (aK ((n - 1010) / 2)).1 else (aK ((n - 1010) / 2)).2
section YKWORLD
variable {s : State} {args : Array Value} {b L ta td : Nat} {xs : Nat → Int32} {aK : Nat → Nat × Nat}
theorem yk_a0 {k : Nat} (h : k < 10) : yk_a b ta td aK (1000 + k) = if decide (k = 1) then td else ta := by
  unfold yk_a
  rw [if_neg (by omega), if_neg (by omega), if_pos (by omega)]
  by_cases g : k = 1
  · rw [if_pos (by omega), if_pos (by simp [g])]
  · rw [if_neg (by omega), if_neg (by simp [g])]
theorem yk_a1 {i : Nat} (h : i < 36) : yk_a b ta td aK (1000 + (10 + 2 * i)) = (aK i).1 := by
  unfold yk_a
  rw [if_neg (by omega), if_neg (by omega), if_neg (by omega), if_pos (by omega), show (1000 + (10 + 2 * i) - 1010) / 2 = i by omega]
theorem yk_a2 {i : Nat} (h : i < 36) : yk_a b ta td aK (1000 + (11 + 2 * i)) = (aK i).2 := by
  unfold yk_a
  rw [if_neg (by omega), if_neg (by omega), if_neg (by omega), if_neg (by omega), show (1000 + (11 + 2 * i) - 1010) / 2 = i by omega]
theorem yk_size {t : Term} {a : Nat} {cell : Cell} (ht : t.eval args s none [] s = some (.ref a)) (hat : s.arrayAt? a = some cell) (hl : (Term.length t).eval args s none [] s = some (.int (Int32.ofNat 9))) : cell.slots.size = 9 := by
  by_cases hz : cell.slots.size < 2 ^ 31
  · have e : (Term.length t).eval args s none [] s = some (.int cell.slots.size.toInt32) := by
      simp only [Term.eval, ht, hat, Option.bind_eq_bind, Option.bind_some, if_pos hz]
      rfl
    rw [e] at hl
    have h1 : Int32.ofNat cell.slots.size = Int32.ofNat 9 := Value.int.inj (Option.some.inj hl)
    have h2 := congrArg Int32.toInt h1
    rw [yl_nt (by omega), yl_nt (by omega)] at h2
    omega
  · have e : (Term.length t).eval args s none [] s = none := by
      simp only [Term.eval, ht, hat, Option.bind_eq_bind, Option.bind_some, if_neg hz]
    rw [e] at hl
    cases hl
theorem yk_tw (hts : ∀ w ∈ lw_tbl, w.before args s = true) : ∀ w ∈ g_tw, w.before args s = true := fun w hw => hts w (List.mem_filter.mp hw).1
theorem yk_strs (hs : ∀ w ∈ yk_fl, w.before args s = true) : ∀ i : Nat, ∃ q : Nat × Nat, i < 36 → (yk_ts i).eval args s none [] s = some (.ref q.1) ∧ va_O "java/lang/String" q.1 (fun q => s.heap.size ≤ q) s s.heap ∧ va_OF "java/lang/String" "coder" "B" (.int 0) q.1 (fun q => s.heap.size ≤ q) s s.heap ∧ va_OF "java/lang/String" "value" "[B" (.ref q.2) q.1 (fun q => s.heap.size ≤ q) s s.heap ∧ va_T .byte q.2 (yk_ln i) (fun j => .int (yk_by i j)) (fun q => s.heap.size ≤ q) s s.heap := by
  intro i
  have hA : ∀ a : Nat, a < s.heap.size → ¬ (s.heap.size ≤ a) := fun a h => Nat.not_le.mpr h
  by_cases hi : i < 36
  · have hex := hs _ (yk_in _ (yk_fs1 ⟨i, hi⟩))
    obtain ⟨a, c, cA, kA, q1, q2, q3, q4, q5, q6, -⟩ := Cond.exactly_spec (args := args) (first := s) (o := none) (s := s) (idx := []) (t := yk_ts i) (cls := "java/lang/String") hex
    obtain ⟨t, ht, hT⟩ := va_Tof (f := fun j => .int (yk_by i j)) (A := fun q => s.heap.size ≤ q) (yk_ln31 ⟨i, hi⟩) (hs _ (yk_in _ (yk_fs3 ⟨i, hi⟩))) (va_eqt (hs _ (yk_in _ (yk_fs4 ⟨i, hi⟩)))) (fun j hj => va_eqt (hs _ (yk_in _ (yk_fs5 ⟨i, hi⟩ ⟨j, hj⟩)))) hA
    exact ⟨(a, t), fun _ => ⟨q1, va_Oof hex q1 hA, vk_OFof q1 (va_eqt (hs _ (yk_in _ (yk_fs2 ⟨i, hi⟩)))) hA, vk_OFof q1 ht hA, hT⟩⟩
  · exact ⟨(0, 0), fun h => absurd h hi⟩
theorem yk_slip (hs : ∀ w ∈ yk_fl, w.before args s = true) (d : Bool) : ∃ t : Nat, (yk_sd d).eval args s none [] s = some (.ref t) ∧ va_T .int t 9 (fun j => .int (yk_sv d j)) (fun q => s.heap.size ≤ q) s s.heap ∧ va_X t 9 (yk_sv d) s s.heap ∧ t < s.heap.size := by
  have hA : ∀ a : Nat, a < s.heap.size → ¬ (s.heap.size ≤ a) := fun a h => Nat.not_le.mpr h
  have hl := va_eqt (hs _ (yk_in _ (yk_fd1 d).2))
  obtain ⟨t, ht, hT⟩ := va_Tof (f := fun j => .int (yk_sv d j)) (A := fun q => s.heap.size ≤ q) (by decide) (hs _ (yk_in _ (yk_fd1 d).1)) hl (fun j hj => va_eqt (hs _ (yk_in _ (yk_fd2 d ⟨j, hj⟩)))) hA
  obtain ⟨t2, cell2, g1, g2, -⟩ := Term.length_spec hl
  cases ht.symm.trans g1
  obtain ⟨hcell, -, -, -⟩ := State.arrayAt?_spec g2
  have hz := yk_size ht g2 hl
  refine ⟨t, ht, hT, ?_, (Array.getElem?_eq_some_iff.mp hcell).1⟩
  obtain ⟨c1, h1, h2, h3, h4, h5, h6, h7⟩ := hT
  have e := Option.some.inj (h1.symm.trans hcell)
  subst e
  exact ⟨_, h1, h2, h3, hz, h6⟩
theorem yk_arr (hts : ∀ w ∈ lw_tbl, w.before args s = true) : ∀ t : Nat, ∃ cA : ClassId, t < 4 → ArrOfT s cA (yk_ty (t + 1)) ∧ s.vm.findClass ("[" ++ (yk_ty (t + 1)).toString) = some cA := by
  intro t
  by_cases ht : t < 4
  · obtain ⟨c, k, comp, h1, h2, h3⟩ := Cond.arrayClass_spec (args := args) (first := s) (o := none) (s := s) (idx := []) (hts _ (yk_fa ⟨t, ht⟩))
    exact ⟨c, fun _ => ⟨fun n z => ⟨fun k h => (by cases h), k, h2, comp, h3⟩, h1⟩⟩
  · exact ⟨default, fun h => absurd h ht⟩
theorem yk_clss (hts : ∀ w ∈ lw_tbl, w.before args s = true) : ∀ c : Nat, ∃ p : ClassId × (Nat → Nat), c < 13 → u_Kn s (g_on c) (g_fd c) (g_nf c) p.1 p.2 := by
  intro c
  by_cases hc : c < 13
  · obtain ⟨cC, iS, h⟩ := u_known (ws := g_tw) (C := g_on c) (T := g_fd c) (N := g_nf c) (yk_tw hts) (g_lay_in hc) (hts _ (yk_fi ⟨c, hc⟩))
    exact ⟨(cC, iS), fun _ => h⟩
  · exact ⟨(default, fun _ => 0), fun h => absurd h hc⟩
theorem yk_clsL : g_cls.length = 13 := rfl
theorem yk_world (hts : ∀ w ∈ lw_tbl, w.before args s = true) (hs : ∀ w ∈ yk_fl, w.before args s = true) (hX : va_X b L xs s s.heap) (hb : b < s.heap.size) :
    ∃ X : gX, g_Kn X s ∧ g_Kc X s s.heap ∧ zl_Z X s s.heap ∧ X.2.2.1 1900 = b ∧ X.2.2.1 2000 = b ∧ X.2.2.2.2.1 = s.heap.size ∧ X.2.2.2.2.2 = (g_C 0, xs, L) ∧ va_X (X.2.2.1 1000) 9 (yk_sv false) s s.heap ∧ X.2.2.1 1000 < s.heap.size := by
  have hA : ∀ a : Nat, a < s.heap.size → ¬ (s.heap.size ≤ a) := fun a h => Nat.not_le.mpr h
  obtain ⟨aK, haK⟩ := Classical.axiomOfChoice (yk_strs (args := args) hs)
  obtain ⟨fc, hfc⟩ := Classical.axiomOfChoice (yk_arr (args := args) hts)
  obtain ⟨fk, hfk⟩ := Classical.axiomOfChoice (yk_clss (args := args) hts)
  obtain ⟨ta, eta, hTa, hXa, hla⟩ := yk_slip hs false
  obtain ⟨td, etd, hTd, -, -⟩ := yk_slip hs true
  obtain ⟨v, hv, hvr⟩ := Cond.isRef_spec (args := args) (first := s) (o := none) (s := s) (idx := []) (hs _ (yk_in 5 yk_fo.2.1))
  have hvv : v = .null ∨ ∃ a, v = .ref a := by
    cases v <;> first | exact Or.inl rfl | exact Or.inr ⟨_, rfl⟩ | cases hvr
  have e0 : yk_a b ta td aK 1000 = ta := by
    have := yk_a0 (b := b) (ta := ta) (td := td) (aK := aK) (k := 0) (by decide)
    rw [Nat.add_zero] at this
    exact this
  have e1 : yk_a b ta td aK 1001 = td := yk_a0 (b := b) (ta := ta) (td := td) (aK := aK) (k := 1) (by decide)
  refine ⟨((fun c => (fk c).1, fun c => (fk c).2), fun t => fc (t - 1), yk_a b ta td aK, v, s.heap.size, g_C 0, xs, L), ⟨⟨fun c q hq => ?_, fun k q hk => ?_⟩, fun w hw hn => ?_⟩, ⟨fun k q hk => ?_, ?_, ?_, ?_, ?_, fun i q hi => ?_, ⟨?_, ?_⟩, hvv, Nat.le_refl _⟩, ⟨?_, ?_, fun w hw => ?_⟩, rfl, rfl, rfl, rfl, ?_, ?_⟩
  · have hc : c < 13 := (List.getElem?_eq_some_iff.mp hq).1
    rw [g_cls_at c hc] at hq
    cases hq
    exact hfk c hc
  · match k with
    | 0 => cases hk; exact hfc 0 (by decide)
    | 1 => cases hk; exact hfc 1 (by decide)
    | 2 => cases hk; exact hfc 2 (by decide)
    | 3 => cases hk; exact hfc 3 (by decide)
    | k + 4 => cases hk
  · refine va_Nw.of ?_ (hts w hw)
    cases w <;> first | rfl | (exact absurd hn (by simp [g_isN]))
  · have hk : g_csh[k]? = some q := hk
    have hl : k < 82 := by
      have := (List.getElem?_eq_some_iff.mp hk).1
      rw [yk_cs.2.2] at this
      exact this
    by_cases h10 : k < 10
    · rw [yk_cs.1 ⟨k, h10⟩] at hk
      cases hk
      show va_T .int (yk_a b ta td aK (1000 + k)) 9 (fun j => .int ((g_C 0).2.1 (1000 + k) j)) (fun q => s.heap.size ≤ q) s s.heap
      rw [yk_a0 h10]
      have hc : ∀ d : Bool, ∀ t : Nat, decide (k = 1) = d → va_T .int t 9 (fun j => .int (yk_sv d j)) (fun q => s.heap.size ≤ q) s s.heap → va_T .int t 9 (fun j => .int ((g_C 0).2.1 (1000 + k) j)) (fun q => s.heap.size ≤ q) s s.heap := by
        intro d t hd hT
        obtain ⟨cell, h1, h2, h3, h4, h5, h6, h7⟩ := hT
        refine ⟨cell, h1, h2, h3, h4, h5, fun j hj => ?_, h7⟩
        rw [h6 j hj]
        have := yk_ci0 ⟨k, h10⟩ ⟨j, hj⟩
        have this : (g_C 0).2.1 (1000 + k) j = yk_sv (decide (k = 1)) j := this
        show some (Value.int (yk_sv d j)) = some (Value.int ((g_C 0).2.1 (1000 + k) j))
        rw [this, hd]
      by_cases g : k = 1
      · rw [if_pos (by simp [g])]
        exact hc true td (by simp [g]) hTd
      · rw [if_neg (by simp [g])]
        exact hc false ta (by simp [g]) hTa
    · obtain ⟨i, hi | hi⟩ : ∃ i, k = 10 + 2 * i ∨ k = 11 + 2 * i := ⟨(k - 10) / 2, by omega⟩
      · subst hi
        have hi : i < 36 := by omega
        obtain ⟨g1, g2, g3, g4, g5⟩ := haK i hi
        rw [(yk_cs.2.1 ⟨i, hi⟩).1] at hk
        cases hk
        have c1 := yk_cr ⟨i, hi⟩
        refine ⟨rfl, ?_, ?_, c1.1, 1011 + 2 * i, c1.2, by omega, ?_⟩
        · show va_O _ (yk_a b ta td aK (1000 + (10 + 2 * i))) _ _ _
          rw [yk_a1 hi]
          exact g2
        · show va_OF _ _ _ _ (yk_a b ta td aK (1000 + (10 + 2 * i))) _ _ _
          rw [yk_a1 hi]
          exact g3
        · show va_OF _ _ _ (.ref (yk_a b ta td aK (1011 + 2 * i))) (yk_a b ta td aK (1000 + (10 + 2 * i))) _ _ _
          rw [yk_a1 hi, show 1011 + 2 * i = 1000 + (11 + 2 * i) by omega, yk_a2 hi]
          exact g4
      · subst hi
        have hi : i < 36 := by omega
        obtain ⟨g1, g2, g3, g4, g5⟩ := haK i hi
        rw [(yk_cs.2.1 ⟨i, hi⟩).2] at hk
        cases hk
        show va_T .byte (yk_a b ta td aK (1000 + (11 + 2 * i))) (yk_ln i) (fun j => .int ((g_C 0).2.1 (1000 + (11 + 2 * i)) j)) (fun q => s.heap.size ≤ q) s s.heap
        rw [yk_a2 hi]
        obtain ⟨cell, h1, h2, h3, h4, h5, h6, h7⟩ := g5
        refine ⟨cell, h1, h2, h3, h4, h5, fun j hj => ?_, h7⟩
        rw [h6 j hj]
        have := yk_cb ⟨i, hi⟩ ⟨j, hj⟩
        have this : (g_C 0).2.1 (1000 + (11 + 2 * i)) j = yk_by i j := this
        show some (Value.int (yk_by i j)) = some (Value.int ((g_C 0).2.1 (1000 + (11 + 2 * i)) j))
        rw [this]
  · show va_Z "GutterNine" "SLIP_ASIDE" "[I" (.ref (yk_a b ta td aK 1000)) _ s s.heap
    rw [e0]
    exact va_Zref (hts _ (yk_fd3 false)) (hts _ yk_fw.2.2.2.2.2.2.2) eta hA
  · show va_Z "GutterNine" "SLIP_DOWN" "[I" (.ref (yk_a b ta td aK 1001)) _ s s.heap
    rw [e1]
    exact va_Zref (hts _ (yk_fd3 true)) (hts _ yk_fw.2.2.2.2.2.2.2) etd hA
  · exact va_Zof (hts _ yk_fw.1) (hts _ yk_fw.2.1) (va_eqt (hs _ (yk_in 4 yk_fo.1))) hA
  · exact va_Zof (hts _ yk_fw.2.2.1) (hts _ yk_fw.2.2.2.1) hv hA
  · have hl : i < 36 := by
      have := (List.getElem?_eq_some_iff.mp hi).1
      rw [yk_sl] at this
      exact this
    have eq : g_ss.getD i (0, 0) = q := by rw [List.getD_eq_getElem?_getD, hi]; rfl
    have h1 := hts _ (yk_fr ⟨i, hl⟩)
    have h2 := (haK i hl).1
    unfold yk_ts at h2
    have h1 : (Cond.stringRef (g_on (g_ss.getD i (0, 0)).1) (g_ss.getD i (0, 0)).2 (g_sx.getD i "")).before args s = true := h1
    rw [eq] at h1 h2
    show vk_R (g_on q.1) q.2 (g_sx.getD i "") (yk_a b ta td aK (1010 + 2 * i)) s
    rw [show 1010 + 2 * i = 1000 + (10 + 2 * i) by omega, yk_a1 hl]
    exact vk_R.of h1 h2
  · exact hX
  · exact hb
  · exact vx_Zqof (hts _ yk_fw.2.2.2.2.1) (hts _ yk_fw.2.2.2.2.2.2.1) (hs _ (yk_in 33 yk_fo.2.2.1)) hA
  · exact vx_Zqof (hts _ yk_fw.2.2.2.2.2.1) (hts _ yk_fw.2.2.2.2.2.2.1) (hs _ (yk_in 34 yk_fo.2.2.2)) hA
  · have h1 := hts w (zl_w3 w hw)
    simp only [zl_bad, List.mem_cons, List.not_mem_nil, or_false] at hw
    rcases hw with rfl | rfl | rfl | rfl <;> exact va_Nw.of rfl h1
  · show va_X (yk_a b ta td aK 1000) 9 _ s s.heap
    rw [e0]
    exact hXa
  · show yk_a b ta td aK 1000 < _
    rw [e0]
    exact hla
end YKWORLD

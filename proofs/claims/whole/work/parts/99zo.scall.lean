/-! The law's calls of its wrappers: by a contract of theirs, with what a throw costs counted. -/
abbrev yl_F : Type := Program × Launch × Env × Room × State × MethodId × Array Value × List Frame × Method × Code × (State → Prop)
def yl_QB (Z : State → Prop) (B : Nat) : Nat → Nat → State → Prop := fun mc ms t => mc + B ≤ 601024 ∧ ms + 6 * B ≤ 7293034 → Z t
abbrev yl_S (F : yl_F) (B : Nat) : yl_E := (F.1, F.2.1, F.2.2.1, F.2.2.2.1, F.2.2.2.2.1, F.2.2.2.2.2.1, F.2.2.2.2.2.2.1, F.2.2.2.2.2.2.2.1, F.2.2.2.2.2.2.2.2.1, F.2.2.2.2.2.2.2.2.2.1, yl_QB F.2.2.2.2.2.2.2.2.2.2 B)
section SCALL
variable {F : yl_F} {X : gX} {B n pc ix A a b c0 mL : Nat} {L : gLs} {st st1 As : List Value} {m m1 : gM} {k : Int32} {bytes : ByteArray} {hh : List (Nat × Nat × Nat × Nat)} {e2 : gCE} {nx : List gCE}
theorem yl_mono (h : yl_G (yl_S F B) X pc L st m) : yl_G (yl_S F (B + n)) X pc L st m := by
  intro cells slots
  obtain ⟨mc, ms, a1, a2, a3, a4, a5⟩ := h cells slots
  refine ⟨mc, ms, a1, a2, a3, a4, fun h1 h2 H locs ls hL hW hS => ?_⟩
  intro T hT Y
  obtain ⟨t, g1, g2⟩ := a5 h1 h2 H locs ls hL hW hS T hT Y
  exact ⟨t, g1, fun hb => g2 ⟨by omega, by omega⟩⟩
theorem yl_cwgood (h : Cond.codeWith (g_y A) bytes mL (some .int) hh ∈ g_tw) : GoodIn g_tw (Cond.codeWith (g_y A) bytes mL (some .int) hh :: g_tw) := by
  intro w hw
  rcases List.mem_cons.mp hw with rfl | hw
  · exact g_tw_good _ h
  · exact g_tw_good _ hw
theorem yl_scall (H : yl_H (yl_S F (B + n)) X 100) (hZ : zl_Z X F.2.2.2.2.1 F.2.2.2.2.1.heap) (hR : 2048 ≤ F.2.2.2.1.frames ∧ 601024 ≤ F.2.2.2.1.cells ∧ 7293034 ≤ F.2.2.2.1.slots ∧ 84000 ≤ F.2.2.2.1.locals)
    (hM : Met F.2.1 (g_y A) (Cond.codeWith (g_y A) bytes mL (some .int) hh :: g_tw) (g_rm 102 n (6 * n)) (zl_Pc X As m) (zl_Qw X m1 k) n (6 * n) (g_A X))
    (w0 : Cond.codeWith (g_y A) bytes mL (some .int) hh ∈ g_tw) (w1 : Cond.methodLink "GutterNineLaw" ix (g_y A) ∈ g_tw) (w2 : Cond.static (g_y A) ∈ g_tw) (w3 : Cond.initialized (g_y A).cls ∈ g_tw) (hmd : (g_y A).cls ≠ "java/lang/invoke/MethodHandle" ∧ (g_y A).cls ≠ "java/lang/invoke/VarHandle")
    (hp : (parseMethodDescriptor (g_y A).desc).map (fun d => d.parameters.length) = some As.length) (hmL : mL ≤ 100) (hdg : decode code pc = .ok (.invokestatic ix, 3)) (hst : st = As.reverse ++ st1) (hc : Nat.ble (g_cats st1) 8 = true) (s1 : m.2.2.2.1 = g_shp) (s2 : m1.2.2.2.1 = g_shp)
    (hk : yl_K (yl_S F B) X (e2 :: nx) L (.int k :: st1) m1) : yl_K (yl_S F (B + n)) X ((pc, .invokestatic ix, 3, a, b, c0) :: e2 :: nx) L st m := fun hok => by
  obtain ⟨-, -, o3, o4⟩ := yl_cons hok
  have o5 : e2.1 = pc + 3 := o4 e2 nx rfl
  have hk := hk o3
  have hk : yl_G (yl_S F B) X (pc + 3) L (.int k :: st1) m1 := by
    rw [← o5]
    exact hk
  obtain ⟨⟨hx, hb, hml, hown, hts, hKn, hKc, hfr, hlo, hin⟩, hC⟩ := H
  intro cells slots
  refine ⟨cells, slots, Nat.le_refl _, Nat.le_refl _, by rw [s1]; rfl, by rw [s1]; rfl, fun h1 h2 H locs ls hL hW hS => ?_⟩
  by_cases hb0 : cells + (B + n) ≤ 601024 ∧ slots + 6 * (B + n) ≤ 7293034
  rotate_left
  · intro T hT Y
    exact ⟨_, Steps.refl _, fun h => absurd h hb0⟩
  obtain ⟨mc, ms, a1, a2, a3, a4, a5⟩ := hk (cells + n) (slots + 6 * n)
  rw [s2] at a3 a4
  have a3 : mc + 82 = cells + n + 82 := a3
  obtain rfl : mc = cells + n := by omega
  have a4 : ms + g_slots g_shp = slots + 6 * n + g_slots g_shp := a4
  obtain rfl : ms = slots + 6 * n := by omega
  have hs13 : g_on (g_yo 327) = "GutterNineLaw" := rfl
  have R := vx_runSW (y := g_y A) (bytes := bytes) (maxL := mL) (ret := some .int) (hh := hh) (mc := n) (ms := 6 * n) (n := As.length) (index := ix) (own := "GutterNineLaw") (As := As.map (g_cv X.2.2.1 X.2.2.2.1)) (rest := st1.map (g_cv X.2.2.1 X.2.2.2.1)) (nL := 7) (cells := cells) (slots := slots) (locs := locs) (H := H) (g := F0 F.2.2.2.2.2.1 pc ls (st.map (g_cv X.2.2.1 X.2.2.2.1))) (below := F.2.2.2.2.2.2.2.1) (p := F.1) (l := F.2.1) (e := F.2.2.1) (R := F.2.2.2.1) (s := F.2.2.2.2.1) (meth := F.2.2.2.2.2.2.2.2.1)
    ⟨hx, hb, hml, hown, hts⟩ hM
    ⟨⟨rfl, rfl, by show 102 + 2 + 1 ≤ F.2.2.2.1.frames; omega, by show 8 + (mL + 11) + 128 * (102 + 2) ≤ F.2.2.2.1.locals; omega, pay_in hts (yl_cwgood w0), List.mem_cons_self⟩, hts _ w0, hts _ w3, hmd, g_npar hp, hts _ w1, hts _ w2⟩
    ⟨zl_Pc_blind X _ _, fun U hU hw => ⟨g_Pc_at hKn hKc hW hS As U hU hw, by rw [hU]; exact zl_Z_warm hw (zl_Z_kept hZ hS.2.1)⟩⟩ rfl (by rw [List.length_map]) hL.1 (by show st.map _ = _; rw [hst, List.map_append, List.map_reverse]) (lv_room (by rw [g_cats_eq hKc.2.2.2.2.2.2.2.1]; exact Nat.le_of_ble_eq_true hc)) hdg ⟨by omega, by omega⟩
  refine g_goes R fun v1 u t L1 hu hq hL1 => ?_
  obtain ⟨hv, hW1, hva⟩ := hq
  have hv : v1 = some (.int k) := by injection hv
  subst hv
  have hw := a5 (by show cells + n ≤ F.2.2.2.1.cells; omega) (by show slots + 6 * n ≤ F.2.2.2.1.slots; omega) t.heap (locs ++ L1) ls hL hW1 (g_va_S hS hu hva hL1)
  intro T hT Y
  obtain ⟨t2, g1, g2⟩ := hw T hT Y
  exact ⟨t2, g1, fun hb2 => g2 ⟨by omega, by omega⟩⟩
end SCALL

/-! From the law's entry to its end. -/
section YKSTART
variable {s : State} {X : gX} {H : Heap}
/-- the world that the constructors see: one of the constant rows in the script's place -/
def yk_X1 (X : gX) : gX := (X.1, X.2.1, fun k => if k = 2000 then X.2.2.1 1000 else X.2.2.1 k, X.2.2.2.1, X.2.2.2.2.1, g_C 1, yk_xs, 9)
theorem yk_cr2 : ∀ k : Fin 82, (g_C 0).2.2.1 (1000 + k.val) 0 ≤ 1200 := by decide +kernel
theorem yk_Kc1 (hC : X.2.2.2.2.2.1 = g_C 0) (h : g_Kc X s H) (hXa : va_X (X.2.2.1 1000) 9 (yk_sv false) s H) (hla : X.2.2.1 1000 < X.2.2.2.2.1) : g_Kc (yk_X1 X) s H := by
  obtain ⟨D, tc, ad, fv, bs, C, sc⟩ := X
  have hC : C = g_C 0 := hC
  subst hC
  obtain ⟨h1, h2, h3, h4, h5, h6, h7, h8, h9⟩ := h
  refine ⟨fun k q hk => ?_, h2, h3, h4, h5, fun i q hi => ?_, ⟨hXa, hla⟩, h8, h9⟩
  · have hk : g_csh[k]? = some q := hk
    have hl : k < 82 := by
      have := (List.getElem?_eq_some_iff.mp hk).1
      rw [yk_cs.2.2] at this
      exact this
    have e : (yk_X1 (D, tc, ad, fv, bs, g_C 0, sc)).2.2.1 (1000 + k) = ad (1000 + k) := if_neg (by omega)
    have h := h1 k q hk
    obtain ⟨q1, q2⟩ := q
    split at h
    · show va_T .int ((yk_X1 (D, tc, ad, fv, bs, g_C 0, sc)).2.2.1 (1000 + k)) _ _ _ s H
      rw [e]; exact h
    · show va_T .byte ((yk_X1 (D, tc, ad, fv, bs, g_C 0, sc)).2.2.1 (1000 + k)) _ _ _ s H
      rw [e]; exact h
    · obtain ⟨a1, a2, a3, a4, v, a5, a7, a6⟩ := h
      have hv := yk_cr2 ⟨k, hl⟩
      have a5' : (g_C 0).2.2.1 (1000 + k) 0 = v + 1 := a5
      have hv : (g_C 0).2.2.1 (1000 + k) 0 ≤ 1200 := hv
      have ev : (yk_X1 (D, tc, ad, fv, bs, g_C 0, sc)).2.2.1 v = ad v := if_neg (by omega)
      refine ⟨a1, ?_, ?_, a4, v, a5, a7, ?_⟩
      · show va_O _ ((yk_X1 (D, tc, ad, fv, bs, g_C 0, sc)).2.2.1 (1000 + k)) _ _ _
        rw [e]; exact a2
      · show va_OF _ _ _ _ ((yk_X1 (D, tc, ad, fv, bs, g_C 0, sc)).2.2.1 (1000 + k)) _ _ _
        rw [e]; exact a3
      · show va_OF _ _ _ (.ref ((yk_X1 (D, tc, ad, fv, bs, g_C 0, sc)).2.2.1 v)) ((yk_X1 (D, tc, ad, fv, bs, g_C 0, sc)).2.2.1 (1000 + k)) _ _ _
        rw [e, ev]; exact a6
    · exact h.elim
  · have hl : i < 36 := by
      have := (List.getElem?_eq_some_iff.mp hi).1
      rw [yk_sl] at this
      exact this
    have e : (yk_X1 (D, tc, ad, fv, bs, g_C 0, sc)).2.2.1 (1010 + 2 * i) = ad (1010 + 2 * i) := if_neg (by omega)
    show vk_R _ _ _ ((yk_X1 (D, tc, ad, fv, bs, g_C 0, sc)).2.2.1 (1010 + 2 * i)) s
    rw [e]
    exact h6 i q hi
theorem yk_Kc2 {ad : Nat → Nat} {b L0 : Nat} {xs : Nat → Int32} (hC : X.2.2.2.2.2 = (g_C 0, xs, L0)) (h : g_Kc X s H) (h20 : X.2.2.1 2000 = b) (ha : yk_ad (yk_X1 X) ad) : g_Kc (yk_X (yk_X1 X) ad b L0 xs) s H := by
  obtain ⟨D, tc, ad0, fv, bs, C⟩ := X
  have hC : C = (g_C 0, xs, L0) := hC
  subst hC
  refine g_Kc_xa (X := (D, tc, ad0, fv, bs, g_C 1, xs, L0)) (n := 0) (ad := fun k => if k = 2000 then b else ad k) ⟨fun k hk => ?_, fun h0 => absurd (show (1 : Nat) = 0 from h0) (by decide)⟩ h
  show (if k = 2000 then b else ad k) = ad0 k
  by_cases g : k = 2000
  · rw [if_pos g, g]
    exact h20.symm
  · rw [if_neg g, ha k (by omega)]
    exact if_neg g
theorem yk_W0 (hX : X.2.2.2.2.2.2 = (yk_xs, 9)) : g_W X yk_0 H := by
  refine ⟨fun k q hk => ?_, ⟨fun i j p q hp => ?_, fun k q hk => ?_⟩, fun q hq => ?_, fun k q hk => ?_, ?_, ?_⟩
  · cases hk
  · cases hp
  · cases hk
  · cases hq
  · cases hk
  · rw [hX]
    funext j
    show (if (2000 : Nat) = 2000 then yk_xs j else 0) = yk_xs j
    exact if_pos rfl
  · rw [hX]
    rfl
theorem yk_room : g_slots g_shp + 6 * 512 ≤ 7293034 := by decide +kernel
theorem yk_d1505 : decode code 1505 = .ok (.ireturn, 1) := by decide +kernel
theorem yk_ini : yl_ini = false := by decide +kernel
theorem yk_on : g_on (g_yo 327) = R_law := by decide +kernel
end YKSTART
theorem whole_start {p : Program} {e : Env} {s : State} {m : MethodId} {below : List Frame} {meth : Method} {c : Code} (l : Launch) (hflags : l.flags = flags0) {b L : Nat} {xs : Nat → Int32} (hL : L ≤ 3584) (C0 : lw_At p s m meth c b L xs) : W p l e room_1 s m #[Value.ref b] below meth c s.heap [] 0 0 (lw_Z below #[Value.ref b] s) (entryFrame m ([Value.ref b] : List Value).toArray 7) := by
  obtain ⟨hx, hbc, hr, hml, hown, hts, hX, hbl, hlocks, hgv⟩ := C0
  have hs : ∀ w ∈ yk_fl, w.before #[Value.ref b] s = true := flat_of_before _ hgv
  obtain ⟨X, hKn, hKc, hZ, h19, h20, hsz, hC, hXa, hla⟩ := yk_world hts hs hX hbl
  have hl : l.stackTraces = false := by
    unfold Launch.stackTraces
    rw [hflags]
    decide +kernel
  have hC0 : X.2.2.2.2.2.1 = g_C 0 := congrArg Prod.fst hC
  have hown : s.vm.findClass (g_on (g_yo 327)) = some m.cls := by rw [yk_on]; exact hown
  have hKc1 := yk_Kc1 hC0 hKc hXa (by rw [hsz]; exact hla)
  have hKn1 : g_Kn (yk_X1 X) s := hKn
  have hini : yl_ini = true → meth.name = "<init>" := fun h => by rw [yk_ini] at h; cases h
  have H1 : yk_H (yl_S (p, l, e, room_1, s, m, #[Value.ref b], below, meth, c, lw_Z below #[Value.ref b] s) 512) (yk_X1 X) :=
    ⟨⟨hx, hbc, hml, hown, yk_tw hts, hKn1, hKc1, by show 61 + 2 ≤ 2048; omega, by show 128 * (61 + 2) ≤ 84000; omega, hini⟩, rfl⟩
  have G : yl_G (yl_S (p, l, e, room_1, s, m, #[Value.ref b], below, meth, c, lw_Z below #[Value.ref b] s) 512) (yk_X1 X) 0 (yk_Ls none none none none) [] yk_0 := by
    refine yk_begin H1 (fun ad ha => ?_)
    have h19' : ad 1900 = b := by
      rw [ha 1900 (by decide)]
      show (if 1900 = 2000 then X.2.2.1 1000 else X.2.2.1 1900) = b
      rw [if_neg (by decide), h19]
    refine yk_swap (b := b) (L0 := L) (xs := xs) h19' ?_
    have hKn2 : g_Kn (yk_X (yk_X1 X) ad b L xs) s := hKn
    have H2 : yl_H (yl_S (p, l, e, room_1, s, m, #[Value.ref b], below, meth, c, lw_Z below #[Value.ref b] s) 0) (yk_X (yk_X1 X) ad b L xs) 100 :=
      ⟨⟨hx, hbc, hml, hown, yk_tw hts, hKn2, yk_Kc2 hC hKc h20 ha, by show 101 + 2 ≤ 2048; omega, by show 128 * (101 + 2) ≤ 84000; omega, hini⟩, rfl⟩
    refine yl_loop2 (B0 := s.heap.size) (F := (p, l, e, room_1, s, m, #[Value.ref b], below, meth, c, lw_Z below #[Value.ref b] s)) hl ⟨Nat.le_refl _, Nat.le_refl _, Nat.le_refl _, Nat.le_refl _⟩ hL (fun X2 s2 i2 w5 w6 H3 hB => ?_) 512 0 (yk_X (yk_X1 X) ad b L xs) (yk_s xs) none none H2 hsz hZ (fun w h => by cases h) (fun w h => by cases h) (yk_M xs) (yk_I xs) (by omega) (by omega)
    refine yl_at gl_1504 ?_
    refine yl_row H3 (fun k => rfl) ?_
    intro _ cells slots
    refine ⟨cells, slots, Nat.le_refl _, Nat.le_refl _, rfl, rfl, fun h1 h2 H locs ls hLs hW hS => ?_⟩
    by_cases hb0 : cells + 0 ≤ 601024 ∧ slots + 6 * 0 ≤ 7293034
    · intro T hT Y
      obtain ⟨t, a1, a2⟩ := (va_forget (fun q hq => by
        have h3 : X2.2.2.2.2.1 ≤ q.base := hS.2.2 q hq
        rw [hB] at h3
        exact h3) (W.widen (k := 601024) (n := 7293034) (by omega) (by omega) (lw_ret (p := p) (l := l) (e := e) (below := below) (ls := ls) (pc := 1505) hx hbc hr hlocks yk_d1505))) T hT Y
      exact ⟨t, a1, fun _ => a2⟩
    · intro T hT Y
      exact ⟨_, Steps.refl _, fun h => absurd h hb0⟩
  obtain ⟨mc, ms, a1, a2, a3, a4, a5⟩ := G 0 0
  have a3 : mc + 0 = 0 + 82 := a3
  have a4 : ms + 0 = 0 + g_slots g_shp := a4
  have hroom := yk_room
  have ev : ([Value.ref b] : List Value) = ([.ref 1900] : List Value).map (g_cv (yk_X1 X).2.2.1 (yk_X1 X).2.2.2.1) := by
    show _ = [Value.ref (if 1900 = 2000 then X.2.2.1 1000 else X.2.2.1 1900)]
    rw [if_neg (by decide), h19]
  have hlv := lv_entry (([.ref 1900] : List Value).map (g_cv (yk_X1 X).2.2.1 (yk_X1 X).2.2.2.1)) (n := 7) (by rw [g_sl_len hKc1.2.2.2.2.2.2.2.1]; exact Nat.le_of_ble_eq_true rfl)
  have hw := a5 (by show mc ≤ 601024; omega) (by show ms ≤ 7293034; omega) s.heap [] _ ⟨hlv.1, hlv.2.1, rfl, fun i v hi => by
    have := g_args_at hKc1.2.2.2.2.2.2.2.1 [.ref 1900] 0 i v (g_pad_nth 7 _ _ _ hi)
    rw [Nat.zero_add] at this
    exact hlv.2.2 _ this⟩ (yk_W0 rfl) va_S.rf
  have he := lg_entry_eq m [Value.ref b] 7
  rw [he]
  rw [← ev] at hw
  intro T hT Y
  obtain ⟨t, b1, b2⟩ := hw T hT Y
  exact ⟨t, b1, b2 ⟨by omega, by omega⟩⟩

/-! Laws read by the class: what its reader does is what run tells. -/
section LAWC
variable {N : Nat} {s u v : gI} {F G A B C T : Int → Int} {n e st lo hi c m zn br w b k : Int} {r i lc : Nat} {σ τ o L : List Int}
def cnt : List Int → Nat
  | [] => 0
  | c :: σ => if c = 10003 ∨ c = 10011 then cnt σ + 1 else cnt σ
def opn : List Int → Nat
  | [] => 0
  | c :: σ => if c = 10011 then opn σ + 1 else opn σ
def lvl : List Int → Int
  | [] => 0
  | c :: _ => if c = 10003 ∨ c = 10011 then 0 else str c
def bl : List Int → Prop
  | [] => True
  | c :: σ => bl σ ∧ ((σ.length + 1 : Nat) : Int) ≤ 5 * cnt (c :: σ) + lvl (c :: σ) ∧ (c = 10003 ∨ c = 10011 ∨ (10004 ≤ c ∧ c ≤ 10010))
def gdF : Bool → List Int → Prop
  | _, [] => True
  | true, c :: σ => if c = 10003 ∨ c = 10011 then gdF true σ else gdF false σ
  | false, c :: σ => c ≠ 10003 ∧ (if c = 10011 then gdF true σ else gdF false σ)
theorem opn_cnt : ∀ σ : List Int, opn σ ≤ cnt σ
  | [] => Nat.le_refl _
  | c :: σ => by
    have := opn_cnt σ
    show (if c = 10011 then opn σ + 1 else opn σ) ≤ (if c = 10003 ∨ c = 10011 then cnt σ + 1 else cnt σ)
    by_cases h : c = 10011
    · rw [if_pos h, if_pos (Or.inr h)]; omega
    · rw [if_neg h]; split <;> omega
theorem str_op (h0 : 10004 ≤ c) (h1 : c ≤ 10010) : 1 ≤ str c ∧ str c ≤ 4 := by
  rcases (by omega : c = 10004 ∨ c = 10005 ∨ c = 10006 ∨ c = 10007 ∨ c = 10008 ∨ c = 10009 ∨ c = 10010) with q | q | q | q | q | q | q <;> subst q <;> decide
theorem bl_len (h : bl σ) : (σ.length : Int) ≤ 5 * cnt σ + 4 := by
  cases σ with
  | nil => show ((0 : Nat) : Int) ≤ 5 * ((0 : Nat) : Int) + 4; omega
  | cons c σ =>
    obtain ⟨h1, h2, h3⟩ := h
    have : lvl (c :: σ) ≤ 4 := by
      show (if c = 10003 ∨ c = 10011 then (0 : Int) else str c) ≤ 4
      by_cases q0 : c = 10003 ∨ c = 10011
      · rw [if_pos q0]; decide
      · have q : 10004 ≤ c ∧ c ≤ 10010 := by omega
        rw [if_neg q0]
        exact (str_op q.1 q.2).2
    show ((σ.length + 1 : Nat) : Int) ≤ _
    omega
theorem rl_inv (k1 : 1 ≤ k) : ∀ {σ : List Int}, bl σ → gdF false σ → bl (rlR k σ) ∧ gdF false (rlR k σ) ∧ cnt (rlR k σ) = cnt σ ∧ opn (rlR k σ) = opn σ ∧ top (rlR k σ) < k
  | [], h1, h2 => ⟨h1, h2, rfl, rfl, by show (0 : Int) < k; omega⟩
  | c :: σ, h1, h2 => by
    unfold rlR
    by_cases g : k ≤ str c
    · rw [if_pos g]
      have n3 : c ≠ 10003 := h2.1
      have n11 : c ≠ 10011 := fun q => by
        rw [q] at g
        have : str 10011 = 0 := rfl
        omega
      have h3 : gdF false σ := by
        have := h2.2
        rw [if_neg n11] at this
        exact this
      obtain ⟨a1, a2, a3, a4, a5⟩ := rl_inv k1 h1.1 h3
      have e1 : cnt (c :: σ) = cnt σ := if_neg (by omega)
      have e2 : opn (c :: σ) = opn σ := if_neg n11
      exact ⟨a1, a2, by rw [a3, e1], by rw [a4, e2], a5⟩
    · rw [if_neg g]
      exact ⟨h1, h2, rfl, rfl, by show str c < k; omega⟩
theorem en_inv : ∀ {σ : List Int}, bl σ → gdF true σ → bl (enR σ) ∧ gdF false (enR σ) ∧ cnt (enR σ) + (enP σ).length = cnt σ ∧ opn (enR σ) = opn σ
  | [], h1, h2 => ⟨h1, h2, rfl, rfl⟩
  | c :: σ, h1, h2 => by
    unfold enR enP
    by_cases g : c = 10003
    · rw [if_pos g, if_pos g]
      have h3 : gdF true σ := by
        have h2 : (if c = 10003 ∨ c = 10011 then gdF true σ else gdF false σ) := h2
        rw [if_pos (Or.inl g)] at h2
        exact h2
      obtain ⟨a1, a2, a3, a4⟩ := en_inv h1.1 h3
      have e1 : cnt (c :: σ) = cnt σ + 1 := if_pos (Or.inl g)
      have e2 : opn (c :: σ) = opn σ := if_neg (by omega)
      exact ⟨a1, a2, by rw [e1]; show cnt (enR σ) + ((enP σ).length + 1) = _; omega, by rw [a4, e2]⟩
    · rw [if_neg g, if_neg g]
      have h2 : (if c = 10003 ∨ c = 10011 then gdF true σ else gdF false σ) := h2
      refine ⟨h1, ⟨g, ?_⟩, rfl, rfl⟩
      by_cases q : c = 10011
      · rw [if_pos q]; rw [if_pos (Or.inr q)] at h2; exact h2
      · rw [if_neg q]; rw [if_neg (by omega)] at h2; exact h2
theorem bl_op (h0 : 10004 ≤ c) (h1 : c ≤ 10010) (hb : bl σ) (ht : top σ < str c) (hg : gdF false σ) : bl (c :: σ) ∧ gdF true (c :: σ) ∧ cnt (c :: σ) = cnt σ ∧ opn (c :: σ) = opn σ := by
  have sc := str_op h0 h1
  have e1 : cnt (c :: σ) = cnt σ := if_neg (by omega)
  have e2 : lvl (c :: σ) = str c := if_neg (by omega)
  refine ⟨⟨hb, ?_, Or.inr (Or.inr ⟨h0, h1⟩)⟩, ?_, e1, if_neg (by omega)⟩
  · rw [e1, e2]
    cases σ with
    | nil => show ((0 + 1 : Nat) : Int) ≤ 5 * ((0 : Nat) : Int) + str c; omega
    | cons x σ =>
      obtain ⟨b1, b2, b3⟩ := hb
      have hl : lvl (x :: σ) ≤ top (x :: σ) := by
        show (if x = 10003 ∨ x = 10011 then (0 : Int) else str x) ≤ str x
        split
        · exact str_rg.1
        · exact Int.le_refl _
      show ((σ.length + 1 + 1 : Nat) : Int) ≤ _
      omega
  · show (if c = 10003 ∨ c = 10011 then gdF true σ else gdF false σ)
    rw [if_neg (by omega)]
    exact hg
theorem bl_no (h : c = 10003 ∨ c = 10011) (hb : bl σ) (hg : gdF true σ) : bl (c :: σ) ∧ gdF true (c :: σ) ∧ cnt (c :: σ) = cnt σ + 1 := by
  have e1 : cnt (c :: σ) = cnt σ + 1 := if_pos h
  have e2 : lvl (c :: σ) = 0 := if_pos h
  refine ⟨⟨hb, ?_, by omega⟩, ?_, e1⟩
  · rw [e1, e2]
    have := bl_len hb
    omega
  · show (if c = 10003 ∨ c = 10011 then gdF true σ else gdF false σ)
    rw [if_pos h]
    exact hg
/-- what holds between two words of a law -/
def II (σ o : List Int) (br w : Int) (b : Bool) (i : Nat) : Prop := bl σ ∧ gdF b σ ∧ (cnt σ : Int) = w ∧ (opn σ : Int) = br ∧ w ≤ 5 ∧ o.length + σ.length < i
def frM (lc : Nat) (s v : gI) : Prop := (∀ a : Nat, a ≠ 1 → a ≠ 4 → a ≠ 5 → a ≠ lc → a ≠ lc + 1 → v.1 a = s.1 a) ∧ v.2 = s.2
theorem frM.rf : frM lc s s := ⟨fun _ _ _ _ _ _ => rfl, rfl⟩
theorem frM.tr (h1 : frM lc s u) (h2 : frM lc u v) : frM lc s v := ⟨fun a q0 q1 q2 q3 q4 => (h2.1 a q0 q1 q2 q3 q4).trans (h1.1 a q0 q1 q2 q3 q4), h2.2.trans h1.2⟩
theorem frL.M (h : frL lc s v) : frM lc s v := ⟨fun a _ q1 q2 q3 q4 => h.1 a q1 q2 q3 q4, h.2⟩
theorem frL.at1 (hl : lc = 57 ∨ lc = 60) (h : frL lc s v) (hc : cAt F n i s) : cAt F n i v := ⟨by rw [h.1 2 (by decide) (by decide) (by omega) (by omega)]; exact hc.1, by rw [h.1 1 (by decide) (by decide) (by omega) (by omega)]; exact hc.2⟩
theorem frM_1 : frM lc s (ic s 1 G) := ⟨fun a q _ _ _ _ => ic_ne q, rfl⟩
theorem cS_1 (hl : lc = 57 ∨ lc = 60) (h : cS lc σ o br w b s) : cS lc σ o br w b (ic s 1 G) := by
  unfold cS
  rw [ic_ne (show (4 : Nat) ≠ 1 by decide), ic_ne (show (5 : Nat) ≠ 1 by decide), ic_ne (show lc ≠ 1 by omega), ic_ne (show lc + 1 ≠ 1 by omega)]
  exact h
theorem wd_16 : wdC 1016 4 23 := wdC_of (z := 4) (by decide +kernel)
theorem wd_18 : wdC 1018 5 24 := wdC_of (z := 5) (by decide +kernel)
theorem wd_20 : wdC 1020 4 25 := wdC_of (z := 4) (by decide +kernel)
theorem wd_22 : wdC 1022 3 20 := wdC_of (z := 3) (by decide +kernel)
theorem wd_24 : wdC 1024 3 21 := wdC_of (z := 3) (by decide +kernel)
theorem wd_26 : wdC 1026 2 22 := wdC_of (z := 2) (by decide +kernel)
theorem c_partCode (hN : 5000 ≤ N) (hT : tpF F n) (hc : cAt F n i s) : f30 N s = some (pc F n i, s) := by
  unfold f30 pc
  rw [hc.2.2.1]
  by_cases g : tK F n (tP F n i) = 3
  · rw [if_pos g, if_pos g, hc.2.2.2.2.2 g]
  rw [if_neg g, if_neg g, c_isWord hN hT hc wd_16, i_o2_some]
  by_cases g1 : isW F n (tP F n i) 23
  · rw [if_pos g1, if_neg (by decide), if_pos g1]
  rw [if_neg g1, if_pos rfl, if_neg g1, c_isWord hN hT hc wd_18, i_o2_some]
  by_cases g2 : isW F n (tP F n i) 24
  · rw [if_pos g2, if_neg (by decide), if_pos g2]
  rw [if_neg g2, if_pos rfl, if_neg g2, c_isWord hN hT hc wd_20, i_o2_some]
  by_cases g3 : isW F n (tP F n i) 25
  · rw [if_pos g3, if_neg (by decide), if_pos g3]
  rw [if_neg g3, if_pos rfl, if_neg g3, c_isWord hN hT hc wd_22, i_o2_some]
  by_cases g4 : isW F n (tP F n i) 20
  · rw [if_pos g4, if_neg (by decide), if_pos g4]
  rw [if_neg g4, if_pos rfl, if_neg g4, c_isSign hT hc, i_o2_some]
  by_cases g5 : isS F n (tP F n i) 40
  · rw [if_pos g5, if_neg (by decide), if_pos g5]
  · rw [if_neg g5, if_pos rfl, if_neg g5]
theorem c_joinCode (hN : 5000 ≤ N) (hT : tpF F n) (hc : cAt F n i s) : f31 N s = some (jc F n i, s) := by
  unfold f31 jc
  rw [c_isWord hN hT hc wd_24, i_o2_some]
  by_cases g1 : isW F n (tP F n i) 21
  · rw [if_pos g1, if_neg (by decide), if_pos g1]
  rw [if_neg g1, if_pos rfl, if_neg g1, c_isWord hN hT hc wd_26, i_o2_some]
  by_cases g2 : isW F n (tP F n i) 22
  · rw [if_pos g2, if_neg (by decide), if_pos g2]
  rw [if_neg g2, if_pos rfl, if_neg g2, c_isSign hT hc, i_o2_some]
  by_cases g3 : isS F n (tP F n i) 60
  · rw [if_pos g3, if_neg (by decide), if_pos g3]
  rw [if_neg g3, if_pos rfl, if_neg g3, c_isSign hT hc, i_o2_some]
  by_cases g4 : isS F n (tP F n i) 61
  · rw [if_pos g4, if_neg (by decide), if_pos g4]
  rw [if_neg g4, if_pos rfl, if_neg g4, c_isSign hT hc, i_o2_some]
  by_cases g5 : isS F n (tP F n i) 43
  · rw [if_pos g5, if_neg (by decide), if_pos g5]
  rw [if_neg g5, if_pos rfl, if_neg g5, c_isSign hT hc, i_o2_some]
  by_cases g6 : isS F n (tP F n i) 45
  · rw [if_pos g6, if_neg (by decide), if_pos g6]
  rw [if_neg g6, if_pos rfl, if_neg g6, c_isSign hT hc, i_o2_some]
  by_cases g7 : isS F n (tP F n i) 42
  · rw [if_pos g7, if_neg (by decide), if_pos g7]
  rw [if_neg g7, if_pos rfl, if_neg g7, c_isSign hT hc, i_o2_some]
  by_cases g8 : isS F n (tP F n i) 41
  · rw [if_pos g8, if_neg (by decide), if_pos g8]
  · rw [if_neg g8, if_pos rfl, if_neg g8]
theorem pc_rg (h : pc F n i ≠ -1) : tK F n (tP F n i) ≠ 0 ∧ ((0 ≤ pc F n i ∧ pc F n i ≤ 10003) ∨ pc F n i = 10011) := by
  unfold pc at h ⊢
  by_cases g : tK F n (tP F n i) = 3
  · have := tV_num g
    rw [if_pos g]
    omega
  rw [if_neg g] at h ⊢
  by_cases g1 : isW F n (tP F n i) 23
  · rw [if_pos g1]; have := g1.1; omega
  rw [if_neg g1] at h ⊢
  by_cases g2 : isW F n (tP F n i) 24
  · rw [if_pos g2]; have := g2.1; omega
  rw [if_neg g2] at h ⊢
  by_cases g3 : isW F n (tP F n i) 25
  · rw [if_pos g3]; have := g3.1; omega
  rw [if_neg g3] at h ⊢
  by_cases g4 : isW F n (tP F n i) 20
  · rw [if_pos g4]; have := g4.1; omega
  rw [if_neg g4] at h ⊢
  by_cases g5 : isS F n (tP F n i) 40
  · rw [if_pos g5]; have := g5.1; omega
  · rw [if_neg g5] at h; omega
theorem jc_rg (h : jc F n i ≠ -1) : tK F n (tP F n i) ≠ 0 ∧ ((10004 ≤ jc F n i ∧ jc F n i ≤ 10010) ∨ jc F n i = 10012) := by
  unfold jc at h ⊢
  by_cases g1 : isW F n (tP F n i) 21
  · rw [if_pos g1]; have := g1.1; omega
  rw [if_neg g1] at h ⊢
  by_cases g2 : isW F n (tP F n i) 22
  · rw [if_pos g2]; have := g2.1; omega
  rw [if_neg g2] at h ⊢
  by_cases g3 : isS F n (tP F n i) 60
  · rw [if_pos g3]; have := g3.1; omega
  rw [if_neg g3] at h ⊢
  by_cases g4 : isS F n (tP F n i) 61
  · rw [if_pos g4]; have := g4.1; omega
  rw [if_neg g4] at h ⊢
  by_cases g5 : isS F n (tP F n i) 43
  · rw [if_pos g5]; have := g5.1; omega
  rw [if_neg g5] at h ⊢
  by_cases g6 : isS F n (tP F n i) 45
  · rw [if_pos g6]; have := g6.1; omega
  rw [if_neg g6] at h ⊢
  by_cases g7 : isS F n (tP F n i) 42
  · rw [if_pos g7]; have := g7.1; omega
  rw [if_neg g7] at h ⊢
  by_cases g8 : isS F n (tP F n i) 41
  · rw [if_pos g8]; have := g8.1; omega
  · rw [if_neg g8] at h; omega
/-- behind a part -/
theorem c_endPart (hN : 5000 ≤ N) (hl : lc = 57 ∨ lc = 60) (h : cS lc σ o br w b s) (h5 : (enP σ).length ≤ 5) (h64 : σ.length ≤ 64) (ho : o.length + σ.length < 1000) (hw : -90 ≤ w ∧ w ≤ 100) : ∃ v, f34 N lc s = some v ∧ cS lc (enR σ) (o ++ enP σ) br (w - (enP σ).length) 0 v ∧ frL lc s v := by
  unfold f34
  rw [ib1_ok (Or.inl rfl)]
  have h2 : cS lc σ o br w 0 (iw s 4 5 0) := by
    obtain ⟨p1, p2, p3, p4, p5, p6, p7⟩ := h
    refine ⟨?_, ?_, ?_, ?_, ?_, ?_, ?_⟩
    · rw [iw_at, zup_ne (by decide)]; exact p1
    · rw [iw_ne (by decide)]; exact p2
    · rw [iw_at, zup_ne (by decide)]; exact p3
    · rw [iw_at, zup_ne (by decide)]; exact p4
    · rw [iw_at, zup_same]
    · rw [iw_ne (by omega)]; exact p6
    · rw [iw_ne (by omega)]; exact p7
  obtain ⟨v, a1, a2, a3⟩ := c_endP_lp (N := N) hl σ o N 0 w _ h2 (by decide) (by omega) h64 ho (by omega) (by omega)
  exact ⟨v, a1, a2, (show frL lc s (iw s 4 5 0) from ⟨fun a q _ _ _ => iw_ne q, rfl⟩).tr a3⟩
/-- the reader's loop does what run tells -/
theorem c_read_lp (hN : 5000 ≤ N) (hT : tpF F n) (hl : lc = 57 ∨ lc = 60) : ∀ (r : Nat) (σ o : List Int) (br w : Int) (b : Bool) (i : Nat) (s : gI) (fuel : Nat) (x z : Int) (j : Nat) (o2 : List Int), run F n r σ o br w b i = some (z, j, o2) → lv F n i → II σ o br w b i → cAt F n i s → cS lc σ o br w (if b = true then 1 else 0) s → 0 ≤ x → x ≤ i → 1002 ≤ fuel + i →
    ∃ v, f29_at26 N lc fuel x s = some (if z = 0 then 1 else 0, v) ∧ frM lc s v ∧ (z = 0 → cAt F n j v ∧ v.1 lc 2 = o2.length ∧ oto (v.1 (lc + 1)) o2 ∧ o2.length < 1000) ∧ (z ≠ 0 → v.1 1 7 = z)
  | 0, σ, o, br, w, b, i, s, fuel, x, z, j, o2, hr, _, _, _, _, _, _, _ => by cases hr
  | r + 1, σ, o, br, w, true, i, s, fuel, x, z, j, o2, hr, hv, hI, hc, hs, x0, x1, hf => by
    have il := lv_mx hT.1.1 hv
    have hT1 := hT.1
    obtain ⟨fuel, rfl⟩ : ∃ g, fuel = g + 1 := ⟨fuel - 1, by omega⟩
    obtain ⟨i1, i2, i3, i4, i5, i6⟩ := hI
    have oc := opn_cnt σ
    have rg := tP_rg (F := F) hT.1.1 i
    have ln := bl_len i1
    have e5 : s.1 4 5 = 1 := hs.2.2.2.2.1
    unfold f29_at26 f29_at51 f29_at79 f29_at115
    unfold run at hr
    rw [if_neg (by omega), e5, if_neg (by decide), c_partCode hN hT hc, i_o2_some, e5, if_neg (show ¬ (1 : Int) = 0 by decide), if_neg (show ¬ (1 : Int) = 0 by decide), ite_self]
    by_cases g : pc F n i = -1
    · rw [if_pos g] at hr
      obtain ⟨rfl, rfl, rfl⟩ : 1 + 16 * tP F n i = z ∧ i = j ∧ o = o2 := by
        have := Option.some.inj hr
        exact ⟨congrArg (·.1) this, congrArg (·.2.1) this, congrArg (·.2.2) this⟩
      rw [if_pos g, c_fail hT hc (by decide) (by decide), i_o2_some, ib1_ok (Or.inl rfl), if_neg (by omega)]
      exact ⟨_, rfl, frM_1, fun h => by omega, fun _ => by rw [ic_at, zup_same]⟩
    obtain ⟨k0, kr⟩ := pc_rg g
    have hv2 := lv_s hv k0
    have il2 := lv_mx hT.1.1 hv2
    rw [if_neg g] at hr
    unfold f32
    rw [if_neg g, hs.2.2.2.1]
    by_cases g5 : 5 ≤ w
    · rw [if_pos g5] at hr
      obtain ⟨rfl, rfl, rfl⟩ : 5 + 16 * tP F n i = z ∧ i = j ∧ o = o2 := by
        have := Option.some.inj hr
        exact ⟨congrArg (·.1) this, congrArg (·.2.1) this, congrArg (·.2.2) this⟩
      rw [if_neg (by omega), c_fail hT hc (by decide) (by decide), i_o2_some, ib1_ok (Or.inl rfl), i_o2_some, if_pos rfl, ib1_ok (Or.inl rfl), if_neg (by omega)]
      exact ⟨_, rfl, frM_1, fun h => by omega, fun _ => by rw [ic_at, zup_same]⟩
    rw [if_neg g5] at hr
    rw [if_pos (by omega)]
    -- going on
    have go : ∀ (c q1 : Int) (v1 : gI), (∀ br2 : Int, br2 = br + q1 → cS lc (c :: σ) o br2 (w + 1) 1 v1) → frL lc s v1 → (c = 10003 ∨ c = 10011) → (opn (c :: σ) : Int) = br + q1 → run F n r (c :: σ) o (br + q1) (w + 1) true (i + 1) = some (z, j, o2) → ∃ v, (if (1 : Int) = 0 then ib1 (0 : Int) (some ((0 : Int), v1)) else i_o1 (f97 N v1) fun s1 => iov (x + 1) (f29_at26 N lc fuel (x + 1) s1)) = some (if z = 0 then 1 else 0, v) ∧ frM lc s v ∧ (z = 0 → cAt F n j v ∧ v.1 lc 2 = o2.length ∧ oto (v.1 (lc + 1)) o2 ∧ o2.length < 1000) ∧ (z ≠ 0 → v.1 1 7 = z) := fun c q1 v1 h1 h2 hcc hop hrr => by
      obtain ⟨G, a1, a2, -⟩ := c_next1 hN hT (h2.at1 hl hc)
      rw [if_neg (by decide), a1, i_o1_some, iov_ok (by omega) (by omega)]
      have hc2 : cAt F n (i + 1) (ic v1 1 G) := ⟨by rw [ic_ne (by decide)]; exact (h2.at1 hl hc).1, by rw [ic_at]; exact a2⟩
      obtain ⟨b1, b2, b3⟩ := bl_no (σ := σ) hcc i1 i2
      obtain ⟨v, d1, d2, d3⟩ := c_read_lp hN hT hl r (c :: σ) o (br + q1) (w + 1) true (i + 1) (ic v1 1 G) fuel (x + 1) z j o2 hrr hv2 ⟨b1, b2, by rw [b3]; omega, hop, by omega, by show o.length + (σ.length + 1) < i + 1; omega⟩ hc2 (cS_1 hl (h1 _ rfl)) (by omega) (by omega) (by omega)
      exact ⟨v, d1, (h2.M.tr frM_1).tr d2, d3⟩
    have w4 : ∀ (br2 : Int), cS lc σ o br2 w 1 s → cS lc σ o br2 (w + 1) 1 (iw s 4 4 (w + 1)) := fun br2 h => by
      obtain ⟨p1, p2, p3, p4, p5, p6, p7⟩ := h
      refine ⟨?_, ?_, ?_, ?_, ?_, ?_, ?_⟩
      · rw [iw_at, zup_ne (by decide)]; exact p1
      · rw [iw_ne (by decide)]; exact p2
      · rw [iw_at, zup_ne (by decide)]; exact p3
      · rw [iw_at, zup_same]
      · rw [iw_at, zup_ne (by decide)]; exact p5
      · rw [iw_ne (by omega)]; exact p6
      · rw [iw_ne (by omega)]; exact p7
    have w3 : ∀ (t : gI) (y : Int), cS lc σ o br (w + 1) 1 t → cS lc σ o y (w + 1) 1 (iw t 4 3 y) := fun t y h => by
      obtain ⟨p1, p2, p3, p4, p5, p6, p7⟩ := h
      refine ⟨?_, ?_, ?_, ?_, ?_, ?_, ?_⟩
      · rw [iw_at, zup_ne (by decide)]; exact p1
      · rw [iw_ne (by decide)]; exact p2
      · rw [iw_at, zup_same]
      · rw [iw_at, zup_ne (by decide)]; exact p4
      · rw [iw_at, zup_ne (by decide)]; exact p5
      · rw [iw_ne (by omega)]; exact p6
      · rw [iw_ne (by omega)]; exact p7
    have hs1 : cS lc σ o br w 1 s := hs
    have f4 : ∀ (t : gI) (y q : Int), frL lc t (iw t 4 q y) := fun t y q => ⟨fun a h _ _ _ => iw_ne h, rfl⟩
    by_cases g3 : pc F n i = 10003
    · rw [if_pos g3] at hr
      rw [if_pos g3]
      unfold f32_at31 f32_at58
      rw [hs.2.2.2.1, iov_ok (by omega) (by omega)]
      try dsimp only
      have c1 := w3 _ (br + 0) (w4 br hs1)
      have e3 : (iw s 4 4 (w + 1)).1 4 3 = br := by rw [iw_at, zup_ne (by decide)]; exact hs.2.2.1
      obtain ⟨v1, a1, a2, a3⟩ := c_push (N := N) (c := 10003) hl c1 (by omega)
      rw [g3, if_neg (show ¬ (10003 : Int) = 10011 by decide), e3, iov_ok (by omega) (by omega), a1, i_o1_some, ib1_ok (Or.inr rfl), i_o2_some]
      exact go 10003 0 v1 (fun br2 h => by rw [h]; exact a2) (((f4 _ _ _).tr (f4 _ _ _)).tr a3) (Or.inl rfl) (by rw [show opn (10003 :: σ) = opn σ from rfl]; omega) (by rw [show br + 0 = br by omega]; exact hr)
    rw [if_neg g3] at hr
    rw [if_neg g3]
    by_cases g11 : pc F n i = 10011
    · rw [if_pos g11] at hr
      rw [if_pos g11]
      unfold f32_at31 f32_at58
      rw [hs.2.2.2.1, iov_ok (by omega) (by omega)]
      try dsimp only
      have c1 := w3 _ (br + 1) (w4 br hs1)
      have e3 : (iw s 4 4 (w + 1)).1 4 3 = br := by rw [iw_at, zup_ne (by decide)]; exact hs.2.2.1
      obtain ⟨v1, a1, a2, a3⟩ := c_push (N := N) (c := 10011) hl c1 (by omega)
      rw [g11, if_pos rfl, e3, iov_ok (by omega) (by omega), a1, i_o1_some, ib1_ok (Or.inr rfl), i_o2_some]
      exact go 10011 1 v1 (fun br2 h => by rw [h]; exact a2) (((f4 _ _ _).tr (f4 _ _ _)).tr a3) (Or.inr rfl) (by rw [show opn (10011 :: σ) = opn σ + 1 from rfl]; omega) hr
    rw [if_neg g11] at hr
    rw [if_neg g11]
    obtain ⟨v1, a1, a2, a3⟩ := c_add (N := N) (c := pc F n i) hl hs1 (by omega)
    have el := en_len (σ := σ)
    obtain ⟨n1, n2, n3, n4⟩ := en_inv i1 i2
    obtain ⟨v2, b1, b2, b3⟩ := c_endPart hN hl a2 (by omega) (by omega) (by rw [List.length_append]; show o.length + 1 + σ.length < 1000; omega) (by omega)
    rw [a1, i_o1_some, b1, i_o1_some, ib1_ok (Or.inr rfl), i_o2_some, if_neg (by decide)]
    have fr := a3.tr b3
    obtain ⟨G, d1, d2, -⟩ := c_next1 hN hT (fr.at1 hl hc)
    rw [d1, i_o1_some, iov_ok (by omega) (by omega)]
    have hc2 : cAt F n (i + 1) (ic v2 1 G) := ⟨by rw [ic_ne (by decide)]; exact (fr.at1 hl hc).1, by rw [ic_at]; exact d2⟩
    obtain ⟨v, e1, e2, e3⟩ := c_read_lp hN hT hl r (enR σ) (o ++ [pc F n i] ++ enP σ) br (w - (enP σ).length) false (i + 1) (ic v2 1 G) fuel (x + 1) z j o2 hr hv2 ⟨n1, n2, by omega, by rw [n4]; exact i4, by omega, by rw [List.length_append, List.length_append]; show o.length + 1 + _ + _ < i + 1; omega⟩ hc2 (cS_1 hl b2) (by omega) (by omega) (by omega)
    exact ⟨v, e1, (fr.M.tr frM_1).tr e2, e3⟩
  | r + 1, σ, o, br, w, false, i, s, fuel, x, z, j, o2, hr, hv, hI, hc, hs, x0, x1, hf => by
    have il := lv_mx hT.1.1 hv
    have hT1 := hT.1
    obtain ⟨fuel, rfl⟩ : ∃ g, fuel = g + 1 := ⟨fuel - 1, by omega⟩
    obtain ⟨i1, i2, i3, i4, i5, i6⟩ := hI
    have oc := opn_cnt σ
    have rg := tP_rg (F := F) hT.1.1 i
    have ln := bl_len i1
    have hs0 : cS lc σ o br w 0 s := hs
    have e5 : s.1 4 5 = 0 := hs.2.2.2.2.1
    have e3 : s.1 4 3 = br := hs.2.2.1
    unfold f29_at26 f29_at51 f29_at79 f29_at115
    unfold run at hr
    rw [if_neg (by omega), e5, if_pos rfl, c_joinCode hN hT hc, i_o2_some, e5, if_pos (show (0 : Int) = 0 from rfl), if_pos (show (0 : Int) = 0 from rfl), e3]
    by_cases g : jc F n i = -1
    · rw [if_pos g] at hr
      rw [if_pos g, if_pos g]
      by_cases gb : br = 0
      · rw [if_pos gb] at hr
        obtain ⟨rfl, rfl, rfl⟩ : (0 : Int) = z ∧ i = j ∧ o ++ rlP 1 σ = o2 := by
          have := Option.some.inj hr
          exact ⟨congrArg (·.1) this, congrArg (·.2.1) this, congrArg (·.2.2) this⟩
        obtain ⟨v1, a1, a2, a3⟩ := c_releaseL (k := 1) hN hl (by decide) hs0 (by omega) (by omega)
        have rl := rl_len (k := 1) (σ := σ)
        rw [if_pos gb, a1, i_o1_some, ib1_ok (Or.inr rfl), if_pos rfl]
        exact ⟨v1, rfl, a3.M, fun _ => ⟨a3.at1 hl hc, a2.2.2.2.2.2.1, a2.2.2.2.2.2.2, by rw [List.length_append]; omega⟩, fun h => absurd rfl h⟩
      · rw [if_neg gb] at hr
        obtain ⟨rfl, rfl, rfl⟩ : 1 + 16 * tP F n i = z ∧ i = j ∧ o = o2 := by
          have := Option.some.inj hr
          exact ⟨congrArg (·.1) this, congrArg (·.2.1) this, congrArg (·.2.2) this⟩
        rw [if_neg gb, c_fail hT hc (by decide) (by decide), i_o2_some, ib1_ok (Or.inl rfl), if_neg (by omega)]
        exact ⟨_, rfl, frM_1, fun h => by omega, fun _ => by rw [ic_at, zup_same]⟩
    obtain ⟨k0, kr⟩ := jc_rg g
    have hv2 := lv_s hv k0
    have il2 := lv_mx hT.1.1 hv2
    rw [if_neg g] at hr
    rw [if_neg g, if_neg g]
    have bad : 1 + 16 * tP F n i = z → ∀ t : gI, cAt F n i t → frM lc s t → ∃ v, (i_o2 (f104 N 1 t) fun i2 s1 => ib1 i2 (some (i2, s1))) = some ((0 : Int), v) ∧ (if z = 0 then (1 : Int) else 0) = 0 ∧ frM lc s v ∧ (z = 0 → cAt F n j v ∧ v.1 lc 2 = o2.length ∧ oto (v.1 (lc + 1)) o2 ∧ o2.length < 1000) ∧ (z ≠ 0 → v.1 1 7 = z) := fun hz t ht hft => by
      rw [c_fail hT ht (by decide) (by decide), i_o2_some, ib1_ok (Or.inl rfl), if_neg (by omega)]
      exact ⟨_, rfl, rfl, hft.tr frM_1, fun h => by omega, fun _ => by rw [ic_at, zup_same, hz]⟩
    have go : ∀ (σ2 o3 : List Int) (br2 w2 : Int) (b2 : Bool) (v1 : gI), cS lc σ2 o3 br2 w2 (if b2 = true then 1 else 0) v1 → frL lc s v1 → II σ2 o3 br2 w2 b2 (i + 1) → run F n r σ2 o3 br2 w2 b2 (i + 1) = some (z, j, o2) → ∃ v, (if (1 : Int) = 0 then ib1 (0 : Int) (some ((0 : Int), v1)) else i_o1 (f97 N v1) fun s1 => iov (x + 1) (f29_at26 N lc fuel (x + 1) s1)) = some (if z = 0 then 1 else 0, v) ∧ frM lc s v ∧ (z = 0 → cAt F n j v ∧ v.1 lc 2 = o2.length ∧ oto (v.1 (lc + 1)) o2 ∧ o2.length < 1000) ∧ (z ≠ 0 → v.1 1 7 = z) := fun σ2 o3 br2 w2 b2 v1 h1 h2 h3 hrr => by
      obtain ⟨G, a1, a2, -⟩ := c_next1 hN hT (h2.at1 hl hc)
      rw [if_neg (by decide), a1, i_o1_some, iov_ok (by omega) (by omega)]
      have hc2 : cAt F n (i + 1) (ic v1 1 G) := ⟨by rw [ic_ne (by decide)]; exact (h2.at1 hl hc).1, by rw [ic_at]; exact a2⟩
      obtain ⟨v, d1, d2, d3⟩ := c_read_lp hN hT hl r σ2 o3 br2 w2 b2 (i + 1) (ic v1 1 G) fuel (x + 1) z j o2 hrr hv2 h3 hc2 (cS_1 hl h1) (by omega) (by omega) (by omega)
      exact ⟨v, d1, (h2.M.tr frM_1).tr d2, d3⟩
    unfold f33 f33_at23
    by_cases g12 : jc F n i = 10012
    · rw [if_pos g12] at hr
      rw [if_pos g12, if_pos g12, e3]
      by_cases gb : br = 0
      · rw [if_pos gb] at hr
        have hz : 1 + 16 * tP F n i = z := congrArg (·.1) (Option.some.inj hr)
        rw [if_pos gb]
        obtain ⟨v, a1, a2, a3⟩ := bad hz s hc frM.rf
        rw [a1, i_o2_some, if_pos rfl, ib1_ok (Or.inl rfl), a2]
        exact ⟨v, rfl, a3⟩
      rw [if_neg gb] at hr
      rw [if_neg gb]
      obtain ⟨v1, a1, a2, a3⟩ := c_releaseL (k := 1) hN hl (by decide) hs0 (by omega) (by omega)
      have rl := rl_len (k := 1) (σ := σ)
      obtain ⟨r1, r2, r3, r4, r5⟩ := rl_inv (k := 1) (by decide) i1 i2
      rw [a1, i_o1_some]
      match hrl : rlR 1 σ, a2, rl, r1, r2, r3, r4, r5, hr with
      | [], a2, rl, r1, r2, r3, r4, r5, hr =>
        have r4 : (0 : Nat) = opn σ := r4
        omega
      | c :: σ2, a2, rl, r1, r2, r3, r4, r5, hr =>
        have hc11 : c = 10011 := by
          rcases r1.2.2 with q | q | q
          · exact absurd q r2.1
          · exact q
          · have := str_op q.1 q.2
            have r5 : str c < 1 := r5
            omega
        subst hc11
        have rl : (rlP 1 σ).length + (σ2.length + 1) = σ.length := rl
        have r3 : cnt σ2 + 1 = cnt σ := r3
        have r4 : opn σ2 + 1 = opn σ := r4
        have r2 : gdF true σ2 := r2.2
        have hr : run F n r (enR σ2) (o ++ rlP 1 σ ++ enP σ2) (br - 1) (w - 1 - (enP σ2).length) false (i + 1) = some (z, j, o2) := hr
        obtain ⟨n1, n2, n3, n4⟩ := en_inv r1.1 r2
        have el := en_len (σ := σ2)
        obtain ⟨v2, b1, b2, b3⟩ := c_pop (N := N) hl a2 (by omega)
        rw [b1, i_o1_some, b2.2.2.1, iov_ok (by omega) (by omega)]
        try dsimp only
        have e44 : (iw v2 4 3 (br - 1)).1 4 4 = w := by rw [iw_at, zup_ne (by decide)]; exact b2.2.2.2.1
        rw [e44, iov_ok (by omega) (by omega)]
        have b4 : cS lc σ2 (o ++ rlP 1 σ) (br - 1) (w - 1) 0 (iw (iw v2 4 3 (br - 1)) 4 4 (w - 1)) := by
          obtain ⟨p1, p2, p3, p4, p5, p6, p7⟩ := b2
          refine ⟨?_, ?_, ?_, ?_, ?_, ?_, ?_⟩
          · rw [iw_at, zup_ne (by decide), iw_at, zup_ne (by decide)]; exact p1
          · rw [iw_ne (by decide), iw_ne (by decide)]; exact p2
          · rw [iw_at, zup_ne (by decide), iw_at, zup_same]
          · rw [iw_at, zup_same]
          · rw [iw_at, zup_ne (by decide), iw_at, zup_ne (by decide)]; exact p5
          · rw [iw_ne (by omega), iw_ne (by omega)]; exact p6
          · rw [iw_ne (by omega), iw_ne (by omega)]; exact p7
        have fr4 : frL lc v2 (iw (iw v2 4 3 (br - 1)) 4 4 (w - 1)) := ⟨fun a q _ _ _ => by rw [iw_ne q, iw_ne q], rfl⟩
        obtain ⟨v3, d1, d2, d3⟩ := c_endPart hN hl b4 (by omega) (by omega) (by rw [List.length_append]; omega) (by omega)
        rw [d1, i_o1_some, ib1_ok (Or.inr rfl), i_o2_some]
        exact go _ _ _ _ false v3 d2 (((a3.tr b3).tr fr4).tr d3) ⟨n1, n2, by omega, by omega, by omega, by rw [List.length_append, List.length_append]; omega⟩ hr
    rw [if_neg g12] at hr
    rw [if_neg g12, if_neg g12, c_strength, i_o2_some]
    have kop : 10004 ≤ jc F n i ∧ jc F n i ≤ 10010 := by omega
    have sr := str_op kop.1 kop.2
    unfold f33_at84 f33_at109
    have push : ∀ (k : Int) (v1 : gI), 1 ≤ k → cS lc (rlR k σ) (o ++ rlP k σ) br w 0 v1 → frL lc s v1 → top (rlR k σ) < str (jc F n i) → run F n r (jc F n i :: rlR k σ) (o ++ rlP k σ) br w true (i + 1) = some (z, j, o2) → ∃ v, (i_o2 (i_o1 (f36 N (jc F n i) v1) fun s1 => ib1 (1 : Int) <| (fun s2 => ib1 (1 : Int) (some ((1 : Int), s2))) (iw s1 4 5 (1 : Int))) fun i2 s1 => if i2 = 0 then ib1 (0 : Int) (some ((0 : Int), s1)) else i_o1 (f97 N s1) fun s1 => iov (x + 1) (f29_at26 N lc fuel (x + 1) s1)) = some (if z = 0 then 1 else 0, v) ∧ frM lc s v ∧ (z = 0 → cAt F n j v ∧ v.1 lc 2 = o2.length ∧ oto (v.1 (lc + 1)) o2 ∧ o2.length < 1000) ∧ (z ≠ 0 → v.1 1 7 = z) := fun k v1 k1 h1 h2 ht hrr => by
      have rl := rl_len (k := k) (σ := σ)
      obtain ⟨r1, r2, r3, r4, r5⟩ := rl_inv k1 i1 i2
      obtain ⟨q1, q2, q3, q4⟩ := bl_op kop.1 kop.2 r1 ht r2
      obtain ⟨v2, b1, b2, b3⟩ := c_push (N := N) (c := jc F n i) hl h1 (by omega)
      rw [b1, i_o1_some, ib1_ok (Or.inr rfl)]
      try dsimp only
      rw [ib1_ok (Or.inr rfl), i_o2_some]
      have b4 : cS lc (jc F n i :: rlR k σ) (o ++ rlP k σ) br w 1 (iw v2 4 5 1) := by
        obtain ⟨p1, p2, p3, p4, p5, p6, p7⟩ := b2
        refine ⟨?_, ?_, ?_, ?_, ?_, ?_, ?_⟩
        · rw [iw_at, zup_ne (by decide)]; exact p1
        · rw [iw_ne (by decide)]; exact p2
        · rw [iw_at, zup_ne (by decide)]; exact p3
        · rw [iw_at, zup_ne (by decide)]; exact p4
        · rw [iw_at, zup_same]
        · rw [iw_ne (by omega)]; exact p6
        · rw [iw_ne (by omega)]; exact p7
      exact go _ _ _ _ true _ b4 ((h2.tr b3).tr ⟨fun a q _ _ _ => iw_ne q, rfl⟩) ⟨q1, q2, by rw [q3, r3]; exact i3, by rw [q4, r4]; exact i4, i5, by rw [List.length_append]; show o.length + (rlP k σ).length + ((rlR k σ).length + 1) < i + 1; omega⟩ hrr
    by_cases g2 : str (jc F n i) = 2
    · rw [if_pos g2] at hr
      rw [if_pos g2]
      obtain ⟨v1, a1, a2, a3⟩ := c_releaseL (k := 3) hN hl (by decide) hs0 (by omega) (by omega)
      have rl := rl_len (k := 3) (σ := σ)
      obtain ⟨r1, r2, r3, r4, r5⟩ := rl_inv (k := 3) (by decide) i1 i2
      rw [a1, i_o1_some, if_pos g2, c_top a2 (by omega), i_o2_some]
      by_cases gt : top (rlR 3 σ) = 2
      · rw [if_pos gt] at hr
        have hz : 1 + 16 * tP F n i = z := congrArg (·.1) (Option.some.inj hr)
        rw [if_pos gt]
        obtain ⟨v, b1, b2, b3⟩ := bad hz v1 (a3.at1 hl hc) a3.M
        rw [b1, i_o2_some, if_pos rfl, ib1_ok (Or.inl rfl), b2]
        exact ⟨v, rfl, b3⟩
      · rw [if_neg gt] at hr
        rw [if_neg gt]
        exact push 3 v1 (by decide) a2 a3 (by omega) hr
    · rw [if_neg g2] at hr
      rw [if_neg g2]
      obtain ⟨v1, a1, a2, a3⟩ := c_releaseL (k := str (jc F n i)) hN hl sr.1 hs0 (by omega) (by omega)
      obtain ⟨r1, r2, r3, r4, r5⟩ := rl_inv sr.1 i1 i2
      rw [a1, i_o1_some, if_neg g2]
      exact push (str (jc F n i)) v1 sr.1 a2 a3 r5 hr
theorem c_read (hN : 5000 ≤ N) (hT : tpF F n) (hl : lc = 57 ∨ lc = 60) {z : Int} {j : Nat} {o2 : List Int} (hr : run F n r [] [] 0 0 true i = some (z, j, o2)) (hv : lv F n i) (hi : 1 ≤ i) (hc : cAt F n i s) :
    ∃ v, f29 N lc s = some (if z = 0 then 1 else 0, v) ∧ frM lc s v ∧ (z = 0 → cAt F n j v ∧ v.1 lc 2 = o2.length ∧ oto (v.1 (lc + 1)) o2 ∧ o2.length < 1000) ∧ (z ≠ 0 → v.1 1 7 = z) := by
  unfold f29 f22
  try dsimp only
  rw [i_o1_some, ib1_ok (Or.inr rfl)]
  have f0 : frL lc s (iw (iw (iw (iw (iw s lc 2 0) 4 2 0) 4 3 0) 4 4 0) 4 5 1) := ⟨fun a q1 q2 q3 q4 => by rw [iw_ne q1, iw_ne q1, iw_ne q1, iw_ne q1, iw_ne q3], rfl⟩
  have s0 : cS lc [] [] 0 0 1 (iw (iw (iw (iw (iw s lc 2 0) 4 2 0) 4 3 0) 4 4 0) 4 5 1) := by
    refine ⟨?_, trivial, ?_, ?_, ?_, ?_, fun j hj => by cases hj⟩
    · rw [iw_at, zup_ne (by decide), iw_at, zup_ne (by decide), iw_at, zup_ne (by decide), iw_at, zup_same]; rfl
    · rw [iw_at, zup_ne (by decide), iw_at, zup_ne (by decide), iw_at, zup_same]
    · rw [iw_at, zup_ne (by decide), iw_at, zup_same]
    · rw [iw_at, zup_same]
    · rw [iw_ne (by omega), iw_ne (by omega), iw_ne (by omega), iw_ne (by omega), iw_at, zup_same]; rfl
  obtain ⟨v, a1, a2, a3⟩ := c_read_lp (N := N) hN hT hl r [] [] 0 0 true i _ N 0 z j o2 hr hv ⟨trivial, trivial, rfl, rfl, by decide, by show 0 + 0 < i; omega⟩ (f0.at1 hl hc) s0 (by decide) (by omega) (by omega)
  exact ⟨v, a1, f0.M.tr a2, a3⟩
end LAWC

/-! Laws read by the reference, beside run: products, sums, tests, all of it. -/
section LAWR2
variable {N : Nat} {s u v v1 : gI} {F G A B C T : Int → Int} {n e st lo hi c m zn br w b k d l cc : Int} {r i i2 lc : Nat} {σ τ o L : List Int} {P : gI → Option gI} {tp : Int → gI → Option gI}
def lpOut (F : Int → Int) (n l d : Int) (i : Nat) (c : Int) (s v : gI) : Prop := frK c s v ∧
  ((∃ i2 L, mAt F n i2 v ∧ v.1 63 15 = c + (L.length : Int) ∧ i + L.length ≤ i2 ∧ stq v c L ∧ (∀ b m : Int, 1 ≤ b → b + 4 * (5 - d) + (5 - l) ≤ m → wl m L b b) ∧ nxL F n l i2 ∧
    ∀ (τ σ o : List Int) (br : Nat), (∀ x, x ∈ τ → l ≤ str x) → cl2 F n l i τ σ → top σ < l → ∃ τ2 o2, Go F n (τ ++ σ) o br d false i (τ2 ++ σ) o2 br d false i2 ∧ o2 ++ τ2 = o ++ τ ++ L ∧ (∀ x, x ∈ τ2 → l ≤ str x) ∧ cl2 F n l i2 τ2 σ) ∨
   (∃ z, mBad z v ∧ c ≤ v.1 63 15 ∧ v.1 63 15 ≤ 1000 + 4 * (5 - d) + (5 - l) ∧ ∀ (τ σ o : List Int) (br : Nat), (∀ x, x ∈ τ → l ≤ str x) → top σ < l → Bd F n (τ ++ σ) o br d false i z))
theorem le_l1 {l : Int} (h : l ≤ 2) (h2 : l ≠ 2) : l + 1 ≤ 2 := by omega
theorem Go.rf {σ o : List Int} {br w : Int} {b : Bool} {i : Nat} : Go F n σ o br w b i σ o br w b i := ⟨0, fun _ => rfl⟩
theorem lp_nil (hm : mAt F n i s) (hc : s.1 63 15 = c) (hn : nxL F n l i) : lpOut F n l d i c s s :=
  ⟨frK.rf, Or.inl ⟨i, [], hm, by rw [hc]; show c = c + 0; omega, Nat.le_refl _, stq_nil, fun b m _ _ => rfl, hn, fun τ σ o br h1 h2 h3 => ⟨τ, o, Go.rf, by rw [List.append_nil], h1, h2⟩⟩⟩
theorem lp_cons (ln2 : l ≠ 2) (hs : str cc = l) (hf : frK c s v1) (h3 : i + (L ++ [cc]).length ≤ i2) (h4 : stq v1 c (L ++ [cc])) (h5 : ∀ b m : Int, 1 ≤ b → b + 4 * (5 - d) + (5 - l) ≤ m → wl m (L ++ [cc]) b b)
    (h7 : ∀ (τ σ o : List Int) (br : Nat), (∀ x, x ∈ τ → (if l = 2 then 3 else l) ≤ str x) → top σ < l → ∃ τ2 o2, Go F n (τ ++ σ) o br d false i ((τ2 ++ [cc]) ++ σ) o2 br d false i2 ∧ o2 ++ (τ2 ++ [cc]) = o ++ τ ++ (L ++ [cc]) ∧ (∀ x, x ∈ τ2 → l + 1 ≤ str x) ∧ cl2 F n (l + 1) i2 τ2 (cc :: σ))
    (hr : lpOut F n l d i2 (c + (L ++ [cc]).length) v1 v) : lpOut F n l d i c s v := by
  obtain ⟨r1, r2⟩ := hr
  rw [if_neg ln2] at h7
  have up : ∀ (τ σ o : List Int) (br : Nat), (∀ x, x ∈ τ → l ≤ str x) → top σ < l → ∃ τ2 o2, Go F n (τ ++ σ) o br d false i (τ2 ++ σ) o2 br d false i2 ∧ o2 ++ τ2 = o ++ τ ++ (L ++ [cc]) ∧ (∀ x, x ∈ τ2 → l ≤ str x) ∧ cl2 F n l i2 τ2 σ := fun τ σ o br g1 g2 => by
    obtain ⟨τ2, o2, g3, g4, g5, g6⟩ := h7 τ σ o br g1 g2
    refine ⟨τ2 ++ [cc], o2, g3, g4, fun x hx => ?_, fun q1 q2 => ?_⟩
    · rcases List.mem_append.mp hx with hx | hx
      · have := g5 x hx; omega
      · rw [List.mem_singleton.mp hx, hs]; exact Int.le_refl _
    · have := g6 (le_l1 q1 ln2) q2
      rw [List.append_assoc]
      exact this
  refine ⟨hf.tr r1 (by omega), ?_⟩
  rcases r2 with ⟨i3, L2, q1, q2, q3, q4, q5, q6, q7⟩ | ⟨z, q1, q2, q3, q4⟩
  · refine Or.inl ⟨i3, (L ++ [cc]) ++ L2, q1, ?_, ?_, ?_, fun b m hb hm => wl_app (h5 b m hb hm) (q5 b m hb hm), q6, fun τ σ o br g1 _ g2 => ?_⟩
    · rw [q2, List.length_append (as := L ++ [cc])]
      omega
    · rw [List.length_append (as := L ++ [cc])]
      omega
    · exact stq_app (stq_fr h4 r1 (Int.le_refl _)) q4
    · obtain ⟨τ2, o2, g3, g4, g5, g6⟩ := up τ σ o br g1 g2
      obtain ⟨τ3, o3, g7, g8, g9, g10⟩ := q7 τ2 σ o2 br g5 g6 g2
      exact ⟨τ3, o3, g3.tr g7, by rw [g8, g4, List.append_assoc (o ++ τ)], g9, g10⟩
  · refine Or.inr ⟨z, q1, by omega, q3, fun τ σ o br g1 g2 => ?_⟩
    obtain ⟨τ2, o2, g3, g4, g5, g6⟩ := up τ σ o br g1 g2
    exact g3.bd (q4 τ2 σ o2 br g5 g2)
theorem lv_cons (ln2 : l ≠ 2) (hf : frK c s v1) (h : lvOK F n (l + 1) d i c v1 i2 L) (hr : lpOut F n l d i2 (c + L.length) v1 v) : lvOut F n l d i c s v := by
  obtain ⟨h1, h2, h3, h3b, h4, h5, h6, h7⟩ := h
  obtain ⟨r1, r2⟩ := hr
  refine ⟨hf.tr r1 (by omega), ?_⟩
  have up : ∀ (σ o : List Int) (br : Nat), top σ < l → ∃ τ o2, Go F n σ o br d true i (τ ++ σ) o2 br d false i2 ∧ o2 ++ τ = o ++ L ∧ (∀ x, x ∈ τ → l ≤ str x) ∧ cl2 F n l i2 τ σ := fun σ o br g => by
    obtain ⟨τ, o2, g1, g2, g3, g4⟩ := h7 σ o br (by omega)
    exact ⟨τ, o2, g1, g2, fun x hx => by have := g3 x hx; omega, fun q1 q2 => g4 (le_l1 q1 ln2) q2⟩
  rcases r2 with ⟨i3, L2, q1, q2, q3, q4, q5, q6, q7⟩ | ⟨z, q1, q2, q3, q4⟩
  · refine Or.inl ⟨i3, L ++ L2, q1, ?_, ?_, by omega, stq_app (stq_fr h4 r1 (Int.le_refl _)) q4, fun b m hb hm => wl_app (h5 b m hb (by omega)) (q5 (b + 1) m (by omega) (by omega)), q6, fun σ o br g => ?_⟩
    · rw [q2, List.length_append]
      omega
    · rw [List.length_append]
      omega
    · obtain ⟨τ, o2, g1, g2, g3, g4⟩ := up σ o br g
      obtain ⟨τ2, o3, g5, g6, g7, g8⟩ := q7 τ σ o2 br g3 g4 g
      exact ⟨τ2, o3, g1.tr g5, by rw [g6, g2, List.append_assoc], g7, g8⟩
  · refine Or.inr ⟨z, q1, by omega, q3, fun σ o br g => ?_⟩
    obtain ⟨τ, o2, g1, g2, g3, g4⟩ := up σ o br g
    exact g1.bd (q4 τ σ o2 br g3 g)
theorem lv_bad {z : Int} (hf : frK c s v) (h : lvBad F n (l + 1) d i c v z) : lvOut F n l d i c s v := by
  obtain ⟨h1, h2, h3, h4⟩ := h
  exact ⟨hf, Or.inr ⟨z, h1, h2, by omega, fun σ o br g => h4 σ o br (by omega)⟩⟩
theorem jc_S {x : Int} (h : isS F n (tP F n i) x) : jc F n i = if x = 60 then 10006 else if x = 61 then 10007 else if x = 43 then 10008 else if x = 45 then 10009 else if x = 42 then 10010 else if x = 41 then 10012 else -1 := by
  obtain ⟨h1, h2⟩ := h
  unfold jc isW isS
  rw [h1, h2]
  simp only [show ¬ ((4 : Int) = 2) from by decide, false_and, if_false, true_and]
theorem jc_21 (h : isW F n (tP F n i) 21) : jc F n i = 10004 := if_pos h
theorem jc_22 (h : isW F n (tP F n i) 22) : jc F n i = 10005 := by
  unfold jc
  rw [if_neg (fun q => ?_), if_pos h]
  have := q.2.symm.trans h.2
  exact absurd this (by decide)
-- products
theorem m_prod_lp (hT : tpF F n) (hP : rdr F n 5 d (tp d)) (d0 : 0 ≤ d) (d5 : d ≤ 5) : ∀ (q fuel i : Nat) (c : Int) (s : gI), mAt F n i s → s.1 63 15 = c → 0 ≤ c → c ≤ i → (nxL F n 5 i) → 1001 ≤ q + i → q < fuel → ∃ v, f211_at5 N tp fuel d s = some v ∧ lpOut F n 4 d i c s v
  | 0, fuel, i, c, s, hm, hc, c0, ci, hn, hq, hf => by
    have := (mAt_i hT hm).1
    omega
  | q + 1, fuel, i, c, s, hm, hc, c0, ci, hn, hq, hf => by
    obtain ⟨fuel, rfl⟩ : ∃ g, fuel = g + 1 := ⟨fuel - 1, by omega⟩
    unfold f211_at5
    rw [m_hasSign hT hm]
    by_cases g : isS F n (tP F n i) 42
    rotate_left
    · rw [if_neg g, i_o2_some, if_pos rfl]
      exact ⟨s, rfl, lp_nil hm hc ⟨fun _ => g, fun h => by omega, fun h => by omega⟩⟩
    rw [if_pos g, i_o2_some, if_neg (by decide)]
    obtain ⟨v, e1, e2, e3⟩ := opd (N := N) (l := 4) (op := 6) (K := fun s4 => f211_at5 N tp fuel d s4) hT hP (by decide) (by decide) d0 d5 (cc := 10010) rfl (by decide) (by unfold codeR; omega) (by rw [jc_S g]; rfl) hm hc c0 ci
    rw [e1]
    rcases e3 with ⟨i2, L, a1, a2, a3, a4, a5, a6, a7⟩ | ⟨z, a1, a2, a3, a4⟩
    · have a3' := a3
      rw [List.length_append] at a3'
      have a3' : i + (L.length + 1) ≤ i2 := a3'
      obtain ⟨v2, b1, b2⟩ := m_prod_lp hT hP d0 d5 q fuel i2 _ v a1 a2 (by omega) (by omega) a6 (by omega) (by omega)
      exact ⟨v2, b1, lp_cons (by decide) rfl e2 a3 a4 a5 a7 b2⟩
    · obtain ⟨g2, rfl⟩ : ∃ g, fuel = g + 1 := ⟨fuel - 1, by omega⟩
      refine ⟨v, ?_, e2, Or.inr ⟨z, a1, a2, a3, a4⟩⟩
      unfold f211_at5
      rw [b_hasSign a1, i_o2_some, if_pos rfl]
theorem m_prod (hN : 5000 ≤ N) (hT : tpF F n) (hP : rdr F n 5 d (tp d)) (d0 : 0 ≤ d) (d5 : d ≤ 5) : rdr F n 4 d (f211 N tp d) := by
  intro s i c hm hc c0 ci
  obtain ⟨v1, a1, a2, a3⟩ := hP s i c hm hc c0 ci
  unfold f211
  rw [a1, i_o1_some]
  rcases a3 with ⟨i2, L, h⟩ | ⟨z, h⟩
  · obtain ⟨v, b1, b2⟩ := m_prod_lp (N := N) hT hP d0 d5 1001 N i2 _ v1 h.1 h.2.1 (by omega) (by have := h.2.2.1; omega) h.2.2.2.2.2.2.1 (by omega) (by omega)
    exact ⟨v, b1, lv_cons (l := 4) (by decide) a2 h b2⟩
  · obtain ⟨g, rfl⟩ : ∃ g, N = g + 1 := ⟨N - 1, by omega⟩
    refine ⟨v1, ?_, lv_bad (l := 4) a2 h⟩
    unfold f211_at5
    rw [b_hasSign h.1, i_o2_some, if_pos rfl]
-- sums
theorem m_sumL_lp (hN : 5000 ≤ N) (hT : tpF F n) (hP : rdr F n 4 d (f211 N tp d)) (d0 : 0 ≤ d) (d5 : d ≤ 5) : ∀ (q fuel i : Nat) (c : Int) (s : gI), mAt F n i s → s.1 63 15 = c → 0 ≤ c → c ≤ i → (nxL F n 4 i) → 1001 ≤ q + i → q < fuel → ∃ v, f210_at5 N tp fuel d s = some v ∧ lpOut F n 3 d i c s v
  | 0, fuel, i, c, s, hm, hc, c0, ci, hn, hq, hf => by
    have := (mAt_i hT hm).1
    omega
  | q + 1, fuel, i, c, s, hm, hc, c0, ci, hn, hq, hf => by
    obtain ⟨fuel, rfl⟩ : ∃ g, fuel = g + 1 := ⟨fuel - 1, by omega⟩
    have i1 := (mAt_i hT hm).1
    unfold f210_at5 f210_at23
    rw [m_isSign hT hm, i_o2_some, m_isSign hT hm, i_o2_some, m_isSign hT hm, i_o2_some, hm.2.1, iov_ok (by omega) (by omega)]
    try dsimp only
    have fin : ∀ (cc op : Int), str cc = 3 → (10004 ≤ cc ∧ cc ≤ 10010) → codeR cc op 0 → jc F n i = cc → ∃ v, (i_o1 (f211 N tp d (iw s 63 7 ((i : Int) + 1))) fun s4 => i_o1 (f207 N op 0 s4) fun s5 => f210_at5 N tp fuel d s5) = some v ∧ lpOut F n 3 d i c s v := fun cc op h1 h2 h3 h4 => by
      obtain ⟨v, e1, e2, e3⟩ := opd (N := N) (l := 3) (op := op) (K := fun s4 => f210_at5 N tp fuel d s4) hT hP (by decide) (by decide) d0 d5 (cc := cc) h1 h2 h3 h4 hm hc c0 ci
      rw [e1]
      rcases e3 with ⟨i2, L, a1, a2, a3, a4, a5, a6, a7⟩ | ⟨z, a1, a2, a3, a4⟩
      · have a3' := a3
        rw [List.length_append] at a3'
        have a3' : i + (L.length + 1) ≤ i2 := a3'
        obtain ⟨v2, b1, b2⟩ := m_sumL_lp hN hT hP d0 d5 q fuel i2 _ v a1 a2 (by omega) (by omega) a6 (by omega) (by omega)
        exact ⟨v2, b1, lp_cons (by decide) h1 e2 a3 a4 a5 a7 b2⟩
      · obtain ⟨g2, rfl⟩ : ∃ g, fuel = g + 1 := ⟨fuel - 1, by omega⟩
        refine ⟨v, ?_, e2, Or.inr ⟨z, a1, a2, a3, a4⟩⟩
        unfold f210_at5
        rw [b_isSign a1, i_o2_some, if_pos rfl, b_isSign a1, i_o2_some, if_pos rfl]
    by_cases g : isS F n (tP F n i) 43
    · rw [if_pos g]
      simp only [show ¬ ((1 : Int) = 0) from by decide, if_false]
      exact fin 10008 4 rfl (by decide) (by unfold codeR; omega) (by rw [jc_S g]; rfl)
    rw [if_neg g]
    simp only [if_true]
    by_cases g2 : isS F n (tP F n i) 45
    · rw [if_pos g2, if_neg (by decide)]
      exact fin 10009 5 rfl (by decide) (by unfold codeR; omega) (by rw [jc_S g2]; rfl)
    · rw [if_neg g2, if_pos rfl]
      exact ⟨s, rfl, lp_nil hm hc ⟨fun _ => hn.1 (by decide), fun _ => ⟨g, g2⟩, fun h => by omega⟩⟩
theorem m_sum (hN : 5000 ≤ N) (hT : tpF F n) (hP : rdr F n 4 d (f211 N tp d)) (d0 : 0 ≤ d) (d5 : d ≤ 5) : rdr F n 3 d (f210 N tp d) := by
  intro s i c hm hc c0 ci
  obtain ⟨v1, a1, a2, a3⟩ := hP s i c hm hc c0 ci
  unfold f210
  rw [a1, i_o1_some]
  rcases a3 with ⟨i2, L, h⟩ | ⟨z, h⟩
  · obtain ⟨v, b1, b2⟩ := m_sumL_lp (N := N) hN hT hP d0 d5 1001 N i2 _ v1 h.1 h.2.1 (by omega) (by have := h.2.2.1; omega) h.2.2.2.2.2.2.1 (by omega) (by omega)
    exact ⟨v, b1, lv_cons (l := 3) (by decide) a2 h b2⟩
  · obtain ⟨g, rfl⟩ : ∃ g, N = g + 1 := ⟨N - 1, by omega⟩
    refine ⟨v1, ?_, lv_bad (l := 3) a2 h⟩
    unfold f210_at5
    rw [b_isSign h.1, i_o2_some, if_pos rfl, b_isSign h.1, i_o2_some, if_pos rfl]
-- a test
theorem m_test (hN : 5000 ≤ N) (hT : tpF F n) (hP : rdr F n 3 d (f210 N tp d)) (d0 : 0 ≤ d) (d5 : d ≤ 5) : rdr F n 2 d (f209 N tp d) := by
  intro s i c hm hc c0 ci
  obtain ⟨v1, a1, a2, a3⟩ := hP s i c hm hc c0 ci
  unfold f209 f209_at30
  rw [a1, i_o1_some]
  rcases a3 with ⟨i2, L, h⟩ | ⟨z, h⟩
  rotate_left
  · refine ⟨v1, ?_, lv_bad (l := 2) a2 h⟩
    rw [b_isSign h.1, i_o2_some, b_hasSign h.1, i_o2_some, if_pos rfl, b_hasSign h.1, i_o2_some, if_pos rfl]
  have hm1 := h.1
  rw [m_isSign hT hm1, i_o2_some, m_hasSign hT hm1]
  have fin : ∀ (cc op : Int), str cc = 2 → (10004 ≤ cc ∧ cc ≤ 10010) → codeR cc op 0 → jc F n i2 = cc → ∃ v, (i_o1 (f210 N tp d (iw v1 63 7 ((i2 : Int) + 1))) fun s4 => i_o1 (f207 N op 0 s4) fun s5 => some s5) = some v ∧ lvOut F n 2 d i c s v := fun cc op h1 h2 h3 h4 => by
    obtain ⟨v, e1, e2, e3⟩ := opd (N := N) (l := 2) (op := op) (K := fun s4 => some s4) hT hP (by decide) (by decide) d0 d5 (cc := cc) h1 h2 h3 h4 hm1 h.2.1 (by omega) (by have := h.2.2.1; omega)
    rw [e1]
    refine ⟨v, rfl, a2.tr e2 (by omega), ?_⟩
    rcases e3 with ⟨i3, L2, q1, q2, q3, q4, q5, q6, q7⟩ | ⟨z, q1, q2, q3, q4⟩
    · refine Or.inl ⟨i3, L ++ (L2 ++ [cc]), q1, ?_, ?_, by have := h.2.2.2.1; omega, stq_app (stq_fr h.2.2.2.2.1 e2 (Int.le_refl _)) q4, fun b m hb hbm => wl_app (h.2.2.2.2.2.1 b m hb (by omega)) (q5 (b + 1) m (by omega) (by omega)), ⟨fun _ => q6.1 (by decide), fun _ => q6.2.1 (by decide), fun q => by omega⟩, fun σ o br g => ?_⟩
      · rw [q2, List.length_append (as := L)]
        omega
      · rw [List.length_append (as := L)]
        have := h.2.2.1
        omega
      · obtain ⟨τ, o2, g1, g2, g3, g4⟩ := h.2.2.2.2.2.2.2 σ o br (by omega)
        obtain ⟨τ2, o3, g5, g6, g7, g8⟩ := q7 τ σ o2 br (fun x hx => by rw [if_pos rfl]; exact g3 x hx) g
        refine ⟨τ2 ++ [cc], o3, g1.tr g5, by rw [g6, g2, List.append_assoc], fun x hx => ?_, fun _ _ => ?_⟩
        · rcases List.mem_append.mp hx with hx | hx
          · have := g7 x hx; omega
          · rw [List.mem_singleton.mp hx, h1]; exact Int.le_refl _
        · rw [List.append_assoc]
          have := (rl_all (τ := τ2) (σ := cc :: σ) (k := 3) g7 (by show str cc < 3; omega)).1
          have this : rlR 3 (τ2 ++ ([cc] ++ σ)) = cc :: σ := this
          rw [this]
          exact h1
    · refine Or.inr ⟨z, q1, by have := h.2.1; omega, q3, fun σ o br g => ?_⟩
      obtain ⟨τ, o2, g1, g2, g3, g4⟩ := h.2.2.2.2.2.2.2 σ o br (by omega)
      exact g1.bd (q4 τ σ o2 br (fun x hx => by rw [if_pos rfl]; exact g3 x hx) g)
  by_cases g : isS F n (tP F n i2) 60
  · rw [if_pos g, if_pos g, i_o2_some, if_neg (by decide)]
    simp only [show ¬ ((1 : Int) = 0) from by decide, if_false]
    exact fin 10006 7 rfl (by decide) (by unfold codeR; omega) (by rw [jc_S g]; rfl)
  rw [if_neg g, if_neg g, i_o2_some, if_pos rfl, m_hasSign hT hm1]
  by_cases g2 : isS F n (tP F n i2) 61
  · rw [if_pos g2, i_o2_some, if_neg (by decide)]
    simp only [if_true]
    exact fin 10007 8 rfl (by decide) (by unfold codeR; omega) (by rw [jc_S g2]; rfl)
  · rw [if_neg g2, i_o2_some, if_pos rfl]
    refine ⟨v1, rfl, a2, Or.inl ⟨i2, L, hm1, h.2.1, h.2.2.1, h.2.2.2.1, h.2.2.2.2.1, fun b m hb hbm => h.2.2.2.2.2.1 b m hb (by omega), ⟨fun _ => h.2.2.2.2.2.2.1.1 (by decide), fun _ => h.2.2.2.2.2.2.1.2.1 (by decide), fun q => by omega⟩, fun σ o br gt => ?_⟩⟩
    obtain ⟨τ, o2, g1, g2', g3, g4⟩ := h.2.2.2.2.2.2.2 σ o br (by omega)
    exact ⟨τ, o2, g1, g2', fun x hx => by have := g3 x hx; omega, fun _ q => by rcases q with q | q; exact absurd q g; exact absurd q g2⟩
-- tests joined
theorem m_all_lp (hN : 5000 ≤ N) (hT : tpF F n) (hP : rdr F n 2 d (f209 N tp d)) (d0 : 0 ≤ d) (d5 : d ≤ 5) : ∀ (q fuel i : Nat) (c : Int) (s : gI), mAt F n i s → s.1 63 15 = c → 0 ≤ c → c ≤ i → (nxL F n 2 i) → 1001 ≤ q + i → q < fuel → ∃ v, f208_at5 N tp fuel d s = some v ∧ lpOut F n 1 d i c s v
  | 0, fuel, i, c, s, hm, hc, c0, ci, hn, hq, hf => by
    have := (mAt_i hT hm).1
    omega
  | q + 1, fuel, i, c, s, hm, hc, c0, ci, hn, hq, hf => by
    obtain ⟨fuel, rfl⟩ : ∃ g, fuel = g + 1 := ⟨fuel - 1, by omega⟩
    have i1 := (mAt_i hT hm).1
    have w1 := m_isWord (N := N) (w := 21) hT hm (by decide)
    have w1 : f184 N 21 s = _ := w1
    have w2 := m_isWord (N := N) (w := 22) hT hm (by decide)
    have w2 : f184 N 22 s = _ := w2
    unfold f208_at5 f208_at23
    rw [w1, i_o2_some, w2, i_o2_some, w1, i_o2_some, hm.2.1, iov_ok (by omega) (by omega)]
    try dsimp only
    have fin : ∀ (cc op : Int), str cc = 1 → (10004 ≤ cc ∧ cc ≤ 10010) → codeR cc op 0 → jc F n i = cc → ∃ v, (i_o1 (f209 N tp d (iw s 63 7 ((i : Int) + 1))) fun s4 => i_o1 (f207 N op 0 s4) fun s5 => f208_at5 N tp fuel d s5) = some v ∧ lpOut F n 1 d i c s v := fun cc op h1 h2 h3 h4 => by
      obtain ⟨v, e1, e2, e3⟩ := opd (N := N) (l := 1) (op := op) (K := fun s4 => f208_at5 N tp fuel d s4) hT hP (by decide) (by decide) d0 d5 (cc := cc) h1 h2 h3 h4 hm hc c0 ci
      rw [e1]
      rcases e3 with ⟨i2, L, a1, a2, a3, a4, a5, a6, a7⟩ | ⟨z, a1, a2, a3, a4⟩
      · have a3' := a3
        rw [List.length_append] at a3'
        have a3' : i + (L.length + 1) ≤ i2 := a3'
        obtain ⟨v2, b1, b2⟩ := m_all_lp hN hT hP d0 d5 q fuel i2 _ v a1 a2 (by omega) (by omega) a6 (by omega) (by omega)
        exact ⟨v2, b1, lp_cons (by decide) h1 e2 a3 a4 a5 a7 b2⟩
      · obtain ⟨g2, rfl⟩ : ∃ g, fuel = g + 1 := ⟨fuel - 1, by omega⟩
        refine ⟨v, ?_, e2, Or.inr ⟨z, a1, a2, a3, a4⟩⟩
        unfold f208_at5
        rw [b_isWord a1, i_o2_some, if_pos rfl, b_isWord a1, i_o2_some, if_pos rfl]
    by_cases g : isW F n (tP F n i) 21
    · rw [if_pos g]
      simp only [show ¬ ((1 : Int) = 0) from by decide, if_false]
      exact fin 10004 9 rfl (by decide) (by unfold codeR; omega) (jc_21 g)
    rw [if_neg g]
    simp only [if_true]
    by_cases g2 : isW F n (tP F n i) 22
    · rw [if_pos g2, if_neg (by decide)]
      exact fin 10005 10 rfl (by decide) (by unfold codeR; omega) (jc_22 g2)
    · rw [if_neg g2, if_pos rfl]
      exact ⟨s, rfl, lp_nil hm hc ⟨fun _ => hn.1 (by decide), fun _ => hn.2.1 (by decide), fun _ => ⟨g, g2⟩⟩⟩
theorem m_all (hN : 5000 ≤ N) (hT : tpF F n) (hP : rdr F n 2 d (f209 N tp d)) (d0 : 0 ≤ d) (d5 : d ≤ 5) : rdr F n 1 d (f208 N tp d) := by
  intro s i c hm hc c0 ci
  obtain ⟨v1, a1, a2, a3⟩ := hP s i c hm hc c0 ci
  unfold f208
  rw [a1, i_o1_some]
  rcases a3 with ⟨i2, L, h⟩ | ⟨z, h⟩
  · obtain ⟨v, b1, b2⟩ := m_all_lp (N := N) hN hT hP d0 d5 1001 N i2 _ v1 h.1 h.2.1 (by omega) (by have := h.2.2.1; omega) h.2.2.2.2.2.2.1 (by omega) (by omega)
    exact ⟨v, b1, lv_cons (l := 1) (by decide) a2 h b2⟩
  · obtain ⟨g, rfl⟩ : ∃ g, N = g + 1 := ⟨N - 1, by omega⟩
    refine ⟨v1, ?_, lv_bad (l := 1) a2 h⟩
    unfold f208_at5
    rw [b_isWord h.1, i_o2_some, if_pos rfl, b_isWord h.1, i_o2_some, if_pos rfl]
theorem m_lv1 (hN : 5000 ≤ N) (hT : tpF F n) (hP : rdr F n 5 d (tp d)) (d0 : 0 ≤ d) (d5 : d ≤ 5) : rdr F n 1 d (f208 N tp d) := m_all hN hT (m_test hN hT (m_sum hN hT (m_prod hN hT hP d0 d5) d0 d5) d0 d5) d0 d5
end LAWR2

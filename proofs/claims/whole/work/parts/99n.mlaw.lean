/-! Laws read by the reference, beside run: a part, and the law whole. -/
section LAWR3
variable {N : Nat} {s u v v1 : gI} {F G A B C T : Int → Int} {n e st lo hi c m zn br w k d l cc : Int} {r i i2 lc a b : Nat} {σ τ o L : List Int} {P : gI → Option gI} {tp : Int → gI → Option gI}
theorem m_wordHere_lp (hT : tpF F n) (hm : mAt F n i s) (hab : a + b ≤ 28) : ∀ (r fuel x4 : Nat) (x3 : Int), x4 + r = b → r < fuel → ∃ w, f192_at5 N fuel a b x3 x4 s = some (w, s) ∧ ((w = x3 ∧ ∀ k : Nat, x4 ≤ k → k < b → ¬ isW F n (tP F n i) (a + k)) ∨ ∃ k : Nat, w = k ∧ k < b ∧ isW F n (tP F n i) (a + k))
  | 0, fuel, x4, x3, e, hf => by
    obtain ⟨fuel, rfl⟩ : ∃ g, fuel = g + 1 := ⟨fuel - 1, by omega⟩
    refine ⟨x3, ?_, Or.inl ⟨rfl, fun k h1 h2 => by omega⟩⟩
    unfold f192_at5
    rw [if_pos (by omega)]
  | r + 1, fuel, x4, x3, e, hf => by
    obtain ⟨fuel, rfl⟩ : ∃ g, fuel = g + 1 := ⟨fuel - 1, by omega⟩
    have w1 := m_isWord (N := N) (w := a + x4) hT hm (by omega)
    have ew : ((a + x4 : Nat) : Int) = (a : Int) + x4 := by omega
    rw [ew] at w1
    have e1 : (x4 : Int) + 1 = ((x4 + 1 : Nat) : Int) := by omega
    unfold f192_at5
    rw [if_neg (by omega), iov_ok (by omega) (by omega), w1, i_o2_some]
    by_cases g : isW F n (tP F n i) (a + x4)
    · rw [if_pos g, if_neg (by decide), iov_ok (by omega) (by omega), e1]
      obtain ⟨w, h1, h2⟩ := m_wordHere_lp hT hm hab r fuel (x4 + 1) x4 (by omega) (by omega)
      refine ⟨w, h1, ?_⟩
      rcases h2 with ⟨h2, h3⟩ | h2
      · exact Or.inr ⟨x4, h2, by omega, g⟩
      · exact Or.inr h2
    · rw [if_neg g, if_pos rfl, iov_ok (by omega) (by omega), e1]
      obtain ⟨w, h1, h2⟩ := m_wordHere_lp hT hm hab r fuel (x4 + 1) x3 (by omega) (by omega)
      refine ⟨w, h1, ?_⟩
      rcases h2 with ⟨h2, h3⟩ | h2
      · refine Or.inl ⟨h2, fun k k1 k2 => ?_⟩
        by_cases q : k = x4
        · rw [q]; exact g
        · exact h3 k (by omega) k2
      · exact Or.inr h2
theorem m_wordHere (hN : 5000 ≤ N) (hT : tpF F n) (hm : mAt F n i s) (hab : a + b ≤ 28) : ∃ w, f192 N a b s = some (w, s) ∧ ((w = -1 ∧ ∀ k : Nat, k < b → ¬ isW F n (tP F n i) (a + k)) ∨ ∃ k : Nat, w = k ∧ k < b ∧ isW F n (tP F n i) (a + k)) := by
  obtain ⟨w, h1, h2⟩ := m_wordHere_lp (N := N) hT hm hab b N 0 (-1) (by omega) (by omega)
  refine ⟨w, h1, ?_⟩
  rcases h2 with ⟨h2, h3⟩ | h2
  · exact Or.inl ⟨h2, fun k hk => h3 k (by omega) hk⟩
  · exact Or.inr h2
theorem words_inj : ∀ x y : Fin 28, wordsT.getD x.val 0 = wordsT.getD y.val 0 → x = y := by decide +kernel
theorem isW_inj {x y : Nat} (hx : x < 28) (hy : y < 28) (h1 : isW F n st x) (h2 : isW F n st y) : x = y := by
  have := words_inj ⟨x, hx⟩ ⟨y, hy⟩ (h1.2.symm.trans h2.2)
  exact congrArg Fin.val this
theorem en_top (h : top σ < 5) : enR σ = σ ∧ enP σ = [] := by
  cases σ with
  | nil => exact ⟨rfl, rfl⟩
  | cons c σ =>
    have h : str c < 5 := h
    have : c ≠ 10003 := fun q => by
      rw [q] at h
      have : str 10003 = 5 := rfl
      omega
    exact ⟨if_neg this, if_neg this⟩
def ptOut (F : Int → Int) (n d : Int) (i : Nat) (c : Int) (s v : gI) : Prop := frK c s v ∧
  ((∃ i2 L, mAt F n i2 v ∧ v.1 63 15 = c + (L.length : Int) ∧ i + L.length ≤ i2 ∧ i < i2 ∧ stq v c L ∧ (∀ b m : Int, 0 ≤ b → b + 4 * (5 - d) + 1 ≤ m → wl m L b (b + 1)) ∧ ∀ (σ o : List Int) (br : Nat), Go F n σ o br d true i (enR σ) (o ++ L ++ enP σ) br (d - (enP σ).length) false i2) ∨
   (∃ z, mBad z v ∧ c ≤ v.1 63 15 ∧ v.1 63 15 ≤ 1000 + 4 * (5 - d) ∧ ∀ (σ o : List Int) (br : Nat), Bd F n σ o br d true i z))
theorem pt_lv (h : ptOut F n d i c s v) : lvOut F n 5 d i c s v := by
  refine ⟨h.1, ?_⟩
  rcases h.2 with ⟨i2, L, h1, h2, h3, h4, h5, h6, h7⟩ | ⟨z, h1, h2, h3, h4⟩
  · refine Or.inl ⟨i2, L, h1, h2, h3, h4, h5, fun b m hb hm => h6 b m hb (by omega), ⟨fun q => by omega, fun q => by omega, fun q => by omega⟩, fun σ o br g => ⟨[], o ++ L, ?_, List.append_nil _, fun x hx => (by cases hx), fun q => by omega⟩⟩
    obtain ⟨e1, e2⟩ := en_top g
    have := h7 σ o br
    rw [e1, e2, List.append_nil] at this
    have e3 : d - (([] : List Int).length : Int) = d := by show d - 0 = d; omega
    rw [e3] at this
    exact this
  · exact Or.inr ⟨z, h1, h2, by omega, fun σ o br _ => h4 σ o br⟩
theorem jc_none (h1 : nxL F n 1 i) (h2 : ¬ isS F n (tP F n i) 60) (h3 : ¬ isS F n (tP F n i) 61) (h4 : ¬ isS F n (tP F n i) 41) : jc F n i = -1 := by
  unfold jc
  rw [if_neg (h1.2.2 (by decide)).1, if_neg (h1.2.2 (by decide)).2, if_neg h2, if_neg h3, if_neg (h1.2.1 (by decide)).1, if_neg (h1.2.1 (by decide)).2, if_neg (h1.1 (by decide)), if_neg h4]
/-- a part's end that isn't one -/
theorem bd_end (h1 : nxL F n 1 i) (h2 : cl2 F n 1 i τ σ) (h : (br ≠ 0 ∧ ¬ isS F n (tP F n i) 41) ∨ (br = 0 ∧ jc F n i ≠ -1)) : Bd F n (τ ++ σ) o br w false i (1 + 16 * tP F n i) := by
  refine ⟨1, i, o, fun r => ?_⟩
  unfold run
  by_cases g60 : isS F n (tP F n i) 60 ∨ isS F n (tP F n i) 61
  · have ej : jc F n i = 10006 ∨ jc F n i = 10007 := by
      rcases g60 with g | g
      · exact Or.inl (by rw [jc_S g]; rfl)
      · exact Or.inr (by rw [jc_S g]; rfl)
    have es : str (jc F n i) = 2 := by rcases ej with q | q <;> rw [q] <;> rfl
    rw [if_neg (by omega), if_neg (by omega), if_pos es, if_pos (h2 (by decide) g60)]
  · have n60 : ¬ isS F n (tP F n i) 60 := fun q => g60 (Or.inl q)
    have n61 : ¬ isS F n (tP F n i) 61 := fun q => g60 (Or.inr q)
    by_cases g41 : isS F n (tP F n i) 41
    · have ej : jc F n i = 10012 := by rw [jc_S g41]; rfl
      rcases h with h | h
      · exact absurd g41 h.2
      · rw [if_neg h.2, if_pos ej, if_pos h.1]
    · have ej := jc_none h1 n60 n61 g41
      rcases h with h | h
      · rw [if_pos ej, if_neg h.1]
      · exact absurd ej h.2
theorem m_part (hN : 5000 ≤ N) (hT : tpF F n) : ∀ (rd : Nat) (d : Int), d + rd = 7 → 0 ≤ d → d ≤ 5 → ∀ (s : gI) (i : Nat) (c : Int), mAt F n i s → s.1 63 15 = c → 0 ≤ c → c ≤ i → ∃ v, f212 N rd d s = some v ∧ ptOut F n d i c s v
  | 0, d, e, d0, d5, _, _, _, _, _, _, _ => by omega
  | rd + 1, d, e, d0, d5, s, i, c, hm, hc, c0, ci => by
    obtain ⟨k1, k2, k3⟩ := mAt_k hT hm
    have i1 := (mAt_i hT hm).1
    have kr := tK_rg (F := F) (n := n) (st := tP F n i)
    have rg := tP_rg (F := F) hT.1.1 i
    have hT1 := hT.1
    obtain ⟨w, w1, w2⟩ := m_wordHere (N := N) (a := 23) (b := 3) hN hT hm (by decide)
    have w1 : f192 N 23 3 s = some (w, s) := w1
    have ww := m_isWord (N := N) (w := 20) hT hm (by decide)
    have ww : f184 N 20 s = _ := ww
    have hw := m_hasWord (N := N) (w := 20) hT hm (by decide)
    have hw : f187 N 20 s = _ := hw
    unfold f212 f212_at26
    try dsimp only
    rw [hm.2.2.1, if_pos (by decide), hm.2.1, ick_ok (by omega) (by omega), k1]
    -- a fault on the spot
    have flt : ∀ z : Int, 0 < z → z ≤ 16 → (∀ (σ o : List Int) (br : Nat), Bd F n σ o br d true i (z + 16 * tP F n i)) → ∀ x2 x3 : Int, ∃ v, f212_at79 N (f212 N rd) d x2 x3 (iw s 63 8 (z + 16 * tP F n i)) = some v ∧ ptOut F n d i c s v := fun z z0 z1 hb x2 x3 => by
      have mb := mBad_of (z := z) hT hm z0
      unfold f212_at79
      rw [mb.1, if_neg (by omega)]
      exact ⟨_, rfl, frK.wr (Or.inr (Or.inl rfl)), Or.inr ⟨_, mb, by rw [iw_at, zup_ne (by decide), hc]; exact Int.le_refl _, by rw [iw_at, zup_ne (by decide), hc]; omega, hb⟩⟩
    -- nothing that a part begins with
    by_cases gp : pc F n i = -1
    · have n3 : ¬ tK F n (tP F n i) = 3 := fun q => by
        unfold pc at gp
        rw [if_pos q] at gp
        have := tV_num q
        omega
      have gp2 := gp
      unfold pc at gp2
      rw [if_neg n3] at gp2
      have n23 : ¬ isW F n (tP F n i) 23 := fun q => by rw [if_pos q] at gp2; omega
      rw [if_neg n23] at gp2
      have n24 : ¬ isW F n (tP F n i) 24 := fun q => by rw [if_pos q] at gp2; omega
      rw [if_neg n24] at gp2
      have n25 : ¬ isW F n (tP F n i) 25 := fun q => by rw [if_pos q] at gp2; omega
      rw [if_neg n25] at gp2
      have n20 : ¬ isW F n (tP F n i) 20 := fun q => by rw [if_pos q] at gp2; omega
      rw [if_neg n20] at gp2
      have n40 : ¬ isS F n (tP F n i) 40 := fun q => by rw [if_pos q] at gp2; omega
      have ew : w = -1 := by
        rcases w2 with h | ⟨k, h1, h2, h3⟩
        · exact h.1
        · rcases (by omega : k = 0 ∨ k = 1 ∨ k = 2) with q | q | q <;> subst q
          · exact absurd h3 n23
          · exact absurd h3 n24
          · exact absurd h3 n25
      have ek : ¬ mso (tK F n (tP F n i)) = 2 := fun z => n3 ((mso_is kr.1 kr.2 (z := 3) (Or.inr (by decide))).mp z)
      rw [if_neg ek, w1, i_o2_some, ew, if_neg (by decide), if_pos rfl, m_isSign hT hm, i_o2_some, if_neg n40, if_pos rfl, ww, i_o2_some, if_neg n20, if_pos rfl, m_wrong hT hm (by decide) (by decide), i_o1_some]
      exact flt 1 (by decide) (by decide) (fun σ o br => ⟨1, i, o, fun r => by unfold run; rw [if_pos gp]⟩) _ _
    -- what a part begins with
    have go : ∀ x2 : Int, (x2 = 0 ↔ tK F n (tP F n i) ≠ 3) → ∃ v, f212_at69 N (f212 N rd) d x2 w s = some v ∧ ptOut F n d i c s v := fun x2 hx2 => by
      unfold f212_at69
      by_cases g5 : d = 5
      · rw [if_pos g5, m_wrong hT hm (by decide) (by decide), i_o1_some]
        exact flt 5 (by decide) (by decide) (fun σ o br => ⟨1, i, o, fun r => by unfold run; rw [if_neg gp, if_pos (by omega)]⟩) _ _
      rw [if_neg g5]
      obtain ⟨k0, kp⟩ := pc_rg gp
      have hm2 := mAt_up hm k0
      have i2 := (mAt_i hT hm2).1
      unfold f212_at79
      rw [hm.2.2.1, if_pos (by decide), hw]
      by_cases g20 : isW F n (tP F n i) 20
      · -- not
        rw [if_pos g20, i_o2_some, if_neg (by decide), iov_ok (by omega) (by omega)]
        have ep : pc F n i = 10003 := by
          have t2 := g20.1
          unfold pc
          rw [if_neg (by omega), if_neg (fun q => absurd (isW_inj (by decide) (by decide) q g20) (by decide)), if_neg (fun q => absurd (isW_inj (by decide) (by decide) q g20) (by decide)), if_neg (fun q => absurd (isW_inj (by decide) (by decide) q g20) (by decide)), if_pos g20]
        have step : ∀ (σ o : List Int) (br : Nat), Go F n σ o br d true i (10003 :: σ) o br (d + 1) true (i + 1) := fun σ o br => ⟨1, fun r => by
          show run F n (r + 1) σ o br d true i = _
          conv => lhs; unfold run
          rw [if_neg gp, if_neg (by omega), if_pos ep]⟩
        obtain ⟨v1, a1, a2, a3⟩ := m_part hN hT rd (d + 1) (by omega) (by omega) (by omega) _ (i + 1) c hm2 (by rw [iw_at, zup_ne (by decide)]; exact hc) c0 (by omega)
        rw [a1, i_o1_some]
        have f0 : frK c s v1 := (frK.wr (Or.inl rfl)).tr a2 (Int.le_refl _)
        rcases a3 with ⟨i3, L, h1, h2, h3, h4, h5, h6, h7⟩ | ⟨z, h1, h2, h3, h4⟩
        · have i4 := (mAt_i hT h1).1
          obtain ⟨v, b1, b2, b3, b4, b5, b6, b7⟩ := m_emit (N := N) (s := v1) (x := 3) (y := 0) h2 (by omega) (by omega)
          rw [b1, i_o1_some]
          have el : ((L ++ [10003]).length : Int) = (L.length : Int) + 1 := by rw [List.length_append]; rfl
          refine ⟨v, rfl, f0.tr b2 (by omega), Or.inl ⟨i3, L ++ [10003], mAt_K h1 b2 b4 b5, by rw [b3, el]; omega, by omega, by omega, ?_, fun b m hb hbm => wl_app (h6 b m hb (by omega)) ?_, fun σ o br => ?_⟩⟩
          · refine stq_app (stq_fr h5 b2 (Int.le_refl _)) (fun j hj => ?_)
            have hj : j < 1 := hj
            have : j = 0 := by omega
            subst this
            rw [show 1100 + (c + (L.length : Int)) + ((0 : Nat) : Int) = 1100 + (c + L.length) by omega, b6, b7]
            exact Or.inr (Or.inr (Or.inl ⟨rfl, rfl⟩))
          · show (if (10003 : Int) < 10003 then b + 1 < m ∧ wl m [] (b + 1 + 1) (b + 1) else if (10003 : Int) = 10003 then 1 ≤ b + 1 ∧ wl m [] (b + 1) (b + 1) else 2 ≤ b + 1 ∧ wl m [] (b + 1 - 1) (b + 1))
            rw [if_neg (by decide), if_pos rfl]
            exact ⟨by omega, rfl⟩
          · have := (step σ o br).tr (h7 (10003 :: σ) o br)
            have e1 : enR (10003 :: σ) = enR σ := if_pos rfl
            have e2 : enP (10003 :: σ) = 10003 :: enP σ := if_pos rfl
            have e3 : d + 1 - (((10003 :: enP σ).length : Nat) : Int) = d - (enP σ).length := by
              show d + 1 - (((enP σ).length + 1 : Nat) : Int) = _
              omega
            rw [e1, e2, e3] at this
            have e4 : o ++ (L ++ [10003]) ++ enP σ = o ++ L ++ (10003 :: enP σ) := by
              rw [← List.append_assoc o L, List.append_assoc (o ++ L)]
              rfl
            rw [e4]
            exact this
        · obtain ⟨v, b1, b2, b3, b4, b5, -, -⟩ := m_emit (N := N) (s := v1) (x := 3) (y := 0) (c := v1.1 63 15) rfl (by omega) (by omega)
          rw [b1, i_o1_some]
          exact ⟨v, rfl, f0.tr b2 h2, Or.inr ⟨z, h1.of b4 b5, by omega, by omega, fun σ o br => (step σ o br).bd (h4 (10003 :: σ) o br)⟩⟩
      rw [if_neg g20, i_o2_some, if_pos rfl, m_hasSign hT hm]
      by_cases g40 : isS F n (tP F n i) 40
      · -- ( )
        rw [if_pos g40, i_o2_some, if_neg (by decide), iov_ok (by omega) (by omega)]
        have ep : pc F n i = 10011 := by
          have t4 := g40.1
          unfold pc
          rw [if_neg (by omega), if_neg (fun q => by have := q.1; omega), if_neg (fun q => by have := q.1; omega), if_neg (fun q => by have := q.1; omega), if_neg g20, if_pos g40]
        have step : ∀ (σ o : List Int) (br : Nat), Go F n σ o br d true i (10011 :: σ) o ((br + 1 : Nat) : Int) (d + 1) true (i + 1) := fun σ o br => ⟨1, fun r => by
          show run F n (r + 1) σ o br d true i = _
          conv => lhs; unfold run
          rw [if_neg gp, if_neg (by omega), if_neg (by omega), if_pos ep]
          rfl⟩
        have hP : rdr F n 5 (d + 1) (f212 N rd (d + 1)) := fun s i c h1 h2 h3 h4 => by
          obtain ⟨v, q1, q2⟩ := m_part hN hT rd (d + 1) (by omega) (by omega) (by omega) s i c h1 h2 h3 h4
          exact ⟨v, q1, pt_lv q2⟩
        obtain ⟨v1, a1, a2, a3⟩ := m_lv1 (tp := f212 N rd) hN hT hP (by omega) (by omega) _ (i + 1) c hm2 (by rw [iw_at, zup_ne (by decide)]; exact hc) c0 (by omega)
        rw [a1, i_o1_some]
        have f0 : frK c s v1 := (frK.wr (Or.inl rfl)).tr a2 (Int.le_refl _)
        rcases a3 with ⟨i3, L, h1, h2, h3, h4, h5, h6, h7, h8⟩ | ⟨z, h1, h2, h3, h4⟩
        rotate_left
        · rw [b_takeSign h1, i_o1_some]
          exact ⟨v1, rfl, f0, Or.inr ⟨z, h1, h2, by omega, fun σ o br => (step σ o br).bd (h4 (10011 :: σ) o (br + 1) (by show (0 : Int) < 1; decide))⟩⟩
        have i4 := (mAt_i hT h1).1
        rw [m_takeSign hT h1, i_o1_some]
        by_cases g41 : isS F n (tP F n i3) 41
        · rw [if_pos g41]
          have hm4 := mAt_up h1 (by have := g41.1; omega)
          refine ⟨_, rfl, f0.tr (frK.wr (c := c) (Or.inl rfl)) (Int.le_refl _), Or.inl ⟨i3 + 1, L, hm4, by rw [iw_at, zup_ne (by decide)]; exact h2, by omega, by omega, stq_fr h5 (frK.wr (c := c + L.length) (Or.inl rfl)) (Int.le_refl _), fun b m hb hbm => h6 b m hb (by omega), fun σ o br => ?_⟩⟩
          obtain ⟨τ, o2, q1, q2, q3, q4⟩ := h8 (10011 :: σ) o (br + 1) (by show (0 : Int) < 1; decide)
          refine ((step σ o br).tr q1).tr ⟨1, fun r => ?_⟩
          show run F n (r + 1) (τ ++ 10011 :: σ) o2 _ _ false i3 = _
          conv => lhs; unfold run
          have ej : jc F n i3 = 10012 := by rw [jc_S g41]; rfl
          obtain ⟨x1, x2⟩ := rl_all (τ := τ) (σ := 10011 :: σ) (k := 1) q3 (by show (0 : Int) < 1; decide)
          rw [if_neg (by omega), if_pos ej, if_neg (by omega), x1, x2, q2]
          have y1 : ((br + 1 : Nat) : Int) - 1 = br := by omega
          have y2 : d + 1 - 1 - ((enP σ).length : Int) = d - (enP σ).length := by omega
          show run F n r (enR σ) (o ++ L ++ enP σ) (((br + 1 : Nat) : Int) - 1) (d + 1 - 1 - ((enP σ).length : Int)) false (i3 + 1) = _
          rw [y1, y2]
        · rw [if_neg g41]
          have mb := mBad_of (z := 1) hT h1 (by decide)
          refine ⟨_, rfl, f0.tr (frK.wr (c := c) (Or.inr (Or.inl rfl))) (Int.le_refl _), Or.inr ⟨_, mb, by rw [iw_at, zup_ne (by decide)]; omega, by rw [iw_at, zup_ne (by decide)]; omega, fun σ o br => ?_⟩⟩
          obtain ⟨τ, o2, q1, q2, q3, q4⟩ := h8 (10011 :: σ) o (br + 1) (by show (0 : Int) < 1; decide)
          exact ((step σ o br).tr q1).bd (bd_end h7 q4 (Or.inl ⟨by omega, g41⟩))
      -- a NUMBER, a fact
      rw [if_neg g40, i_o2_some, if_pos rfl]
      have sim : ∀ (p q : Int), codeR (pc F n i) p q → (0 ≤ pc F n i ∧ pc F n i < 10003) → ∃ v, f212_at165 N (f212 N rd) q p s = some v ∧ ptOut F n d i c s v := fun p q hR hp => by
        unfold f212_at165
        obtain ⟨v1, b1, b2, b3, b4, b5, b6, b7⟩ := m_emit (N := N) (s := s) (x := p) (y := q) hc c0 (by omega)
        rw [b1, i_o1_some, b4, hm.2.1, iov_ok (by omega) (by omega)]
        have hm3 := mAt_up (mAt_K hm b2 b4 b5) k0
        refine ⟨_, rfl, b2.tr (frK.wr (Or.inl rfl)) (Int.le_refl c), Or.inl ⟨i + 1, [pc F n i], hm3, by rw [iw_at, zup_ne (by decide)]; exact b3, Nat.le_refl _, by omega, fun j hj => ?_, fun b m hb hbm => ?_, fun σ o br => ⟨1, fun r => ?_⟩⟩⟩
        · have hj : j < 1 := hj
          have : j = 0 := by omega
          subst this
          rw [iw_ne (by decide), iw_ne (by decide), show 1100 + c + ((0 : Nat) : Int) = 1100 + c by omega, b6, b7]
          exact hR
        · show (if pc F n i < 10003 then b < m ∧ wl m [] (b + 1) (b + 1) else if pc F n i = 10003 then 1 ≤ b ∧ wl m [] b (b + 1) else 2 ≤ b ∧ wl m [] (b - 1) (b + 1))
          rw [if_pos hp.2]
          exact ⟨by omega, rfl⟩
        · show run F n (r + 1) σ o br d true i = _
          conv => lhs; unfold run
          rw [if_neg gp, if_neg (by omega), if_neg (by omega), if_neg (by omega)]
      unfold f212_at147
      by_cases g3 : tK F n (tP F n i) = 3
      · have ep : pc F n i = tV F n (tP F n i) := if_pos g3
        have vr := tV_num g3
        have nx2 : x2 ≠ 0 := fun q => (hx2.mp q) g3
        rw [if_neg nx2, if_neg nx2, hm.2.1, ick_ok (by omega) (by omega), k3 (by omega), bmod32 (by omega) (by omega)]
        exact sim 1 _ (Or.inl ⟨by omega, by omega, rfl, ep.symm⟩) (by omega)
      · have nx2 : x2 = 0 := hx2.mpr g3
        rw [if_pos nx2, if_pos nx2]
        have ep : ∃ k : Nat, w = k ∧ k < 3 ∧ pc F n i = 10000 + k := by
          unfold pc at gp ⊢
          rw [if_neg g3] at gp ⊢
          rcases w2 with ⟨h1, h2⟩ | ⟨k, h1, h2, h3⟩
          · exfalso
            rw [if_neg (h2 0 (by decide)), if_neg (h2 1 (by decide)), if_neg (h2 2 (by decide)), if_neg g20, if_neg g40] at gp
            exact gp rfl
          · refine ⟨k, h1, h2, ?_⟩
            rcases (by omega : k = 0 ∨ k = 1 ∨ k = 2) with q | q | q <;> subst q
            · rw [if_pos h3]; rfl
            · rw [if_neg (fun q => absurd (isW_inj (by decide) (by decide) q h3) (by decide)), if_pos h3]; rfl
            · rw [if_neg (fun q => absurd (isW_inj (by decide) (by decide) q h3) (by decide)), if_neg (fun q => absurd (isW_inj (by decide) (by decide) q h3) (by decide)), if_pos h3]; rfl
        obtain ⟨kk, e1, e2, e3⟩ := ep
        rw [e1]
        exact sim 2 kk (Or.inr (Or.inl ⟨by omega, by omega, rfl, by omega⟩)) (by omega)
    by_cases g3 : tK F n (tP F n i) = 3
    · have ek : mso (tK F n (tP F n i)) = 2 := by rw [g3]; rfl
      rw [if_pos ek, w1, i_o2_some]
      have := go 1 ⟨fun q => by omega, fun q => absurd g3 q⟩
      split
      · exact this
      · rw [if_neg (by decide)]; exact this
    · have ek : ¬ mso (tK F n (tP F n i)) = 2 := fun z => g3 ((mso_is kr.1 kr.2 (z := 3) (Or.inr (by decide))).mp z)
      rw [if_neg ek, w1, i_o2_some]
      have := go 0 ⟨fun _ => g3, fun _ => rfl⟩
      by_cases g0 : 0 ≤ w
      · rw [if_pos g0]; exact this
      rw [if_neg g0, if_pos rfl, m_isSign hT hm, i_o2_some]
      by_cases g40 : isS F n (tP F n i) 40
      · rw [if_pos g40, if_neg (by decide)]; exact this
      rw [if_neg g40, if_pos rfl, ww, i_o2_some]
      by_cases g20 : isW F n (tP F n i) 20
      · rw [if_pos g20, if_neg (by decide)]; exact this
      · exfalso
        unfold pc at gp
        rw [if_neg g3] at gp
        rcases w2 with ⟨h1, h2⟩ | ⟨k, h1, h2, h3⟩
        · rw [if_neg (h2 0 (by decide)), if_neg (h2 1 (by decide)), if_neg (h2 2 (by decide)), if_neg g20, if_neg g40] at gp
          exact gp rfl
        · omega
theorem m_law1 (hN : 5000 ≤ N) (hT : tpF F n) : rdr F n 1 0 (f208 N (f212 N 7) 0) :=
  m_lv1 hN hT (fun s i c h1 h2 h3 h4 => by
    obtain ⟨v, q1, q2⟩ := m_part hN hT 7 0 (by decide) (by decide) (by decide) s i c h1 h2 h3 h4
    exact ⟨v, q1, pt_lv q2⟩) (by decide) (by decide)
end LAWR3

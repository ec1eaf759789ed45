/-! The reference's tape, cut at once. -/
section MTAPE
variable {N : Nat} {s u v : gI} {F G A B C : Int → Int} {n e st lo hi c m zn : Int} {r i w : Nat}
def cut (s : gI) (A B C : Int → Int) : gI := (fun c => if c = 65 then A else if c = 66 then B else s.1 c, fun c => if c = 67 then C else s.2 c)
theorem cut_65 : (cut s A B C).1 65 = A := rfl
theorem cut_66 : (cut s A B C).1 66 = B := rfl
theorem cut_67 : (cut s A B C).2 67 = C := rfl
theorem cut_ne {a : Nat} (h1 : a ≠ 65) (h2 : a ≠ 66) : (cut s A B C).1 a = s.1 a := (if_neg h1).trans (if_neg h2)
theorem cut_l {a : Nat} (h1 : a ≠ 67) : (cut s A B C).2 a = s.2 a := if_neg h1
theorem cut_self : cut s (s.1 65) (s.1 66) (s.2 67) = s := by
  refine Prod.ext (funext fun c => ?_) (funext fun c => ?_)
  · show (if c = 65 then s.1 65 else if c = 66 then s.1 66 else s.1 c) = s.1 c
    by_cases h : c = 65
    · rw [if_pos h, h]
    · rw [if_neg h]
      by_cases h2 : c = 66
      · rw [if_pos h2, h2]
      · rw [if_neg h2]
  · show (if c = 67 then s.2 67 else s.2 c) = s.2 c
    by_cases h : c = 67
    · rw [if_pos h, h]
    · rw [if_neg h]
theorem cut_w65 {x y : Int} : iw (cut s A B C) 65 x y = cut s (zup A x y) B C := by
  refine gI_ext (fun c => ?_) rfl
  by_cases h : c = 65
  · subst h; rw [iw_at, cut_65, cut_65]
  · rw [iw_ne h]
    show (if c = 65 then A else if c = 66 then B else s.1 c) = (if c = 65 then zup A x y else if c = 66 then B else s.1 c)
    rw [if_neg h, if_neg h]
theorem cut_w66 {x y : Int} : iw (cut s A B C) 66 x y = cut s A (zup B x y) C := by
  refine gI_ext (fun c => ?_) rfl
  by_cases h : c = 66
  · subst h; rw [iw_at, cut_66, cut_66]
  · rw [iw_ne h]
    show (if c = 65 then A else if c = 66 then B else s.1 c) = (if c = 65 then A else if c = 66 then zup B x y else s.1 c)
    rw [if_neg h, if_neg h]
theorem cut_w67 {x y : Int} : iwl (cut s A B C) 67 x y = cut s A B (zup C x y) := by
  refine gI_ext (fun c => rfl) (funext fun c => ?_)
  by_cases h : c = 67
  · subst h; rw [iwl_at, cut_67, cut_67]
  · rw [iwl_ne h]
    show (if c = 67 then C else s.2 c) = (if c = 67 then zup C x y else s.2 c)
    rw [if_neg h, if_neg h]
theorem m_isLetter : f177 N c s = some (if 97 ≤ c ∧ c ≤ 122 then 1 else 0, s) := by
  unfold f177
  by_cases h : c < 97
  · rw [if_pos h, if_neg (by omega), ib1_ok (Or.inl rfl)]
  · rw [if_neg h]
    by_cases h2 : 122 < c
    · rw [if_pos h2, if_neg (by omega), ib1_ok (Or.inl rfl)]
    · rw [if_neg h2, if_pos (by omega), ib1_ok (Or.inr rfl)]
theorem m_isDigit : f178 N c s = some (if 48 ≤ c ∧ c ≤ 57 then 1 else 0, s) := by
  unfold f178
  by_cases h : c < 48
  · rw [if_pos h, if_neg (by omega), ib1_ok (Or.inl rfl)]
  · rw [if_neg h]
    by_cases h2 : 57 < c
    · rw [if_pos h2, if_neg (by omega), ib1_ok (Or.inl rfl)]
    · rw [if_neg h2, if_pos (by omega), ib1_ok (Or.inr rfl)]
theorem m_isSignOf : f180 N c s = some (if isSg c then 1 else 0, s) := by
  unfold f180
  simp only [ib1_ok (show (1 : Int) = 0 ∨ (1 : Int) = 1 from Or.inr rfl), ib1_ok (show (0 : Int) = 0 ∨ (0 : Int) = 1 from Or.inl rfl)]
  by_cases h : isSg c
  · rw [if_pos h]
    rcases h with h | h | h | h | h | h | h | h <;> subst h <;> rfl
  · rw [if_neg h]
    unfold isSg at h
    rw [if_neg (by omega), if_neg (by omega), if_neg (by omega), if_neg (by omega), if_neg (by omega), if_neg (by omega), if_neg (by omega), if_neg (by omega)]
/-- a kind as the reference tells it -/
def mso (k : Int) : Int := if k = 0 then 0 else if k = 1 then 4 else k - 1
def tks (F : Int → Int) (n : Int) (A B C : Int → Int) (m : Nat) : Prop := ∀ i : Nat, i < m → lv F n i → A i = mso (tK F n (tP F n i)) ∧ B i = tP F n i ∧ (2 ≤ tK F n (tP F n i) → C i = tV F n (tP F n i))
theorem tks_up (h : tks F n A B C i) {a b c : Int} (ha : a = mso (tK F n (tP F n i))) (hb : b = tP F n i) (hc : 2 ≤ tK F n (tP F n i) → c = tV F n (tP F n i)) : tks F n (zup A i a) (zup B i b) (zup C i c) (i + 1) := by
  intro j hj hl
  by_cases g : j = i
  · subst g
    rw [zup_same, zup_same, zup_same]
    exact ⟨ha, hb, hc⟩
  · rw [zup_ne (by omega), zup_ne (by omega), zup_ne (by omega)]
    exact h j (by omega) hl
section RUNS
variable {rr : Int → Int → gI → Option gI}
theorem m_word_lp (hn : n ≤ 1000) (h3 : s.1 63 3 = n) (h64 : ∀ j, 0 ≤ j → j < n → s.1 64 j = F j) (s0 : 0 ≤ st) : ∀ (q fuel : Nat) (k : Int), st ≤ k → k + q = n → q < fuel → (∀ j, st ≤ j → j < k → 97 ≤ F j ∧ F j ≤ 122) →
    f181_at70 N rr fuel c k st (wvl F 37 96 st (min (k - st).toNat 8)) s = f181_at129 N rr c (tR F 97 122 n k) st (wvl F 37 96 st (min (tR F 97 122 n k - st).toNat 8)) s
  | 0, fuel, k, k0, e, hf, hl => by
    obtain ⟨fuel, rfl⟩ : ∃ g, fuel = g + 1 := ⟨fuel - 1, by omega⟩
    unfold f181_at70
    rw [h3, if_pos (by omega), tR_no (by omega)]
  | q + 1, fuel, k, k0, e, hf, hl => by
    obtain ⟨fuel, rfl⟩ : ∃ g, fuel = g + 1 := ⟨fuel - 1, by omega⟩
    unfold f181_at70
    rw [h3, if_neg (by omega), ick_ok (by omega) (by omega), h64 k (by omega) (by omega), m_isLetter, i_o2_some]
    by_cases g : 97 ≤ F k ∧ F k ≤ 122
    rotate_left
    · rw [if_neg g, if_pos rfl, tR_no (fun _ => g)]
    rw [if_pos g, if_neg (by decide), iov_ok (by omega) (by omega), tR_in (by omega) g]
    have hl2 : ∀ j, st ≤ j → j < k + 1 → 97 ≤ F j ∧ F j ≤ 122 := fun j a b => by
      by_cases z : j = k
      · subst z; exact g
      · exact hl j a (by omega)
    have ih := m_word_lp hn h3 h64 s0 q fuel (k + 1) (by omega) (by omega) (by omega) hl2
    by_cases g8 : 8 ≤ k - st
    · rw [if_pos g8, iov_ok (by omega) (by omega)]
      dsimp only
      rw [show min (k + 1 - st).toNat 8 = 8 by omega] at ih
      rw [show min (k - st).toNat 8 = 8 by omega]
      exact ih
    · rw [if_neg g8]
      have w1 := wvl_rg (F := F) (st := st) (k - st).toNat (by omega) (fun j a b => hl j a (by omega))
      have w2 := p37 (k - st).toNat (by omega)
      rw [show min (k + 1 - st).toNat 8 = (k - st).toNat + 1 by omega] at ih
      rw [show min (k - st).toNat 8 = (k - st).toNat by omega]
      have e1 : wvl F 37 96 st ((k - st).toNat + 1) = 37 * wvl F 37 96 st (k - st).toNat + (F k - 96) := by
        show 37 * wvl F 37 96 st (k - st).toNat + (F (st + ((k - st).toNat : Int)) - 96) = _
        rw [show st + ((k - st).toNat : Int) = k by omega]
      unfold f179
      rw [iol_ok (by omega) (by omega), ick_ok (by omega) (by omega), h64 k (by omega) (by omega), m_isLetter, i_o2_some, if_pos g, if_neg (by decide), iov_ok (by omega) (by omega), i_o2_some, iol_ok (by omega) (by omega)]
      dsimp only
      rw [iov_ok (by omega) (by omega), ← e1]
      exact ih
theorem m_num_lp (hn : n ≤ 1000) (h3 : s.1 63 3 = n) (h64 : ∀ j, 0 ≤ j → j < n → s.1 64 j = F j) (s0 : 0 ≤ st) : ∀ (q fuel : Nat) (k : Int), st ≤ k → k + q = n → q < fuel → (∀ j, st ≤ j → j < k → 48 ≤ F j ∧ F j ≤ 57) →
    f181_at159 N rr fuel c k st (wvl F 10 48 st (min (k - st).toNat 4)) s = f181_at218 N rr c (tR F 48 57 n k) st (wvl F 10 48 st (min (tR F 48 57 n k - st).toNat 4)) s
  | 0, fuel, k, k0, e, hf, hl => by
    obtain ⟨fuel, rfl⟩ : ∃ g, fuel = g + 1 := ⟨fuel - 1, by omega⟩
    unfold f181_at159
    rw [h3, if_pos (by omega), tR_no (by omega)]
  | q + 1, fuel, k, k0, e, hf, hl => by
    obtain ⟨fuel, rfl⟩ : ∃ g, fuel = g + 1 := ⟨fuel - 1, by omega⟩
    unfold f181_at159
    rw [h3, if_neg (by omega), ick_ok (by omega) (by omega), h64 k (by omega) (by omega), m_isDigit, i_o2_some]
    by_cases g : 48 ≤ F k ∧ F k ≤ 57
    rotate_left
    · rw [if_neg g, if_pos rfl, tR_no (fun _ => g)]
    rw [if_pos g, if_neg (by decide), iov_ok (by omega) (by omega), tR_in (by omega) g]
    have hl2 : ∀ j, st ≤ j → j < k + 1 → 48 ≤ F j ∧ F j ≤ 57 := fun j a b => by
      by_cases z : j = k
      · subst z; exact g
      · exact hl j a (by omega)
    have ih := m_num_lp hn h3 h64 s0 q fuel (k + 1) (by omega) (by omega) (by omega) hl2
    by_cases g8 : 4 ≤ k - st
    · rw [if_pos g8, iov_ok (by omega) (by omega)]
      dsimp only
      rw [show min (k + 1 - st).toNat 4 = 4 by omega] at ih
      rw [show min (k - st).toNat 4 = 4 by omega]
      exact ih
    · rw [if_neg g8]
      have w1 := wd_rg (F := F) (st := st) (k - st).toNat (fun j a b => hl j a (by omega))
      have w2 := p10 (k - st).toNat (by omega)
      rw [show min (k + 1 - st).toNat 4 = (k - st).toNat + 1 by omega] at ih
      rw [show min (k - st).toNat 4 = (k - st).toNat by omega]
      have e1 : wvl F 10 48 st ((k - st).toNat + 1) = 10 * wvl F 10 48 st (k - st).toNat + F k - 48 := by
        show 10 * wvl F 10 48 st (k - st).toNat + (F (st + ((k - st).toNat : Int)) - 48) = _
        rw [show st + ((k - st).toNat : Int) = k by omega]
        omega
      rw [iol_ok (by omega) (by omega), ick_ok (by omega) (by omega), h64 k (by omega) (by omega), iol_ok (by omega) (by omega), iol_ok (by omega) (by omega)]
      dsimp only
      rw [iov_ok (by omega) (by omega), ← e1]
      exact ih
end RUNS
theorem m_cut_lp (hN : 5000 ≤ N) (hT : tpF F n) (h3 : s.1 63 3 = n) (h64 : ∀ j, 0 ≤ j → j < n → s.1 64 j = F j) : ∀ (q fuel i : Nat) (k : Int) (A B C : Int → Int), 0 ≤ k → k ≤ n → n - k < q → q < fuel → lv F n i → tS F n k = tP F n i → tks F n A B C i →
    ∃ A2 B2 C2, f181_at17 N fuel i k (cut s A B C) = some (iw (iw (cut s A2 B2 C2) 63 7 0) 63 8 0) ∧ tks F n A2 B2 C2 1002
  | 0, fuel, i, k, A, B, C, k0, k1, hq, hf, hl, hk, hA => by omega
  | q + 1, fuel, i, k, A, B, C, k0, k1, hq, hf, hl, hk, hA => by
    obtain ⟨fuel, rfl⟩ : ∃ g, fuel = g + 1 := ⟨fuel - 1, by omega⟩
    have hT1 := hT.1
    have il := lv_mx hT1.1 hl
    unfold f181_at17
    rw [cut_ne (by decide) (by decide), h3]
    by_cases g : n ≤ k
    · have ep : tP F n i = n := by
        rw [← hk, tS_no (by omega)]; omega
      have ek : tK F n (tP F n i) = 0 := tK_0.mpr (by omega)
      rw [if_pos g, ick_ok (by omega) (by omega), ick_ok (by omega) (by omega), cut_w65]
      dsimp only
      rw [cut_ne (by decide) (by decide), h3, cut_w66]
      refine ⟨_, _, C, rfl, fun j hj hlj => ?_⟩
      by_cases z : j < i
      · rw [zup_ne (by omega), zup_ne (by omega)]
        exact hA j z hlj
      · by_cases z2 : j = i
        · subst z2
          rw [zup_same, zup_same, ek, ep]
          exact ⟨rfl, rfl, fun w => by omega⟩
        · have := hlj i (by omega)
          omega
    · rw [if_neg g, ick_ok (by omega) (by omega), cut_ne (by decide) (by decide), h64 k k0 (by omega)]
      dsimp only
      by_cases g1 : F k = 10
      · rw [if_pos g1, iov_ok (by omega) (by omega)]
        exact m_cut_lp hN hT h3 h64 q fuel i (k + 1) A B C (by omega) (by omega) (by omega) (by omega) hl (by rw [← tS_in (by omega) (Or.inl g1)]; exact hk) hA
      rw [if_neg g1]
      by_cases g2 : F k = 32
      · rw [if_pos g2, iov_ok (by omega) (by omega)]
        exact m_cut_lp hN hT h3 h64 q fuel i (k + 1) A B C (by omega) (by omega) (by omega) (by omega) hl (by rw [← tS_in (by omega) (Or.inr g2)]; exact hk) hA
      have ek : tP F n i = k := by rw [← hk]; exact tS_no (fun _ => by omega)
      have gk : k < n := by omega
      have hl2 : lv F n (i + 1) := lv_s hl (by rw [Ne, tK_0, ek]; omega)
      have eg := tE_rg (F := F) gk
      rw [if_neg g2, ick_ok (by omega) (by omega), cut_w66, m_isLetter, i_o2_some]
      have fin : ∀ a c : Int, a = mso (tK F n k) → (2 ≤ tK F n k → c = tV F n k) → f181_at265 N (f181_at17 N fuel) i (tE F n k) c (iw (cut s A (zup B i k) C) 65 i a) = (f181_at17 N fuel ((i + 1 : Nat) : Int) (tE F n k) (cut s (zup A i a) (zup B i k) (zup C i c))) ∧ tks F n (zup A i a) (zup B i k) (zup C i c) (i + 1) := fun a c ha hc => by
        refine ⟨?_, tks_up hA (by rw [ek]; exact ha) ek.symm (by rw [ek]; exact hc)⟩
        unfold f181_at265
        rw [ick_ok (by omega) (by omega), cut_w65, cut_w67, iov_ok (by omega) (by omega)]
        rfl
      have go : ∀ a c : Int, a = mso (tK F n k) → (2 ≤ tK F n k → c = tV F n k) → ∃ A2 B2 C2, f181_at265 N (f181_at17 N fuel) i (tE F n k) c (iw (cut s A (zup B i k) C) 65 i a) = some (iw (iw (cut s A2 B2 C2) 63 7 0) 63 8 0) ∧ tks F n A2 B2 C2 1002 := fun a c ha hc => by
        obtain ⟨f1, f2⟩ := fin a c ha hc
        rw [f1]
        exact m_cut_lp hN hT h3 h64 q fuel (i + 1) (tE F n k) _ _ _ (by omega) (by omega) (by omega) (by omega) hl2 (by show tS F n (tE F n k) = tS F n (tE F n (tP F n i)); rw [ek]) f2
      have c3 : (cut s A (zup B i k) C).1 63 3 = n := by rw [cut_ne (by decide) (by decide)]; exact h3
      have c64 : ∀ j, 0 ≤ j → j < n → (cut s A (zup B i k) C).1 64 j = F j := fun j a b => by rw [cut_ne (by decide) (by decide)]; exact h64 j a b
      by_cases a1 : 97 ≤ F k ∧ F k ≤ 122
      · rw [if_pos a1, if_neg (by decide)]
        have lp := m_word_lp (N := N) (rr := f181_at17 N fuel) (c := i) (st := k) hT1.2 c3 c64 k0 (n - k).toNat N k (by omega) (by omega) (by omega) (fun j a b => by omega)
        have e0 : min (k - k).toNat 8 = 0 := by omega
        rw [e0] at lp
        have lp : f181_at70 N (f181_at17 N fuel) N i k k 0 (cut s A (zup B i k) C) = _ := lp
        have er := tR_rg (F := F) (lo := 97) (hi := 122) k1
        have ee : tE F n k = tR F 97 122 n k := by unfold tE; rw [if_pos gk, if_pos a1]
        have et : tK F n k = if tR F 97 122 n k - k ≤ 8 then 2 else 1 := by unfold tK; rw [if_pos gk, if_pos a1]
        rw [lp, ← ee]
        unfold f181_at129 f181_at148
        rw [iov_ok (by omega) (by omega)]
        by_cases q8 : tE F n k - k ≤ 8
        · rw [← ee, if_pos q8] at et
          rw [if_pos q8, ick_ok (by omega) (by omega)]
          exact go 1 _ (by rw [et]; rfl) (fun _ => by
            unfold tV
            rw [if_pos et, show min (tE F n k - k).toNat 8 = (tE F n k - k).toNat by omega])
        · rw [← ee, if_neg q8] at et
          rw [if_neg q8, ick_ok (by omega) (by omega)]
          exact go 4 _ (by rw [et]; rfl) (fun z => by omega)
      rw [if_neg a1, if_pos rfl, m_isDigit, i_o2_some]
      by_cases a2 : 48 ≤ F k ∧ F k ≤ 57
      · rw [if_pos a2, if_neg (by decide)]
        have lp := m_num_lp (N := N) (rr := f181_at17 N fuel) (c := i) (st := k) hT1.2 c3 c64 k0 (n - k).toNat N k (by omega) (by omega) (by omega) (fun j a b => by omega)
        have e0 : min (k - k).toNat 4 = 0 := by omega
        rw [e0] at lp
        have lp : f181_at159 N (f181_at17 N fuel) N i k k 0 (cut s A (zup B i k) C) = _ := lp
        have er := tR_rg (F := F) (lo := 48) (hi := 57) k1
        have ee : tE F n k = tR F 48 57 n k := by unfold tE; rw [if_pos gk, if_neg a1, if_pos a2]
        have et : tK F n k = if tR F 48 57 n k - k ≤ 4 then 3 else 1 := by unfold tK; rw [if_pos gk, if_neg a1, if_pos a2]
        rw [lp, ← ee]
        unfold f181_at218 f181_at236
        rw [iov_ok (by omega) (by omega)]
        by_cases q8 : tE F n k - k ≤ 4
        · rw [← ee, if_pos q8] at et
          rw [if_pos q8, ick_ok (by omega) (by omega)]
          exact go 2 _ (by rw [et]; rfl) (fun _ => by
            unfold tV
            rw [if_neg (by omega), if_pos et, show min (tE F n k - k).toNat 4 = (tE F n k - k).toNat by omega])
        · rw [← ee, if_neg q8] at et
          rw [if_neg q8, ick_ok (by omega) (by omega)]
          exact go 4 _ (by rw [et]; rfl) (fun z => by omega)
      rw [if_neg a2, if_pos rfl, m_isSignOf, i_o2_some]
      have ee : tE F n k = k + 1 := by unfold tE; rw [if_pos gk, if_neg a1, if_neg a2]
      have et : tK F n k = if isSg (F k) then 4 else 1 := by unfold tK; rw [if_pos gk, if_neg a1, if_neg a2]
      unfold f181_at261
      by_cases q8 : isSg (F k)
      · rw [if_pos q8] at et
        rw [if_pos q8, if_neg (by decide), ick_ok (by omega) (by omega), iov_ok (by omega) (by omega), ← ee]
        exact go 3 _ (by rw [et]; rfl) (fun _ => by
          unfold tV
          rw [if_neg (by omega), if_neg (by omega)])
      · rw [if_neg q8] at et
        rw [if_neg q8, if_pos rfl, ick_ok (by omega) (by omega), iov_ok (by omega) (by omega), ← ee]
        exact go 4 _ (by rw [et]; rfl) (fun z => by omega)
theorem m_cut (hN : 5000 ≤ N) (hT : tpF F n) (h2 : s.1 63 2 = n) (h64 : ∀ j, 0 ≤ j → j < n → s.1 64 j = F j) :
    ∃ A B C, f181 N s = some (iw (iw (cut (iw (iw s 63 3 n) 63 2 0) A B C) 63 7 0) 63 8 0) ∧ tks F n A B C 1002 := by
  have hT1 := hT.1
  unfold f181
  dsimp only
  rw [h2]
  have h3 : (iw (iw s 63 3 n) 63 2 0).1 63 3 = n := by rw [iw_at, zup_ne (by decide), iw_at, zup_same]
  have h64b : ∀ j, 0 ≤ j → j < n → (iw (iw s 63 3 n) 63 2 0).1 64 j = F j := fun j a b => by rw [iw_ne (by decide), iw_ne (by decide)]; exact h64 j a b
  have := m_cut_lp (N := N) (A := (iw (iw s 63 3 n) 63 2 0).1 65) (B := (iw (iw s 63 3 n) 63 2 0).1 66) (C := (iw (iw s 63 3 n) 63 2 0).2 67) hN hT h3 h64b (n + 1).toNat N 0 0 (by decide) hT1.1 (by omega) (by omega) lv_0 rfl (fun j hj => by omega)
  rw [cut_self] at this
  exact this
end MTAPE

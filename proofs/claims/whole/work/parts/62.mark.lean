/-! Promise 31: mark answered alike. -/
section MARK
variable {N : Nat} {s u c m t : gI} {k : Int} {p q : Int → Int} {Q : Cf}
theorem mk_bits : ∀ x : Fin 16, ∀ i : Fin 4, (0 ≤ i_or (x.val : Int) (i_shl 1 (i.val : Int)) ∧ i_or (x.val : Int) (i_shl 1 (i.val : Int)) < 16) ∧ ∀ j : Fin 4, i_and (i_shr (i_or (x.val : Int) (i_shl 1 (i.val : Int))) (j.val : Int)) 1 = if j = i then 1 else i_and (i_shr (x.val : Int) (j.val : Int)) 1 := by decide +kernel
theorem mk_or {x i : Int} (x0 : 0 ≤ x) (x1 : x < 16) (i0 : 0 ≤ i) (i1 : i < 4) : (0 ≤ i_or x (i_shl 1 i) ∧ i_or x (i_shl 1 i) < 16) ∧ ∀ j, 0 ≤ j → j < 4 → i_and (i_shr (i_or x (i_shl 1 i)) j) 1 = if j = i then 1 else i_and (i_shr x j) 1 := by
  obtain ⟨X, rfl⟩ := Int.eq_ofNat_of_zero_le x0
  obtain ⟨I, rfl⟩ := Int.eq_ofNat_of_zero_le i0
  have h := mk_bits ⟨X, by omega⟩ ⟨I, by omega⟩
  refine ⟨h.1, fun j j0 j1 => ?_⟩
  obtain ⟨J, rfl⟩ := Int.eq_ofNat_of_zero_le j0
  have h2 := h.2 ⟨J, by omega⟩
  by_cases e : J = I
  · subst e
    rw [if_pos rfl] at h2 ⊢
    exact h2
  · rw [if_neg (by omega)]
    rw [if_neg (fun q => e (congrArg Fin.val q))] at h2
    exact h2
theorem zcp_in {f g : Int → Int} {a b n j : Int} (h0 : 0 ≤ j) (h1 : j < n) : zcpy f g a b n (b + j) = f (a + j) := by
  unfold zcpy
  rw [if_pos (by omega), show b + j - b = j by omega]
theorem zcp_off {f g : Int → Int} {a b n j : Int} (h : j < b ∨ b + n ≤ j) : zcpy f g a b n j = g j := by
  unfold zcpy
  rw [if_neg (by omega)]
theorem q_markPut (hN : 5000 ≤ N) (hI : INV k s) {n : Int} (h0 : 0 ≤ n) (h1 : n ≤ 3) : OKc k s (f163 N n 0) (f291 N n 0) := by
  obtain ⟨u1, u2, u3, u4, u5, u6⟩ := hI.2.2.2.2.1
  have i2 := hI.2.1
  have e4 := (INV_eq hI).2.2.2.2
  have hw := hI.1.1.1
  have hn0 := hw.2.2.1
  have en : (cQ s).2.2.2.1 = (s.1 15 3).toNat := rfl
  obtain ⟨b1, b2⟩ := mk_or u5.1 u5.2 h0 (by omega : n < 4)
  have cfin : f163 N n 0 s = some (1, iw (ic s 43 (savG s (s.1 43) (26 * n))) 41 2 (i_or (s.1 41 2) (i_shl 1 n))) := by
    unfold f163 f44
    rw [if_pos rfl, if_neg (by omega), if_pos (by omega), c_save (by decide) h0 (by omega) (by decide), i_o1_some]
    dsimp only
    rw [ib1_ok (Or.inr rfl), i_o2_some, ib1_ok (Or.inr rfl), ic_ne (by decide)]
  generalize hc : iw (ic s 43 (savG s (s.1 43) (26 * n))) 41 2 (i_or (s.1 41 2) (i_shl 1 n)) = c at cfin
  have cne : ∀ a : Nat, a ≠ 41 → a ≠ 43 → c.1 a = s.1 a := fun a a1 a2 => by rw [← hc, iw_ne a1, ic_ne a2]
  have c41 : c.1 41 = zup (s.1 41) 2 (i_or (s.1 41 2) (i_shl 1 n)) := by rw [← hc, iw_at, ic_ne (by decide)]
  have c43 : c.1 43 = savG s (s.1 43) (26 * n) := by rw [← hc, iw_ne (by decide), ic_at]
  have mfin : ∃ t, f291 N n 0 c = some (1, t) ∧ (∀ a : Nat, a ≠ 63 → a ≠ 78 → a ≠ 79 → t.1 a = c.1 a) ∧ (∀ i, i ≠ 0 → t.1 63 i = c.1 63 i) ∧ t.1 79 = zup (c.1 79) n 1 ∧ t.1 78 = zcpy (c.1 78) (c.1 78) 0 (28 * (1 + n)) 28 ∧ t.2 = c.2 := by
    refine ⟨iw (ic (iw (iw c 63 0 0) 79 n 1) 78 (zcpy ((iw (iw c 63 0 0) 79 n 1).1 78) ((iw (iw c 63 0 0) 79 n 1).1 78) 0 (28 * (1 + n)) 28)) 63 23 ((ic (iw (iw c 63 0 0) 79 n 1) 78 (zcpy ((iw (iw c 63 0 0) 79 n 1).1 78) ((iw (iw c 63 0 0) 79 n 1).1 78) 0 (28 * (1 + n)) 28)).1 63 23), ?_, ?_, ?_, ?_, ?_, rfl⟩
    · unfold f291 f291_at29 f291_at51 f291_at65
      dsimp only
      rw [m_within, i_o2_some, if_pos (show 0 ≤ n ∧ n ≤ 3 from ⟨h0, h1⟩), if_neg (by decide), if_pos rfl, ick_ok (by omega) (by omega), ib1_ok (Or.inr rfl), if_pos rfl, iov_ok (by omega) (by omega), iov_ok (by omega) (by omega), m_copies hN (by decide) (by omega) (by decide) (by decide) (by omega) (by omega), i_o1_some, if_pos rfl, ib1_ok (Or.inr rfl), if_pos rfl]
    · intro a a1 a2 a3
      rw [iw_ne a1, ic_ne a2, iw_ne a3, iw_ne a1]
    · intro i hi
      rw [iw_at, ic_ne (by decide), iw_ne (by decide), iw_at]
      by_cases h : i = 23
      · subst h; rw [zup_same, zup_ne hi]
      · rw [zup_ne h, zup_ne hi]
    · rw [iw_ne (by decide), ic_ne (by decide), iw_at, iw_ne (by decide)]
    · rw [iw_ne (by decide), ic_at, iw_ne (by decide), iw_ne (by decide)]
  obtain ⟨t, mfin, tne, t63, t79, t78, t2⟩ := mfin
  refine ⟨1, c, t, cfin, mfin, INV_mono (k := k) (by omega) ?_⟩
  have tns : ∀ a : Nat, a ≠ 41 → a ≠ 43 → a ≠ 63 → a ≠ 78 → a ≠ 79 → t.1 a = s.1 a := fun a a1 a2 a3 a4 a5 => by rw [tne a a3 a4 a5, cne a a1 a2]
  rw [cne 79 (by decide) (by decide)] at t79
  rw [cne 78 (by decide) (by decide)] at t78
  have t41 : t.1 41 = zup (s.1 41) 2 (i_or (s.1 41 2) (i_shl 1 n)) := by rw [tne 41 (by decide) (by decide) (by decide), c41]
  have t43 : t.1 43 = savG s (s.1 43) (26 * n) := by rw [tne 43 (by decide) (by decide) (by decide), c43]
  have t42 := tns 42 (by decide) (by decide) (by decide) (by decide) (by decide)
  have t10 := tns 10 (by decide) (by decide) (by decide) (by decide) (by decide)
  have t7 := tns 7 (by decide) (by decide) (by decide) (by decide) (by decide)
  have t8 := tns 8 (by decide) (by decide) (by decide) (by decide) (by decide)
  have t6 := tns 6 (by decide) (by decide) (by decide) (by decide) (by decide)
  have t15 := tns 15 (by decide) (by decide) (by decide) (by decide) (by decide)
  have t12 := tns 12 (by decide) (by decide) (by decide) (by decide) (by decide)
  have t63' : ∀ i, i ≠ 0 → t.1 63 i = s.1 63 i := fun i h => by rw [t63 i h, cne 63 (by decide) (by decide)]
  have lo : ∀ j, j < 28 → t.1 78 j = s.1 78 j := fun j h => by rw [t78, zcp_off (by omega)]
  have off : ∀ j, (j < 28 * (1 + n) ∨ 28 * (1 + n) + 28 ≤ j) → t.1 78 j = s.1 78 j := fun j h => by rw [t78, zcp_off h]
  have inn : ∀ j, 0 ≤ j → j < 28 → t.1 78 (28 * (1 + n) + j) = s.1 78 j := fun j a b => by rw [t78, zcp_in a b, Int.zero_add]
  have eQ : cQ t = cQ s := by
    unfold cQ
    rw [t12, tns 13 (by decide) (by decide) (by decide) (by decide) (by decide), t15, tns 18 (by decide) (by decide) (by decide) (by decide) (by decide)]
  refine INV_seen hI ⟨fun a ha => tns a (by omega) (by omega) (by omega) (by omega) (by omega), by rw [tns 1 (by decide) (by decide) (by decide) (by decide) (by decide)], t63' 2 (by decide), by rw [t2, ← hc]; rfl⟩ ⟨?_, ?_, ?_, ?_, ?_, ?_, ?_, ?_, ?_⟩ ?_ ?_ ?_
  · rw [t7]; exact hI.1.1.2.2.1
  · have sc := hI.1.1.2.1
    unfold scOK at sc ⊢
    rw [tns 9 (by decide) (by decide) (by decide) (by decide) (by decide), t7, t15]
    exact sc
  · intro j j0 j1
    rw [lo j (by omega), t7]; exact e4 j j0 j1
  · intro j j0 j1
    rw [lo _ (by omega), t8]; exact i2.1 j j0 j1
  · rw [lo _ (by decide), t6]; exact i2.2.1
  · rw [lo _ (by decide), t6]; exact i2.2.2.1
  · rw [t7]; exact i2.2.2.2.2.2.1
  · rw [t6]; exact i2.2.2.2.2.2.2.1
  · rw [t6]; exact i2.2.2.2.2.2.2.2
  · rw [t10]; exact i2.2.2.2.2.1
  · intro j j0 j1
    rw [lo _ (by omega), t10]; exact i2.2.2.2.1 j j0 j1
  · have f2 : t.1 41 2 = i_or (s.1 41 2) (i_shl 1 n) := by rw [t41, zup_same]
    have f3 : t.1 41 3 = s.1 41 3 := by rw [t41, zup_ne (by decide)]
    have f4 : t.1 41 4 = s.1 41 4 := by rw [t41, zup_ne (by decide)]
    refine ⟨by rw [t63' 23 (by decide), f4]; exact u1, by rw [f4]; exact u2, by rw [f3]; exact u3, ?_, by rw [f2]; exact b1, ?_⟩
    · intro i i0 i1
      rw [f4] at i1
      rw [f3, f4]
      obtain ⟨⟨w1, w2, w3⟩, w4⟩ := u4 i i0 i1
      refine ⟨⟨fun j j0 j1 => ?_, ?_, ?_⟩, ?_⟩
      · rw [off _ (by omega), t42]; exact w1 j j0 j1
      · rw [off _ (by omega), t42]; exact w2
      · rw [off _ (by omega), t42]; exact w3
      · unfold rowV at w4 ⊢
        rw [eQ, t15, t42]; exact w4
    · intro i i0 i1
      obtain ⟨w1, w2, w3⟩ := u6 i i0 i1
      rw [t79, f2, b2 i i0 i1]
      by_cases e : i = n
      · subst e
        rw [zup_same, if_pos rfl]
        refine ⟨Or.inr rfl, rfl, fun _ => ⟨⟨fun j j0 j1 => ?_, ?_, ?_⟩, ⟨fun j hj => ?_, fun j j0 j1 => ?_, ?_, ?_⟩, fun x x0 x1 => ?_, ?_⟩⟩
        · rw [inn j j0 (by omega), t43]
          by_cases hj : j < 8
          · rw [sav_7 j0 hj]; exact e4 j j0 hj
          · have g1 := sav_8 (s := s) (g := s.1 43) (i := 26 * i) (j := j - 8) (by omega) (by omega)
            rw [show 26 * i + 8 + (j - 8) = 26 * i + j by omega] at g1
            have g2 := i2.1 (j - 8) (by omega) (by omega)
            rw [show 8 + (j - 8) = j by omega] at g2
            rw [g1, g2]
        · rw [inn 16 (by decide) (by decide), t43, sav_24]; exact i2.2.1
        · rw [inn 17 (by decide) (by decide), t43, sav_25]; exact i2.2.2.1
        · rw [eQ] at hj ⊢
          have e : ∀ a : Nat, a < (cQ s).2.2.2.1 → sh (26 * i) (t.1 43) a = s.1 7 a := fun a ha => by
            have := cW_n hw
            rw [sh_at, t43, sav_7 (by omega) (by omega)]
          rw [e j hj]
          exact okq_mono (fun a ha _ => e a ha) (hI.1.1.2.2.1 j hj)
        · rw [t15] at j0
          rw [t43, sav_7 (by omega) j1]
          exact i2.2.2.2.2.2.1 j j0 j1
        · rw [t43, sav_24]; exact i2.2.2.2.2.2.2.1
        · rw [t43, sav_25]; exact i2.2.2.2.2.2.2.2
        · rw [show 28 * (1 + i) + 18 + x = 28 * (1 + i) + (18 + x) by omega, inn _ (by omega) (by omega), t43, sav_10 x0 x1]
          exact i2.2.2.2.1 x x0 x1
        · obtain ⟨n1, n2⟩ := i2.2.2.2.2.1
          unfold seenV
          rw [t12]
          refine ⟨fun x x0 x1 => ?_, fun x x0 x1 => ?_⟩
          · rw [sh_at, t43, sav_10 x0 x1]; exact n1 x x0 x1
          · have := hw.1.1
            rw [sh_at, t43, sav_10 (by omega) x1]; exact n2 x x0 x1
      · rw [zup_ne e, if_neg e]
        refine ⟨w1, w2, fun h => ?_⟩
        obtain ⟨⟨w4, w5, w6⟩, ⟨w7, w8, w9, w10⟩, w11, w12⟩ := w3 h
        have o43 : ∀ j, 0 ≤ j → j < 26 → t.1 43 (26 * i + j) = s.1 43 (26 * i + j) := fun j a b => by rw [t43, sav_out (by omega)]
        refine ⟨⟨fun j j0 j1 => ?_, ?_, ?_⟩, ⟨fun j hj => ?_, fun j j0 j1 => ?_, ?_, ?_⟩, fun x x0 x1 => ?_, ?_⟩
        · rw [off _ (by omega), o43 j j0 (by omega)]; exact w4 j j0 j1
        · rw [off _ (by omega), o43 24 (by decide) (by decide)]; exact w5
        · rw [off _ (by omega), o43 25 (by decide) (by decide)]; exact w6
        · rw [eQ] at hj ⊢
          have e : ∀ a : Nat, a < (cQ s).2.2.2.1 → sh (26 * i) (t.1 43) a = sh (26 * i) (s.1 43) a := fun a ha => by
            have := cW_n hw
            rw [sh_at, sh_at, o43 a (by omega) (by omega)]
          rw [e j hj]
          exact okq_mono (fun a ha _ => e a ha) (w7 j hj)
        · rw [t15] at j0
          rw [o43 j (by omega) (by omega)]; exact w8 j j0 j1
        · rw [o43 24 (by decide) (by decide)]; exact w9
        · rw [o43 25 (by decide) (by decide)]; exact w10
        · rw [off _ (by omega), show 26 * i + 16 + x = 26 * i + (16 + x) by omega, o43 _ (by omega) (by omega), ← show 26 * i + 16 + x = 26 * i + (16 + x) by omega]; exact w11 x x0 x1
        · obtain ⟨n1, n2⟩ := w12
          unfold seenV
          rw [t12]
          have es : ∀ x, 0 ≤ x → x < 8 → sh (26 * i + 16) (t.1 43) x = sh (26 * i + 16) (s.1 43) x := fun x a b => by
            rw [sh_at, sh_at, show 26 * i + 16 + x = 26 * i + (16 + x) by omega, o43 _ (by omega) (by omega)]
          refine ⟨fun x x0 x1 => ?_, fun x x0 x1 => ?_⟩
          · rw [es x x0 x1]; exact n1 x x0 x1
          · have := hw.1.1
            rw [es x (by omega) x1]; exact n2 x x0 x1
end MARK

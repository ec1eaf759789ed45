/-! Promise 17: gain answered alike. -/
section GAIN
variable {N : Nat} {s u v : gI} {k : Int} {p t x y : Int}
theorem q_gain (hN : 5000 ≤ N) (hI : INV k s) (h : mayP s p t x y) : OKc k s (f149 N p t x y) (f266 N p t x y) := by
  have hI1 := INV_thrown (x := 0) hI
  have hw := hI.1.1.1
  have hp4 := hI.1.2.2.2.2.2.1
  have e4 := (INV_eq hI).2.2.2.2
  have hm := m_mayThrow (N := N) hI (p := p) (t := t) (x := x) (y := y)
  obtain ⟨⟨p0, p1⟩, ⟨t0, t1⟩, ⟨x0, x1, y0, y1⟩, h64⟩ := id h
  obtain ⟨P, rfl⟩ := Int.eq_ofNat_of_zero_le p0
  obtain ⟨T, rfl⟩ := Int.eq_ofNat_of_zero_le t0
  obtain ⟨⟨hW0, hW⟩, ⟨hD0, hD⟩, ⟨hn0, hn⟩, -⟩ := id hw
  have hT : T < (cQ s).2.2.2.1 := by
    show T < (s.1 15 3).toNat
    omega
  have ar := hI.1.1.2.2.2.1 P (by omega) (by omega)
  have e1 : cQ (iw s 63 0 0) = cQ s := sameQ_cQ sameQ_thrown
  have c1 := c_gainOf (N := N) (per := P) (m := T) (cell := 8 * y + x) hN hI.1.1 (by omega) hT h64 (by omega) (by omega)
  have mg := mean_gain (cell := 8 * y + x) (arm := s.1 16 P) hI.1.1 hT h64
  rw [← mg] at c1
  have h8 : eq8 (sh 0 ((iw s 63 0 0).1 78)) (s.1 7) := fun j j0 j1 => by rw [sh_at, Int.zero_add, iw63 (by decide)]; exact e4 j j0 j1
  obtain ⟨v, m1, m2⟩ := m_meanOf (N := N) (s := iw s 63 0 0) (u := iw s 63 0 0) (p := s.1 7) (a := 0) (b := 588) (per := P) (m := T) (cell := 8 * y + x) hN hI1.1.ry (by rw [e1]; exact hI.1.1.2.2.1) h8 (by decide) (by decide) (by decide) (by decide) (Or.inl (by decide)) (by rw [iw63 (by decide)]; omega) (by rw [e1]; exact hT) (by omega) (by omega) trl.rf
  have h8v : eq8 (sh 0 (v.1 78)) (s.1 7) := fun j j0 j1 => by rw [sh_at, Int.zero_add, m2.at (by omega), iw63 (by decide)]; exact e4 j j0 j1
  have m3 := m_worthR (N := N) (s := iw s 63 0 0) (u := v) (T := s.1 7) (b := 0) hN hI1.1.ry (by decide) (by decide) (fun a ha => m2.ne ha) h8v
  rw [e1, iw63 (by decide)] at m3
  rw [e1, iw63 (by decide), iw63 (by decide)] at m1
  have rg := meanV_rg (p := s.1 7) (m := T) (cell := 8 * y + x) hI.1.ry ar.1 ar.2
  have rw1 := wIn_rg (p := s.1 7) (wo := s.1 20) (n := (cQ s).2.2.2.1) (cW_n hw) hI.1.1.2.2.2.2
  rcases c_canThrow (N := N) (s := s) hw (p := (P : Int)) (t := (T : Int)) (x := x) (y := y) with ⟨_, hc⟩ | ⟨g, -⟩
  rotate_left
  · exact absurd h g
  refine OKc.q hI (x := meanV (cQ s) (s.1 7) T (8 * y + x) (s.1 16 P) (s.1 20) - 80 * wIn (s.1 7) (s.1 20) (cQ s).2.2.2.1) (s1 := s) (s2 := v) ?_ ?_ (sameQ_thrown.tr (sameQ_trl (by decide) m2))
  · unfold f149
    rw [hc, i_o2_some, if_neg (by decide), iov_ok (by omega) (by omega), iov_ok (by omega) (by omega), show y * 8 + x = 8 * y + x by omega, c1, i_o2_some]
  · unfold f266
    rw [hm.1 h, i_o2_some, if_neg (by decide)]
    unfold f266_at18
    dsimp only
    rw [iw_at, zup_same, if_pos (by decide), iov_ok (by omega) (by omega), iov_ok (by omega) (by omega), m1, i_o2_some, m3, i_o2_some, iov_ok (by omega) (by omega), iov_ok (by omega) (by omega)]
theorem q_gainNo (hI : INV k s) (h : ¬ mayP s p t x y) : f169 N p t x y s = some (0, s) ∧ f266 N p t x y s = some (0, iw s 63 0 1) := by
  refine ⟨?_, ?_⟩
  · rcases c_canThrow (N := N) (s := s) hI.1.1.1 (p := p) (t := t) (x := x) (y := y) with ⟨g, -⟩ | ⟨-, hc⟩
    · exact absurd g h
    · exact hc
  · unfold f266
    rw [(m_mayThrow (N := N) hI).2 h, i_o2_some, if_pos rfl]
    unfold f266_at18
    dsimp only
    rw [iw_at, zup_same, if_neg (by decide)]
end GAIN

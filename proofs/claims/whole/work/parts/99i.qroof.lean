/-! Promise 3: roof answered alike; the whole of it. -/
section QROOF2
variable {N : Nat} {s v u : gI} {k : Int}
theorem RY_of (hc : cOK v) (hm : mOK v) (hq : eqQ (cQ v) (mQ v)) (hR : RY s) (e15 : v.1 15 = s.1 15) (e16 : v.1 16 = s.1 16) (e20 : v.1 20 = s.1 20) (h71 : ∀ j, j < 70 → v.1 71 j = s.1 71 j) : RY v := by
  obtain ⟨r1, r2, r3, r4, r5, r6, r7, r8, r9, r10, r11⟩ := hR
  have n8 : s.1 15 3 ≤ 8 := r1.2.2.1.2
  have n4 : s.1 15 0 ≤ 4 := r7.2
  refine ⟨hc, hm, hq, by rw [e16]; exact r4, by unfold cWo; rw [e20]; exact r5, by rw [h71 0 (by decide), e15]; exact r6, by rw [e15]; exact r7, by rw [h71 1 (by decide), e15]; exact r8, ?_, ?_, ?_⟩
  · rw [e15, e16]
    intro i a b
    rw [h71 _ (by omega)]
    exact r9 i a b
  · rw [e15, e20]
    intro t a b
    rw [h71 _ (by omega)]
    exact r10 t a b
  · intro t a b
    rw [h71 _ (by omega)]
    exact r11 t a b
theorem I3_of (h : I3 s) (hn : s.1 15 3 ≤ 8) (e15 : v.1 15 = s.1 15) (e18 : v.1 18 = s.1 18) (e19 : v.1 19 = s.1 19) (e22 : v.1 22 = s.1 22) (e23 : v.1 23 = s.1 23) (e24 : v.1 24 = s.1 24) (h71 : ∀ j, j < 70 → v.1 71 j = s.1 71 j) : I3 v := by
  unfold I3 at h ⊢
  rw [e15, e18, e19, e22, e23, e24, h71 2 (by decide), h71 3 (by decide), h71 4 (by decide), h71 5 (by decide), h71 6 (by decide), h71 7 (by decide)]
  obtain ⟨j1, j2, j3, j4, j5, j6⟩ := h
  refine ⟨j1, fun t a b => by rw [h71 _ (by omega)]; exact j2 t a b, j3, j4, fun i a b => ?_, j6⟩
  rw [h71 (38 + 4 * i) (by omega), h71 (38 + 4 * i + 1) (by omega), h71 (38 + 4 * i + 2) (by omega), h71 (38 + 4 * i + 3) (by omega)]
  exact j5 i a b
theorem q_roof (hN : 5000 ≤ N) (hk : 0 ≤ k) (hI : INV k s) : OKr k s (f135 N) (f195 N) swR i_rhoR := by
  obtain ⟨t1, t2, t3⟩ := hI.2.2.2.2.2.1
  obtain ⟨w1, w2, w3⟩ := hI.2.2.2.2.2.2.1
  have hT : tpF (s.1 2) (s.1 1 1) := ⟨t2, fun j a b => (t3 j a b).2⟩
  obtain ⟨H, T, G, c1, c2, c3, c4⟩ := c_roofRead (N := N) (s := s) hN hT rfl rfl (fun c a b => (w3.1 c a b).2)
  generalize hv : iw (ic (ic (ic s 44 H) 45 T) 1 G) 1 1 0 = v
  have v1 : v.1 1 1 = 0 := by rw [← hv, iw_at, zup_same]
  have v17 : v.1 1 7 = G 7 := by rw [← hv, iw_at, zup_ne (by decide), ic_at]
  have v44 : v.1 44 = H := by rw [← hv, iw_ne (by decide), ic_ne (by decide), ic_ne (by decide), ic_at]
  have v45 : v.1 45 = T := by rw [← hv, iw_ne (by decide), ic_ne (by decide), ic_at]
  have vne : ∀ a : Nat, a ≠ 1 → a ≠ 44 → a ≠ 45 → v.1 a = s.1 a := fun a q1 q2 q3 => by rw [← hv, iw_ne q1, ic_ne q1, ic_ne q3, ic_ne q2]
  have vl : v.2 = s.2 := by rw [← hv]; rfl
  have e135 : f135 N s = i_o2 (some (if roofZ (s.1 2) (s.1 1 1) = 0 then (1 : Int) else 0, ic (ic (ic s 44 H) 45 T) 1 G)) fun i2 s1 => if i2 = 0 then some ((iw s1 1 1 0).1 1 7, iw s1 1 1 0, g_rho) else i_o1 (f165 N (iw s1 1 1 0)) fun s4 => some ((0 : Int), s4, i_rhoR) := by
    unfold f135
    rw [c1]
  rw [i_o2_some, hv] at e135
  clear hv c1
  by_cases g : roofZ (s.1 2) (s.1 1 1) = 0
  rotate_left
  · rw [if_neg g, if_pos rfl, v17, c4 g] at e135
    obtain ⟨u, m1, m2, m3, m4, m5, -⟩ := m_roofRead (N := N) (s := v) (n := s.1 1 1) (F := s.1 2) hN hT (by rw [vne 63 (by decide) (by decide) (by decide)]; exact t1) (fun j a b => by rw [vne 64 (by decide) (by decide) (by decide)]; exact (t3 j a b).1) (fun j hj => by rw [vne 70 (by decide) (by decide) (by decide)]; exact w2 j hj) (fun j hj => by rw [vl]; exact w1 j hj)
    obtain ⟨n1, n2, n3, n4⟩ := m2
    have un : ∀ a : Nat, a ≠ 69 → a ≠ 63 → a ≠ 65 → a ≠ 66 → a ≠ 1 → a ≠ 44 → a ≠ 45 → u.1 a = s.1 a := fun a q1 q2 q3 q4 q5 q6 q7 => by rw [n1 a q1 q2 q3 q4, vne a q5 q6 q7]
    have u45 : u.1 45 = T := by rw [n1 45 (by decide) (by decide) (by decide) (by decide)]; exact v45
    have u11 : u.1 1 1 = 0 := by rw [n1 1 (by decide) (by decide) (by decide) (by decide)]; exact v1
    refine ⟨_, v, g_rho, u, e135, Or.inl ⟨rfl, ?_⟩, INV_mono (k := k) (by omega) ?_⟩
    · rw [m1]
      unfold f195_at153
      rw [if_neg (by omega), m4]
    · refine INV_vain hI (fun a ha => un a (by omega) (by omega) (by omega) (by omega) (by omega) (by omega) (by omega)) ?_ (fun j _ => by rw [un 78 (by decide) (by decide) (by decide) (by decide) (by decide) (by decide) (by decide)]) (fun j hj => by rw [n3 j hj, vne 69 (by decide) (by decide) (by decide)]) (fun j _ => by rw [un 71 (by decide) (by decide) (by decide) (by decide) (by decide) (by decide) (by decide)]) (fun j _ => by rw [un 72 (by decide) (by decide) (by decide) (by decide) (by decide) (by decide) (by decide)]) (fun j _ => by rw [un 73 (by decide) (by decide) (by decide) (by decide) (by decide) (by decide) (by decide)]) (by rw [n2 68 (by decide), vl]) ?_ ?_
      · rw [n4 23 (by decide) (by decide) (by decide) (by decide) (by decide), vne 63 (by decide) (by decide) (by decide)]
      · refine ⟨by rw [m3, u11], by rw [u11]; decide, fun j a b => by rw [u11] at b; omega⟩
      · refine ⟨fun c a b => ?_, ?_, ?_⟩
        · rw [un 46 (by decide) (by decide) (by decide) (by decide) (by decide) (by decide) (by decide), u45]
          exact ⟨(w3.1 c a b).1, c2 c a b⟩
        · rw [un 48 (by decide) (by decide) (by decide) (by decide) (by decide) (by decide) (by decide)]
          exact w3.2.1
        · rw [un 50 (by decide) (by decide) (by decide) (by decide) (by decide) (by decide) (by decide), un 52 (by decide) (by decide) (by decide) (by decide) (by decide) (by decide) (by decide)]
          exact w3.2.2
  obtain ⟨H0, H1, q1, q2, hTT⟩ := c3 g
  obtain ⟨P, Th, Wh, Se, Y, a1, a2, a3, a4, a5⟩ := c_anew (N := N) (s := v) hN
  rw [if_pos g, if_neg (by decide), a1, i_o1_some] at e135
  generalize hx : iw (iw (ic (ic (ic (ic (ic v 7 P) 8 Th) 9 Wh) 10 Se) 6 Y) 41 2 0) 41 4 0 = x at e135
  have x7 : x.1 7 = P := by rw [← hx, iw_ne (by decide), iw_ne (by decide), ic_ne (by decide), ic_ne (by decide), ic_ne (by decide), ic_ne (by decide), ic_at]
  have x8 : x.1 8 = Th := by rw [← hx, iw_ne (by decide), iw_ne (by decide), ic_ne (by decide), ic_ne (by decide), ic_ne (by decide), ic_at]
  have x9 : x.1 9 = Wh := by rw [← hx, iw_ne (by decide), iw_ne (by decide), ic_ne (by decide), ic_ne (by decide), ic_at]
  have x10 : x.1 10 = Se := by rw [← hx, iw_ne (by decide), iw_ne (by decide), ic_ne (by decide), ic_at]
  have x6 : x.1 6 = Y := by rw [← hx, iw_ne (by decide), iw_ne (by decide), ic_at]
  have xne : ∀ a : Nat, a ≠ 7 → a ≠ 8 → a ≠ 9 → a ≠ 10 → a ≠ 6 → a ≠ 41 → x.1 a = v.1 a := fun a b1 b2 b3 b4 b5 b6 => by rw [← hx, iw_ne b6, iw_ne b6, ic_ne b5, ic_ne b4, ic_ne b3, ic_ne b2, ic_ne b1]
  have x412 : x.1 41 2 = 0 := by rw [← hx, iw_at, zup_ne (by decide), iw_at, zup_same]
  have x414 : x.1 41 4 = 0 := by rw [← hx, iw_at, zup_same]
  have x413 : x.1 41 3 = s.1 41 3 := by rw [← hx, iw_at, zup_ne (by decide), iw_at, zup_ne (by decide), ic_ne (by decide), ic_ne (by decide), ic_ne (by decide), ic_ne (by decide), ic_ne (by decide), vne 41 (by decide) (by decide) (by decide)]
  have xl : x.2 = s.2 := by rw [← hx, ← vl]; rfl
  clear hx a1
  have xs : ∀ a : Nat, a ≠ 7 → a ≠ 8 → a ≠ 9 → a ≠ 10 → a ≠ 6 → a ≠ 41 → a ≠ 1 → a ≠ 44 → a ≠ 45 → x.1 a = s.1 a := fun a b1 b2 b3 b4 b5 b6 b7 b8 b9 => by rw [xne a b1 b2 b3 b4 b5 b6, vne a b7 b8 b9]
  have x44 : x.1 44 = H := by rw [xne 44 (by decide) (by decide) (by decide) (by decide) (by decide) (by decide)]; exact v44
  have x45 : x.1 45 = T := by rw [xne 45 (by decide) (by decide) (by decide) (by decide) (by decide) (by decide)]; exact v45
  have x11 : x.1 1 1 = 0 := by rw [xne 1 (by decide) (by decide) (by decide) (by decide) (by decide) (by decide)]; exact v1
  have rid : ∀ a : Nat, (a < 12 ∨ 14 < a) → (a < 44 ∨ 46 < a) → (rn swR x).1 a = x.1 a := fun a h1 h2 => by
    show x.1 (swR a) = x.1 a
    unfold swR
    rw [if_neg (by omega), if_neg (by omega)]
  have rl : ∀ a : Nat, (a < 12 ∨ 14 < a) → (a < 44 ∨ 46 < a) → (rn swR x).2 a = s.2 a := fun a h1 h2 => by
    show x.2 (swR a) = s.2 a
    unfold swR
    rw [if_neg (by omega), if_neg (by omega), xl]
  have y12 : (rn swR x).1 12 = H := x44
  have y13 : (rn swR x).1 13 = T := x45
  have y14 : (rn swR x).1 14 = s.1 46 := xs 46 (by decide) (by decide) (by decide) (by decide) (by decide) (by decide) (by decide) (by decide) (by decide)
  have y45 : (rn swR x).1 45 = s.1 13 := xs 13 (by decide) (by decide) (by decide) (by decide) (by decide) (by decide) (by decide) (by decide) (by decide)
  have y46 : (rn swR x).1 46 = s.1 14 := xs 14 (by decide) (by decide) (by decide) (by decide) (by decide) (by decide) (by decide) (by decide) (by decide)
  have ys : ∀ a : Nat, (a < 12 ∨ 14 < a) → (a < 44 ∨ 46 < a) → (a < 6 ∨ 10 < a) → a ≠ 41 → a ≠ 1 → (rn swR x).1 a = s.1 a := fun a h1 h2 h3 h4 h5 => by rw [rid a h1 h2, xs a (by omega) (by omega) (by omega) (by omega) (by omega) h4 h5 (by omega) (by omega)]
  generalize hy : rn swR x = y at *
  obtain ⟨u, m1, m2, m3, m4, m5, m6⟩ := m_roofRead (N := N) (s := y) (n := s.1 1 1) (F := s.1 2) hN hT (by rw [ys 63 (by decide) (by decide) (by decide) (by decide) (by decide)]; exact t1) (fun j a b => by rw [ys 64 (by decide) (by decide) (by decide) (by decide) (by decide)]; exact (t3 j a b).1) (fun j hj => by rw [ys 70 (by decide) (by decide) (by decide) (by decide) (by decide)]; exact w2 j hj) (fun j hj => by rw [rl 68 (by decide) (by decide)]; exact w1 j hj)
  obtain ⟨n1, n2, n3, n4⟩ := m2
  obtain ⟨u70, u71, uT⟩ := m6 g
  obtain ⟨R, p1, p2, p3⟩ := m_copy9 (N := N) 70 N 0 u (by decide) (by decide) (by omega)
  obtain ⟨M, Z, b1, b2, b3, b4, b5⟩ := m_begins (N := N) (s := ic u 69 R) hN
  generalize hz : ic (iw (ic (ic u 69 R) 78 M) 63 23 0) 79 Z = z at b1
  have mfin : f195 N y = some (0, z) := by
    rw [m1]
    unfold f195_at153
    rw [if_pos (by omega), p1, b1, i_o1_some]
  have zne : ∀ a : Nat, a ≠ 69 → a ≠ 63 → a ≠ 65 → a ≠ 66 → a ≠ 78 → a ≠ 79 → z.1 a = y.1 a := fun a d1 d2 d3 d4 d5 d6 => by rw [← hz, ic_ne d6, iw_ne d2, ic_ne d5, ic_ne d1, n1 a d1 d2 d3 d4]
  have z69 : z.1 69 = R := by rw [← hz, ic_ne (by decide), iw_ne (by decide), ic_ne (by decide), ic_at]
  have z78 : z.1 78 = M := by rw [← hz, ic_ne (by decide), iw_ne (by decide), ic_at]
  have z79 : z.1 79 = Z := by rw [← hz, ic_at]
  have z6323 : z.1 63 23 = 0 := by rw [← hz, ic_ne (by decide), iw_at, zup_same]
  have z632 : z.1 63 2 = 0 := by rw [← hz, ic_ne (by decide), iw_at, zup_ne (by decide), ic_ne (by decide), ic_ne (by decide)]; exact m3
  have zl : z.2 = u.2 := by rw [← hz]; rfl
  clear hz b1
  have zs : ∀ a : Nat, (a < 12 ∨ 14 < a) → (a < 44 ∨ 46 < a) → (a < 6 ∨ 10 < a) → a ≠ 41 → a ≠ 1 → a ≠ 69 → a ≠ 63 → a ≠ 65 → a ≠ 66 → a ≠ 78 → a ≠ 79 → z.1 a = s.1 a := fun a h1 h2 h3 h4 h5 d1 d2 d3 d4 d5 d6 => by rw [zne a d1 d2 d3 d4 d5 d6, ys a h1 h2 h3 h4 h5]
  have z12 : z.1 12 = H := by rw [zne 12 (by decide) (by decide) (by decide) (by decide) (by decide) (by decide)]; exact y12
  have z13 : z.1 13 = T := by rw [zne 13 (by decide) (by decide) (by decide) (by decide) (by decide) (by decide)]; exact y13
  have z14 : z.1 14 = s.1 46 := by rw [zne 14 (by decide) (by decide) (by decide) (by decide) (by decide) (by decide)]; exact y14
  have z45 : z.1 45 = s.1 13 := by rw [zne 45 (by decide) (by decide) (by decide) (by decide) (by decide) (by decide)]; exact y45
  have z46 : z.1 46 = s.1 14 := by rw [zne 46 (by decide) (by decide) (by decide) (by decide) (by decide) (by decide)]; exact y46
  have ry := hI.1.ry
  have hco := ry.1
  have v1' := q1.2
  have v2' := q2.2
  have eR0 : R 0 = H 0 := by rw [p2 0 (by decide) (by decide), show (70 : Int) + 0 = 70 from rfl, u70, H0]
  have eR1 : R 1 = H 1 := by rw [p2 1 (by decide) (by decide), show (70 : Int) + 1 = 71 from rfl, u71, H1]
  have z15 : z.1 15 = s.1 15 := zs 15 (by decide) (by decide) (by decide) (by decide) (by decide) (by decide) (by decide) (by decide) (by decide) (by decide) (by decide)
  have z18 : z.1 18 = s.1 18 := zs 18 (by decide) (by decide) (by decide) (by decide) (by decide) (by decide) (by decide) (by decide) (by decide) (by decide) (by decide)
  have z71 : z.1 71 = s.1 71 := zs 71 (by decide) (by decide) (by decide) (by decide) (by decide) (by decide) (by decide) (by decide) (by decide) (by decide) (by decide)
  have z16 : z.1 16 = s.1 16 := zs 16 (by decide) (by decide) (by decide) (by decide) (by decide) (by decide) (by decide) (by decide) (by decide) (by decide) (by decide)
  have z20 : z.1 20 = s.1 20 := zs 20 (by decide) (by decide) (by decide) (by decide) (by decide) (by decide) (by decide) (by decide) (by decide) (by decide) (by decide)
  have zco : cOK z := by
    unfold cOK
    rw [z12, z13, z15, H0, H1]
    exact ⟨⟨by omega, by omega⟩, ⟨by omega, by omega⟩, hco.2.2.1, c2⟩
  have zmo : mOK z := by
    unfold mOK
    rw [z69, z71, eR0, eR1, H0, H1]
    exact ⟨⟨by omega, by omega⟩, ⟨by omega, by omega⟩, ry.2.1.2.2⟩
  have zq : eqQ (cQ z) (mQ z) := by
    obtain ⟨-, -, o3, -, o5⟩ := ry.2.2.1
    refine ⟨?_, ?_, ?_, fun c hc => ?_, fun t ht => ?_⟩
    · show z.1 12 0 = z.1 69 0
      rw [z12, z69, eR0]
    · show z.1 12 1 = z.1 69 1
      rw [z12, z69, eR1]
    · show (z.1 15 3).toNat = (z.1 71 1).toNat
      rw [z15, z71]; exact o3
    · obtain ⟨d0, d1, d2, d3⟩ := hc
      have d2 : c % 8 < z.1 12 0 := d2
      have d3 : c / 8 < z.1 12 1 := d3
      rw [z12, H0] at d2
      rw [z12, H1] at d3
      show z.1 13 c = z.1 69 (2 + c)
      have ec : c = 8 * ((c / 8).toNat : Int) + c % 8 := by omega
      have k1 := hTT (c / 8).toNat (c % 8) (by omega) (by omega) (by omega)
      have k2 := uT (c / 8).toNat (c % 8) (by omega) (by omega) (by omega)
      rw [← ec] at k1
      rw [show (72 : Int) + 8 * ((c / 8).toNat : Int) + c % 8 = 72 + c by omega] at k2
      rw [z13, z69, k1, p2 (2 + c) (by omega) (by omega), show (70 : Int) + (2 + c) = 72 + c by omega, k2]
    · show z.1 18 t = z.1 71 (14 + 3 * t)
      have ht : t < (z.1 15 3).toNat := ht
      rw [z15] at ht
      rw [z18, z71]
      exact o5 t ht
  refine ⟨0, x, i_rhoR, z, e135, Or.inr ⟨rfl, by rw [hy]; exact mfin⟩, INV_anew (by omega) (RY_of zco zmo zq ry z15 z16 z20 (fun j _ => by rw [z71])) (I3_of hI.2.2.1 hco.2.2.1.2 z15 z18 (zs 19 (by decide) (by decide) (by decide) (by decide) (by decide) (by decide) (by decide) (by decide) (by decide) (by decide) (by decide)) (zs 22 (by decide) (by decide) (by decide) (by decide) (by decide) (by decide) (by decide) (by decide) (by decide) (by decide) (by decide)) (zs 23 (by decide) (by decide) (by decide) (by decide) (by decide) (by decide) (by decide) (by decide) (by decide) (by decide) (by decide)) (zs 24 (by decide) (by decide) (by decide) (by decide) (by decide) (by decide) (by decide) (by decide) (by decide) (by decide) (by decide)) (fun j _ => by rw [z71])) ?_ ?_ ?_ ?_ ?_ ?_⟩
  · intro c a b
    rw [z14]
    exact (w3.1 c a b).1
  · have z11 : z.1 1 1 = 0 := by rw [zne 1 (by decide) (by decide) (by decide) (by decide) (by decide) (by decide), rid 1 (by decide) (by decide)]; exact x11
    refine ⟨by rw [z632, z11], by rw [z11]; decide, fun j a b => by rw [z11] at b; omega⟩
  · refine ⟨fun j hj => by rw [zl, n2 68 (by decide), rl 68 (by decide) (by decide)]; exact w1 j hj, fun j hj => by rw [zs 70 (by decide) (by decide) (by decide) (by decide) (by decide) (by decide) (by decide) (by decide) (by decide) (by decide) (by decide)]; exact w2 j hj, fun c a b => ?_, ?_, ?_⟩
    · rw [z46, z45]
      exact ⟨hI.2.2.2.1 c a b, hco.2.2.2 c a b⟩
    · rw [zs 48 (by decide) (by decide) (by decide) (by decide) (by decide) (by decide) (by decide) (by decide) (by decide) (by decide) (by decide)]
      exact w3.2.1
    · rw [zs 50 (by decide) (by decide) (by decide) (by decide) (by decide) (by decide) (by decide) (by decide) (by decide) (by decide) (by decide), zs 52 (by decide) (by decide) (by decide) (by decide) (by decide) (by decide) (by decide) (by decide) (by decide) (by decide) (by decide)]
      exact w3.2.2
  · have := hI.2.2.2.2.2.2.2.1
    unfold lawR at this ⊢
    rw [z71, zs 25 (by decide) (by decide) (by decide) (by decide) (by decide) (by decide) (by decide) (by decide) (by decide) (by decide) (by decide), show (25 + 1 : Nat) = 26 from rfl, zs 26 (by decide) (by decide) (by decide) (by decide) (by decide) (by decide) (by decide) (by decide) (by decide) (by decide) (by decide), zs 72 (by decide) (by decide) (by decide) (by decide) (by decide) (by decide) (by decide) (by decide) (by decide) (by decide) (by decide), zs 73 (by decide) (by decide) (by decide) (by decide) (by decide) (by decide) (by decide) (by decide) (by decide) (by decide) (by decide)]
    exact this
  · have := hI.2.2.2.2.2.2.2.2
    unfold lawR at this ⊢
    rw [z71, zs 28 (by decide) (by decide) (by decide) (by decide) (by decide) (by decide) (by decide) (by decide) (by decide) (by decide) (by decide), show (28 + 1 : Nat) = 29 from rfl, zs 29 (by decide) (by decide) (by decide) (by decide) (by decide) (by decide) (by decide) (by decide) (by decide) (by decide) (by decide), zs 72 (by decide) (by decide) (by decide) (by decide) (by decide) (by decide) (by decide) (by decide) (by decide) (by decide) (by decide), zs 73 (by decide) (by decide) (by decide) (by decide) (by decide) (by decide) (by decide) (by decide) (by decide) (by decide) (by decide)]
    exact this
  · have y7 : z.1 7 = P := by rw [zne 7 (by decide) (by decide) (by decide) (by decide) (by decide) (by decide), rid 7 (by decide) (by decide)]; exact x7
    have y8 : z.1 8 = Th := by rw [zne 8 (by decide) (by decide) (by decide) (by decide) (by decide) (by decide), rid 8 (by decide) (by decide)]; exact x8
    have y9 : z.1 9 = Wh := by rw [zne 9 (by decide) (by decide) (by decide) (by decide) (by decide) (by decide), rid 9 (by decide) (by decide)]; exact x9
    have y10 : z.1 10 = Se := by rw [zne 10 (by decide) (by decide) (by decide) (by decide) (by decide) (by decide), rid 10 (by decide) (by decide)]; exact x10
    have y6 : z.1 6 = Y := by rw [zne 6 (by decide) (by decide) (by decide) (by decide) (by decide) (by decide), rid 6 (by decide) (by decide)]; exact x6
    have y41 : z.1 41 = x.1 41 := by rw [zne 41 (by decide) (by decide) (by decide) (by decide) (by decide) (by decide), rid 41 (by decide) (by decide)]
    have i5 := hI.2.2.2.2.1
    unfold fresh
    rw [y7, y8, y9, y10, y6, y41, z78, z79, x412, x414, x413]
    exact ⟨a2, a3, ⟨a4, a5⟩, ⟨rfl, rfl, i5.2.2.1⟩, b3, ⟨b4, b5⟩, z6323, b2⟩
end QROOF2

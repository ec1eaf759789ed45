/-! What was made, told as whole numbers; the script in its place. -/
section YKSWAP
variable {E : yl_E} {X : gX} {ad : Nat → Nat} {b L0 : Nat} {xs : Nat → Int32} {H : Heap}
theorem yk_ne {a : Nat} (h : a ≠ 2000) : (yk_s xs).1 a = yk_z.1 a := by
  funext j
  unfold yk_z yk_s
  dsimp only
  rw [if_neg h, if_neg h]
theorem yk_I (xs : Nat → Int32) : INV 0 (yk_s xs) := by
  refine sameQ_inv (s := yk_z) ⟨fun a ha => yk_ne (by omega), ?_, ?_, ?_, fun j _ => ?_, rfl⟩ yk_INV
  · rw [yk_ne (by decide)]
  · rw [yk_ne (by decide)]
  · rw [yk_ne (by decide)]
  · rw [yk_ne (by decide)]
theorem yk_M (xs : Nat → Int32) : okM (yk_s xs, g_rho) := by
  refine ⟨fun a j => ?_, fun a j => ?_⟩
  · unfold yk_s
    dsimp only
    split
    · exact zl_ri _
    · exact zl_ri _
  · exact rgl_to _
theorem yk_ci {a : Nat} (h : a ≠ 2000) : (cM L0 (yk_s xs, g_rho)).1 a = yk_3.1 a := by
  funext j
  show Int32.ofInt ((yk_s xs).1 a (j : Int)) = _
  unfold yk_s
  dsimp only
  rw [if_neg h, Int.toNat_natCast, Int32.ofInt_toInt]
theorem yk_cl {a : Nat} : (cM L0 (yk_s xs, g_rho)).2.1 a = yk_3.2.1 a := by
  funext j
  show Int64.ofInt ((yk_s xs).2 a (j : Int)) = _
  unfold yk_s
  dsimp only
  rw [Int.toNat_natCast, Int64.ofInt_toInt]
theorem yk_cx : (cM L0 (yk_s xs, g_rho)).1 2000 = xs := by
  funext j
  show Int32.ofInt ((yk_s xs).1 2000 (j : Int)) = _
  unfold yk_s
  dsimp only
  rw [if_pos rfl, Int.toNat_natCast, Int32.ofInt_toInt]
theorem yk_rl : ∀ k : Fin 90, ∀ i : Fin 40, g_rho k.val i.val ≤ 82 := by decide +kernel
theorem yk_rle (k i : Nat) : g_rho k i ≤ 82 := by
  by_cases h : 90 ≤ k ∨ 40 ≤ i
  · rw [yl_rho0 h]
    omega
  · exact yk_rl ⟨k, by omega⟩ ⟨i, by omega⟩
theorem yk_kl : ∀ c : Fin 40, (g_kinds.getD c.val []).length ≤ 40 := by decide +kernel
theorem yk_kll : g_kinds.length ≤ 40 := by decide +kernel
theorem yk_kle (c : Nat) : (g_kinds.getD c []).length ≤ 40 := by
  by_cases h : c < 40
  · exact yk_kl ⟨c, h⟩
  · have := yk_kll
    rw [List.getD_eq_getElem?_getD, List.getElem?_eq_none (by omega)]
    exact Nat.zero_le _
def yk_X (X : gX) (ad : Nat → Nat) (b L0 : Nat) (xs : Nat → Int32) : gX := (X.1, X.2.1, fun k => if k = 2000 then b else ad k, X.2.2.2.1, X.2.2.2.2.1, g_C 0, xs, L0)
theorem yk_fld {k i t : Nat} (hk : k < 82) (hi : i < 40) : g_fld (yk_X X ad b L0 xs) (cM L0 (yk_s xs, g_rho)) k i t = g_fld (g_xa X ad) yk_3 k i t := by
  unfold g_fld
  rw [yk_ci (by omega), yk_cl]
  have e : yk_3.2.2.1 k i = g_rho k i := yk_rho ⟨k, hk⟩ ⟨i, hi⟩
  split
  · rfl
  · rw [e]
    show g_cv (yk_X X ad b L0 xs).2.2.1 X.2.2.2.1 (g_ref (g_rho k i)) = g_cv ad X.2.2.2.1 (g_ref (g_rho k i))
    have hl := yk_rle k i
    cases hz : g_rho k i with
    | zero => rfl
    | succ z =>
      rw [hz] at hl
      show Value.ref (if z = 2000 then b else ad z) = .ref (ad z)
      rw [if_neg (by omega)]
  · rfl
theorem yk_ent {k : Nat} {q : Nat × Nat} (hk : k < 82) : g_ent (yk_X X ad b L0 xs) (cM L0 (yk_s xs, g_rho)) k q = g_ent (g_xa X ad) yk_3 k q := by
  obtain ⟨q1, q2⟩ := q
  unfold g_ent
  rw [yk_ci (by omega), yk_cl]
  have e : (g_kinds.getD q2 []).mapIdx (fun i t => g_fld (yk_X X ad b L0 xs) (cM L0 (yk_s xs, g_rho)) k i t) = (g_kinds.getD q2 []).mapIdx (fun i t => g_fld (g_xa X ad) yk_3 k i t) := by
    apply List.ext_getElem?
    intro i
    rw [List.getElem?_mapIdx, List.getElem?_mapIdx]
    cases hz : (g_kinds.getD q2 [])[i]? with
    | none => rfl
    | some t =>
      have h1 := (List.getElem?_eq_some_iff.mp hz).1
      have h2 := yk_kle q2
      show some (g_fld (yk_X X ad b L0 xs) (cM L0 (yk_s xs, g_rho)) k i t) = some (g_fld (g_xa X ad) yk_3 k i t)
      rw [yk_fld hk (by omega)]
  dsimp only
  rw [e]
  rfl
theorem yk_ws : g_ws (yk_X X ad b L0 xs) (cM L0 (yk_s xs, g_rho)) = g_ws (g_xa X ad) yk_3 := by
  unfold g_ws
  rw [yk_shp]
  show g_shp.mapIdx _ = g_shp.mapIdx _
  apply List.ext_getElem?
  intro k
  rw [List.getElem?_mapIdx, List.getElem?_mapIdx]
  cases hz : g_shp[k]? with
  | none => rfl
  | some q =>
    have h1 := (List.getElem?_eq_some_iff.mp hz).1
    have h2 : g_shp.length = 82 := rfl
    show some (_, _) = some (_, _)
    rw [yk_ent (by omega)]
    show some (if k = 2000 then b else ad k, _) = some (ad k, _)
    rw [if_neg (by omega)]
theorem yk_W (hW : g_W (g_xa X ad) yk_3 H) : g_W (yk_X X ad b L0 xs) (cM L0 (yk_s xs, g_rho)) H := by
  obtain ⟨w1, w2, w3, w4, w5, w6⟩ := hW
  rw [← yk_ws (b := b) (L0 := L0) (xs := xs)] at w1 w2
  rw [yk_shp] at w3
  refine ⟨w1, w2, w3, fun k q hk i j hj => Or.inl ?_, yk_cx, rfl⟩
  have h1 := yk_rle k i
  have hj : g_rho k i = j + 1 := hj
  show j < 82
  omega
theorem yk_swap (h19 : ad 1900 = b) (h : yl_G E (yk_X X ad b L0 xs) 23 (yl_L (Int32.ofNat (7 * 0)) none none) [] (cM L0 (yk_s xs, g_rho))) : yl_G E (g_xa X ad) 23 (yk_Ls (some (.ref 0)) (some (.ref 63)) (some (.ref 81)) (some (.int 0))) [] yk_3 := by
  intro cells slots
  obtain ⟨mc, ms, a1, a2, a3, a4, a5⟩ := h cells slots
  refine ⟨mc, ms, a1, a2, by rw [yk_shp]; exact a3, by rw [yk_shp]; exact a4, fun h1 h2 H locs ls hL hW hS => ?_⟩
  refine a5 h1 h2 H locs ls ⟨hL.1, hL.2.1, rfl, fun i v hi => ?_⟩ (yk_W hW) hS
  have up : ∀ z, z < 1000 → (yk_X X ad b L0 xs).2.2.1 z = ad z := fun z hz => if_neg (by omega)
  match i with
  | 0 =>
    cases hi
    have := hL.2.2.2 0 (.ref 1900) rfl
    rw [this]
    show some (Slot.val (.ref (ad 1900))) = some (Slot.val (.ref (if 2000 = 2000 then b else ad 2000)))
    rw [h19, if_pos rfl]
  | 1 =>
    cases hi
    have := hL.2.2.2 1 (.ref 0) rfl
    rw [this]
    show some (Slot.val (.ref (ad 0))) = some (Slot.val (.ref ((yk_X X ad b L0 xs).2.2.1 0)))
    rw [up 0 (by decide)]
  | 2 =>
    cases hi
    have := hL.2.2.2 2 (.ref 63) rfl
    rw [this]
    show some (Slot.val (.ref (ad 63))) = some (Slot.val (.ref ((yk_X X ad b L0 xs).2.2.1 63)))
    rw [up 63 (by decide)]
  | 3 =>
    cases hi
    have := hL.2.2.2 3 (.ref 81) rfl
    rw [this]
    show some (Slot.val (.ref (ad 81))) = some (Slot.val (.ref ((yk_X X ad b L0 xs).2.2.1 81)))
    rw [up 81 (by decide)]
  | 4 =>
    cases hi
    exact hL.2.2.2 4 (.int 0) rfl
  | 5 => cases hi
  | 6 => cases hi
  | i + 7 => cases hi
end YKSWAP

/-! The plain machine does what the machine of whole numbers does. -/
def cvv : iV → Value
  | some (.inl x) => .int (Int32.ofInt x)
  | some (.inr (.inl x)) => .long (Int64.ofInt x)
  | some (.inr (.inr k)) => .ref k
  | none => .float 0
abbrev cvL (l : iLs) : gLs := l.map (Option.map cvv)
abbrev cvS (l : List iV) : List Value := l.map cvv
def okv : iV → Prop
  | some (.inl x) => rg x
  | some (.inr (.inl x)) => rgl x
  | _ => True
def okL (l : iLs) : Prop := ∀ v, some v ∈ l → okv v
def okS (l : List iV) : Prop := ∀ v ∈ l, okv v
def okM (m : iM) : Prop := (∀ a j, rg (m.1.1 a j)) ∧ (∀ a j, rgl (m.1.2 a j))
def Sim (L : Nat) (r : gRs) (o : Option iV × iM) : Prop := r = some (o.1.map cvv, cM L o.2) ∧ (∀ v, o.1 = some v → okv v) ∧ okM o.2
abbrev iHK (L : Nat) (ki : iK) (kg : gK) (o : Option iV × iM) : Prop := ∀ j Ls st m, okL Ls → okS st → okM m → ki j Ls st m = some o → Sim L (kg j (cvL Ls) (cvS st) (cM L m)) o
section ISIM0
theorem i32_to {x : Int} (hx : rg x) : (Int32.ofInt x).toInt = x := Int32.toInt_ofInt_of_le (by have := hx.1; omega) (by have := hx.2; omega)
theorem i64_to {x : Int} (hx : rgl x) : (Int64.ofInt x).toInt = x := Int64.toInt_ofInt_of_le (by have := hx.1; omega) (by have := hx.2; omega)
theorem i32_eq {x y : Int} (hx : rg x) (hy : rg y) : Int32.ofInt x = Int32.ofInt y ↔ x = y := by
  rw [← Int32.toInt_inj, i32_to hx, i32_to hy]
theorem i64_eq {x y : Int} (hx : rgl x) (hy : rgl y) : Int64.ofInt x = Int64.ofInt y ↔ x = y := by
  rw [← Int64.toInt_inj, i64_to hx, i64_to hy]
theorem i32_lt {x y : Int} (hx : rg x) (hy : rg y) : Int32.ofInt x < Int32.ofInt y ↔ x < y := by
  rw [Int32.lt_iff_toInt_lt, i32_to hx, i32_to hy]
theorem i32_le {x y : Int} (hx : rg x) (hy : rg y) : Int32.ofInt x ≤ Int32.ofInt y ↔ x ≤ y := by
  rw [Int32.le_iff_toInt_le, i32_to hx, i32_to hy]
theorem i64_lt {x y : Int} (hx : rgl x) (hy : rgl y) : Int64.ofInt x < Int64.ofInt y ↔ x < y := by
  rw [Int64.lt_iff_toInt_lt, i64_to hx, i64_to hy]
theorem rg_to (v : Int32) : rg v.toInt := ⟨by have := v.le_toInt; omega, by have := v.toInt_lt; omega⟩
theorem rgl_to (v : Int64) : rgl v.toInt := ⟨by have := v.le_toInt; omega, by have := v.toInt_lt; omega⟩
theorem rg_0 : rg 0 := ⟨by decide, by decide⟩
theorem rgl_0 : rgl 0 := ⟨by decide, by decide⟩
theorem rg_nn {x n : Int} (h0 : 0 ≤ x) (h : x ≤ n) (hn : rg n) : rg x := ⟨by omega, Int.le_trans h hn.2⟩
theorem rgl_nn {x n : Int} (h0 : 0 ≤ x) (h : x ≤ n) (hn : rgl n) : rgl x := ⟨by omega, Int.le_trans h hn.2⟩
theorem i32_div {x y : Int} (hx : rg x) (hy : rg y) (h0 : 0 ≤ x) : Int32.ofInt x / Int32.ofInt y = Int32.ofInt (x / y) := by
  apply Int32.toInt_inj.mp
  rw [Int32.toInt_div, i32_to hx, i32_to hy, Int32.toInt_ofInt, Int.tdiv_eq_ediv_of_nonneg h0]
theorem i64_div {x y : Int} (hx : rgl x) (hy : rgl y) (h0 : 0 ≤ x) : Int64.ofInt x / Int64.ofInt y = Int64.ofInt (x / y) := by
  apply Int64.toInt_inj.mp
  rw [Int64.toInt_div, i64_to hx, i64_to hy, Int64.toInt_ofInt, Int.tdiv_eq_ediv_of_nonneg h0]
theorem i32_rem {x y : Int} (hx : rg x) (hy : rg y) (h0 : 0 ≤ x) : Int32.ofInt x - Int32.ofInt x / Int32.ofInt y * Int32.ofInt y = Int32.ofInt (x % y) := by
  rw [i32_div hx hy h0, ← Int32.ofInt_mul, ← Int32.ofInt_sub, Int.emod_def, Int.mul_comm]
theorem i64_rem {x y : Int} (hx : rgl x) (hy : rgl y) (h0 : 0 ≤ x) : Int64.ofInt x - Int64.ofInt x / Int64.ofInt y * Int64.ofInt y = Int64.ofInt (x % y) := by
  rw [i64_div hx hy h0, ← Int64.ofInt_mul, ← Int64.ofInt_sub, Int.emod_def, Int.mul_comm]
theorem rg_div {x y : Int} (hx : rg x) (h0 : 0 ≤ x) (h1 : 0 < y) : rg (x / y) := rg_nn (Int.ediv_nonneg h0 (Int.le_of_lt h1)) (Int.ediv_le_self _ h0) hx
theorem rgl_div {x y : Int} (hx : rgl x) (h0 : 0 ≤ x) (h1 : 0 < y) : rgl (x / y) := rgl_nn (Int.ediv_nonneg h0 (Int.le_of_lt h1)) (Int.ediv_le_self _ h0) hx
theorem rg_rem {x y : Int} (hy : rg y) (h1 : 0 < y) : rg (x % y) := rg_nn (Int.emod_nonneg _ (by omega)) (Int.le_of_lt (Int.emod_lt_of_pos _ h1)) hy
theorem rgl_rem {x y : Int} (hy : rgl y) (h1 : 0 < y) : rgl (x % y) := rgl_nn (Int.emod_nonneg _ (by omega)) (Int.le_of_lt (Int.emod_lt_of_pos _ h1)) hy
theorem i32_i64 {x : Int} (hx : rg x) : (Int32.ofInt x).toInt64 = Int64.ofInt x := by
  apply Int64.toInt_inj.mp
  rw [Int32.toInt_toInt64, i32_to hx, i64_to ⟨by have := hx.1; omega, by have := hx.2; omega⟩]
theorem i32_nat {x : Int} (hx : rg x) (h0 : 0 ≤ x) : ((Int32.ofInt x).toNatClampNeg : Int) = x := by
  rw [Int32.toNatClampNeg_ofInt_of_le (by have := hx.1; omega) (by have := hx.2; omega)]
  exact Int.toNat_of_nonneg h0
theorem i32_nar {x : Int} (h0 : 0 ≤ x) (h1 : x < 65536) : ((Int32.ofInt x).toUInt32 % 65536).toInt32 = Int32.ofInt x := by
  have hx : rg x := ⟨by omega, by omega⟩
  have h2 : 0 ≤ Int32.ofInt x := by
    have := (i32_le rg_0 hx).mpr h0
    exact this
  have h3 := Int32.toNat_toUInt32_of_le h2
  have h4 := i32_nat hx h0
  have h5 : (Int32.ofInt x).toUInt32 % 65536 = (Int32.ofInt x).toUInt32 := by
    apply UInt32.toNat_inj.mp
    rw [UInt32.toNat_mod, h3]
    exact Nat.mod_eq_of_lt (by have : (65536 : UInt32).toNat = 65536 := rfl; omega)
  rw [h5, Int32.toInt32_toUInt32]
theorem i32_num {n : Nat} : Int32.ofNat n = Int32.ofInt (n : Int) := Int32.ofInt_eq_ofNat.symm
theorem i64_num {n : Nat} : Int64.ofNat n = Int64.ofInt (n : Int) := Int64.ofInt_eq_ofNat.symm
theorem okS_nil : okS [] := fun _ h => by cases h
theorem okS_cons {v : iV} {l : List iV} (h1 : okv v) (h2 : okS l) : okS (v :: l) := fun w h => by
  rcases List.mem_cons.mp h with rfl | h
  · exact h1
  · exact h2 _ h
theorem okS_hd {v : iV} {l : List iV} (h : okS (v :: l)) : okv v := h v List.mem_cons_self
theorem okS_tl {v : iV} {l : List iV} (h : okS (v :: l)) : okS l := fun w hw => h w (List.mem_cons_of_mem _ hw)
theorem i_nth_cv : ∀ (l : iLs) (k : Nat), g_nth (cvL l) k = (i_nth l k).map cvv
  | [], _ => rfl
  | _ :: _, 0 => rfl
  | _ :: l, k + 1 => i_nth_cv l k
theorem i_nth_ok : ∀ (l : iLs) (k : Nat) (v : iV), okL l → i_nth l k = some v → okv v
  | [], _, _, _, h => by cases h
  | u :: l, 0, v, hL, h => hL v (by rw [show u = some v from h]; exact List.mem_cons_self)
  | _ :: l, k + 1, v, hL, h => i_nth_ok l k v (fun w hw => hL w (List.mem_cons_of_mem _ hw)) h
theorem i_cut_cv (u : Option iV) : g_cut (u.map cvv) = (i_cut u).map cvv := by
  rcases u with _ | _ | x | x | x <;> rfl
theorem i_cut_ok {u : Option iV} {v : iV} (h : i_cut u = some v) : u = some v := by
  rcases u with _ | _ | x | x | x
  · cases h
  · exact h
  · exact h
  · cases h
  · exact h
theorem i_put_cv : ∀ (l : iLs) (k : Nat) (v : iV), g_put (cvL l) k (cvv v) = cvL (i_put l k v) := by
  intro l k v
  fun_induction i_put l k v with
  | case1 => rfl
  | case2 => rfl
  | case3 u v => simp [g_put, i_cut_cv]
  | case4 u v a l => simp [g_put, i_cut_cv]
  | case5 u l k v ih => simp [g_put, ih]
theorem i_put_ok : ∀ (l : iLs) (k : Nat) (v : iV), okL l → okv v → okL (i_put l k v) := by
  intro l k v
  fun_induction i_put l k v with
  | case1 => intro h _; exact h
  | case2 v u l => intro h hv w hw; rcases List.mem_cons.mp hw with q | q
                   · cases q; exact hv
                   · exact h w (List.mem_cons_of_mem _ q)
  | case3 u v => intro h hv w hw; rcases List.mem_cons.mp hw with q | q
                 · exact h w (by rw [i_cut_ok q.symm]; exact List.mem_cons_self)
                 · cases q
  | case4 u v a l =>
    intro h hv w hw
    rcases List.mem_cons.mp hw with q | q
    · exact h w (by rw [i_cut_ok q.symm]; exact List.mem_cons_self)
    · rcases List.mem_cons.mp q with q | q
      · cases q; exact hv
      · exact h w (List.mem_cons_of_mem _ (List.mem_cons_of_mem _ q))
  | case5 u l k v ih =>
    intro h hv w hw
    rcases List.mem_cons.mp hw with q | q
    · exact h w (by rw [← q]; exact List.mem_cons_self)
    · exact ih (fun w hw => h w (List.mem_cons_of_mem _ hw)) hv w q
theorem i_clr_cv : ∀ (l : iLs) (k : Nat), g_clr (cvL l) k = cvL (i_clr l k)
  | [], _ => rfl
  | _ :: _, 0 => rfl
  | u :: l, k + 1 => by simp [g_clr, i_clr, i_clr_cv l k]
theorem i_clr_ok : ∀ (l : iLs) (k : Nat), okL l → okL (i_clr l k)
  | [], _, h => h
  | _ :: l, 0, h => fun w hw => by
    rcases List.mem_cons.mp hw with q | q
    · cases q
    · exact h w (List.mem_cons_of_mem _ q)
  | u :: l, k + 1, h => fun w hw => by
    rcases List.mem_cons.mp hw with q | q
    · exact h w (by rw [← q]; exact List.mem_cons_self)
    · exact i_clr_ok l k (fun w hw => h w (List.mem_cons_of_mem _ hw)) w q
theorem i_put2_cv (l : iLs) (k : Nat) (v : iV) : g_put2 (cvL l) k (cvv v) = cvL (i_put2 l k v) := by
  unfold g_put2 i_put2
  rw [i_put_cv, i_clr_cv]
theorem i_len_cv (l : iLs) : (cvL l).length = l.length := List.length_map _
theorem i_args_cv : ∀ (l : List iV), g_args (cvS l) = cvL (i_args l)
  | [] => rfl
  | v :: l => by rcases v with _ | x | x | x <;> simp [g_args, i_args, cvv, i_args_cv l]
theorem i_args_ok : ∀ (l : List iV), okS l → okL (i_args l)
  | [], _ => fun _ h => by cases h
  | v :: l, h => by
    have ih := i_args_ok l (okS_tl h)
    have hv := okS_hd h
    intro w hw
    rcases v with _ | x | x | x <;> simp only [i_args, List.mem_cons] at hw
    · rcases hw with q | q
      · cases q; exact hv
      · exact ih w q
    · rcases hw with q | q
      · cases q; exact hv
      · exact ih w q
    · rcases hw with q | q | q
      · cases q; exact hv
      · cases q
      · exact ih w q
    · rcases hw with q | q
      · cases q; exact hv
      · exact ih w q
theorem i_pad_cv : ∀ (n : Nat) (l : iLs), g_pad n (cvL l) = cvL (i_pad n l)
  | 0, _ => rfl
  | n + 1, [] => by simpa [g_pad, i_pad] using i_pad_cv n []
  | n + 1, u :: l => by simp [g_pad, i_pad, i_pad_cv n l]
theorem i_pad_ok : ∀ (n : Nat) (l : iLs), okL l → okL (i_pad n l)
  | 0, _, _ => fun _ h => by cases h
  | n + 1, [], h => fun w hw => by
    rcases List.mem_cons.mp hw with q | q
    · cases q
    · exact i_pad_ok n [] h w q
  | n + 1, u :: l, h => fun w hw => by
    rcases List.mem_cons.mp hw with q | q
    · exact h w (by rw [← q]; exact List.mem_cons_self)
    · exact i_pad_ok n l (fun w hw => h w (List.mem_cons_of_mem _ hw)) w q
theorem i_pop_cv : ∀ (n : Nat) (st acc : List iV), g_pop n (cvS st) (cvS acc) = (i_pop n st acc).map fun q => (cvS q.1, cvS q.2)
  | 0, _, _ => rfl
  | _ + 1, [], _ => rfl
  | n + 1, v :: st, acc => i_pop_cv n st (v :: acc)
theorem i_pop_ok : ∀ (n : Nat) (st acc : List iV) (As st1 : List iV), okS st → okS acc → i_pop n st acc = some (As, st1) → okS As ∧ okS st1
  | 0, st, acc, As, st1, h1, h2, h => by cases h; exact ⟨h2, h1⟩
  | _ + 1, [], _, _, _, _, _, h => by cases h
  | n + 1, v :: st, acc, As, st1, h1, h2, h => i_pop_ok n st (v :: acc) As st1 (okS_tl h1) (okS_cons (okS_hd h1) h2) h
theorem i_cats_cv : ∀ (l : List iV), g_cats (cvS l) = i_cats l
  | [] => rfl
  | v :: l => by rcases v with _ | x | x | x <;> simp [g_cats, i_cats, cvv, ← i_cats_cv l]
theorem i_b1_inv {st : List iV} {k : Int → List iV → iRs} {o : Option iV × iM} (h : i_b1 st k = some o) : ∃ x st1, st = vI x :: st1 ∧ k x st1 = some o := by
  unfold i_b1 at h; split at h
  · exact ⟨_, _, rfl, h⟩
  · cases h
theorem i_l1_inv {st : List iV} {k : Int → List iV → iRs} {o : Option iV × iM} (h : i_l1 st k = some o) : ∃ x st1, st = vJ x :: st1 ∧ k x st1 = some o := by
  unfold i_l1 at h; split at h
  · exact ⟨_, _, rfl, h⟩
  · cases h
theorem i_a1_inv {st : List iV} {k : Nat → List iV → iRs} {o : Option iV × iM} (h : i_a1 st k = some o) : ∃ x st1, st = vR x :: st1 ∧ k x st1 = some o := by
  unfold i_a1 at h; split at h
  · exact ⟨_, _, rfl, h⟩
  · cases h
theorem i_b2_inv {st : List iV} {k : Int → Int → List iV → iRs} {o : Option iV × iM} (h : i_b2 st k = some o) : ∃ x y st1, st = vI y :: vI x :: st1 ∧ k x y st1 = some o := by
  unfold i_b2 at h; split at h
  · exact ⟨_, _, _, rfl, h⟩
  · cases h
theorem i_l2_inv {st : List iV} {k : Int → Int → List iV → iRs} {o : Option iV × iM} (h : i_l2 st k = some o) : ∃ x y st1, st = vJ y :: vJ x :: st1 ∧ k x y st1 = some o := by
  unfold i_l2 at h; split at h
  · exact ⟨_, _, _, rfl, h⟩
  · cases h
theorem i_il_inv {st : List iV} {k : Int → Int → List iV → iRs} {o : Option iV × iM} (h : i_il st k = some o) : ∃ x y st1, st = vI y :: vJ x :: st1 ∧ k x y st1 = some o := by
  unfold i_il at h; split at h
  · exact ⟨_, _, _, rfl, h⟩
  · cases h
theorem i_ai_inv {st : List iV} {k : Nat → Int → List iV → iRs} {o : Option iV × iM} (h : i_ai st k = some o) : ∃ x y st1, st = vI y :: vR x :: st1 ∧ k x y st1 = some o := by
  unfold i_ai at h; split at h
  · exact ⟨_, _, _, rfl, h⟩
  · cases h
theorem i_aii_inv {st : List iV} {k : Nat → Int → Int → List iV → iRs} {o : Option iV × iM} (h : i_aii st k = some o) : ∃ a i x st1, st = vI x :: vI i :: vR a :: st1 ∧ k a i x st1 = some o := by
  unfold i_aii at h; split at h
  · exact ⟨_, _, _, _, rfl, h⟩
  · cases h
theorem i_ail_inv {st : List iV} {k : Nat → Int → Int → List iV → iRs} {o : Option iV × iM} (h : i_ail st k = some o) : ∃ a i x st1, st = vJ x :: vI i :: vR a :: st1 ∧ k a i x st1 = some o := by
  unfold i_ail at h; split at h
  · exact ⟨_, _, _, _, rfl, h⟩
  · cases h
theorem iov_inv {α : Type} {x : Int} {k : Option α} {o : α} (h : iov x k = some o) : rg x ∧ k = some o := by
  unfold iov at h; split at h
  · exact ⟨by assumption, h⟩
  · cases h
theorem iol_inv {α : Type} {x : Int} {k : Option α} {o : α} (h : iol x k = some o) : rgl x ∧ k = some o := by
  unfold iol at h; split at h
  · exact ⟨by assumption, h⟩
  · cases h
theorem ick_inv {α : Type} {x n : Int} {k : Option α} {o : α} (h : ick x n k = some o) : 0 ≤ x ∧ x < n ∧ k = some o := by
  unfold ick at h; split at h
  · rename_i q; exact ⟨q.1, q.2, h⟩
  · cases h
theorem idv_inv {α : Type} {x n : Int} {k : Option α} {o : α} (h : idv x n k = some o) : 0 ≤ x ∧ 0 < n ∧ k = some o := by
  unfold idv at h; split at h
  · rename_i q; exact ⟨q.1, q.2, h⟩
  · cases h
theorem ib1_inv {α : Type} {x : Int} {k : Option α} {o : α} (h : ib1 x k = some o) : (x = 0 ∨ x = 1) ∧ k = some o := by
  unfold ib1 at h; split at h
  · exact ⟨by assumption, h⟩
  · cases h
theorem ich_inv {α : Type} {x : Int} {k : Option α} {o : α} (h : ich x k = some o) : 0 ≤ x ∧ x < 65536 ∧ k = some o := by
  unfold ich at h; split at h
  · rename_i q; exact ⟨q.1, q.2, h⟩
  · cases h
theorem icp_inv {α : Type} {sp dp n na nd : Int} {k : Option α} {o : α} (h : icp sp dp n na nd k = some o) : (0 ≤ sp ∧ 0 ≤ dp ∧ 0 ≤ n ∧ sp + n ≤ na ∧ dp + n ≤ nd) ∧ k = some o := by
  unfold icp at h; split at h
  · exact ⟨by assumption, h⟩
  · cases h
theorem i_cond_inv {b : Bool} {k : iRs} {o : Option iV × iM} (h : (bif b then k else none) = some o) : b = true ∧ k = some o := by
  cases b
  · cases h
  · exact ⟨rfl, h⟩
theorem i_ar_inv {wr : Bool} {x : Int} {k : Int → iRs} {o : Option iV × iM} (h : i_ar wr x k = some o) : ∃ z, rg z ∧ Int32.ofInt x = Int32.ofInt z ∧ k z = some o := by
  cases wr with
  | true =>
    refine ⟨x.bmod 4294967296, ⟨?_, ?_⟩, ?_, h⟩
    · have := Int.le_bmod (x := x) (m := 4294967296) (by decide); omega
    · have := Int.bmod_lt (x := x) (m := 4294967296) (by decide); omega
    · apply Int32.toInt_inj.mp
      rw [Int32.toInt_ofInt, Int32.toInt_ofInt]
      exact (Int.bmod_bmod).symm
  | false =>
    replace h := iov_inv h; obtain ⟨h1, h2⟩ := h
    exact ⟨x, h1, rfl, h2⟩
theorem cM_up {L : Nat} {m : iM} {a : Nat} {i x : Int} {k : Nat} (hk : (k : Int) = i) : (g_up (cM L m).1 a k (Int32.ofInt x), (cM L m).2) = cM L (iw m.1 a i x, m.2) := by
  subst hk
  refine Prod.ext ?_ rfl
  funext b j
  show (if b = a then (if j = k then Int32.ofInt x else Int32.ofInt (m.1.1 a j)) else Int32.ofInt (m.1.1 b j)) = Int32.ofInt (if b = a ∧ (j : Int) = (k : Int) then x else m.1.1 b j)
  by_cases hb : b = a
  · by_cases hj : j = k
    · rw [if_pos hb, if_pos hj, if_pos ⟨hb, by omega⟩]
    · rw [if_pos hb, if_neg hj, if_neg (fun q => hj (by have := q.2; omega)), hb]
  · rw [if_neg hb, if_neg (fun q => hb q.1)]
theorem cM_upl {L : Nat} {m : iM} {a : Nat} {i x : Int} {k : Nat} (hk : (k : Int) = i) : ((cM L m).1, g_up (cM L m).2.1 a k (Int64.ofInt x), (cM L m).2.2) = cM L (iwl m.1 a i x, m.2) := by
  subst hk
  refine Prod.ext rfl (Prod.ext ?_ rfl)
  funext b j
  show (if b = a then (if j = k then Int64.ofInt x else Int64.ofInt (m.1.2 a j)) else Int64.ofInt (m.1.2 b j)) = Int64.ofInt (if b = a ∧ (j : Int) = (k : Int) then x else m.1.2 b j)
  by_cases hb : b = a
  · by_cases hj : j = k
    · rw [if_pos hb, if_pos hj, if_pos ⟨hb, by omega⟩]
    · rw [if_pos hb, if_neg hj, if_neg (fun q => hj (by have := q.2; omega)), hb]
  · rw [if_neg hb, if_neg (fun q => hb q.1)]
theorem okM_iw {m : iM} {a : Nat} {i x : Int} (h : okM m) (hx : rg x) : okM (iw m.1 a i x, m.2) := by
  refine ⟨fun b j => ?_, h.2⟩
  show rg (if b = a ∧ j = i then x else m.1.1 b j)
  split
  · exact hx
  · exact h.1 b j
theorem okM_iwl {m : iM} {a : Nat} {i x : Int} (h : okM m) (hx : rgl x) : okM (iwl m.1 a i x, m.2) := by
  refine ⟨h.1, fun b j => ?_⟩
  show rgl (if b = a ∧ j = i then x else m.1.2 b j)
  split
  · exact hx
  · exact h.2 b j
end ISIM0
section ISIM
variable {L : Nat} {wr : Bool} {fi : iF} {fg : gF} {ki : iK} {kg : gK} {Ls : iLs} {st : List iV} {m : iM} {o : Option iV × iM} {pc len a b c0 : Nat} {ins : Instr}
theorem i_ldi_sim (hk : iHK L ki kg o) (hL : okL Ls) (hS : okS st) (hM : okM m) {i : Nat} (h : i_ldi Ls i st m ki = some o) : Sim L (g_ldi (cvL Ls) i (cvS st) (cM L m) kg) o := by
  unfold i_ldi at h; split at h
  · rename_i x hx
    unfold g_ldi
    rw [i_nth_cv, hx]
    exact hk none Ls _ m hL (okS_cons (i_nth_ok _ _ _ hL hx) hS) hM h
  · cases h
theorem i_ldl_sim (hk : iHK L ki kg o) (hL : okL Ls) (hS : okS st) (hM : okM m) {i : Nat} (h : i_ldl Ls i st m ki = some o) : Sim L (g_ldl (cvL Ls) i (cvS st) (cM L m) kg) o := by
  unfold i_ldl at h; split at h
  · rename_i x hx
    unfold g_ldl
    rw [i_nth_cv, hx]
    exact hk none Ls _ m hL (okS_cons (i_nth_ok _ _ _ hL hx) hS) hM h
  · cases h
theorem i_lda_sim (hk : iHK L ki kg o) (hL : okL Ls) (hS : okS st) (hM : okM m) {i : Nat} (h : i_lda Ls i st m ki = some o) : Sim L (g_lda (cvL Ls) i (cvS st) (cM L m) kg) o := by
  unfold i_lda at h; split at h
  · rename_i x hx
    unfold g_lda
    rw [i_nth_cv, hx]
    exact hk none Ls _ m hL (okS_cons (v := vR x) trivial hS) hM h
  · cases h
theorem i_c_g (k j : Nat) : (g_C 0).2.1 k j = (g_cin.getD (k - 1000) []).getD j 0 := by simp only [g_C]
theorem i_c_e : g_cin = i_cin.map (List.map Int32.ofInt) := by decide +kernel
theorem i_c_cv (k j : Nat) : (g_C 0).2.1 k j = Int32.ofInt (i_c k (j : Int)) := by
  rw [i_c_g, i_c_def, Int.toNat_natCast, i_c_e]
  generalize i_cin = l
  rw [List.getD_eq_getElem?_getD, List.getD_eq_getElem?_getD, List.getD_eq_getElem?_getD, List.getD_eq_getElem?_getD, List.getElem?_map]
  cases l[k - 1000]? with
  | none => rfl
  | some r =>
    simp only [Option.map_some, Option.getD_some, List.getElem?_map]
    cases r[j]? with
    | none => rfl
    | some x => rfl
theorem i_c_all : ∀ l ∈ i_cin, ∀ x ∈ l, -2147483648 ≤ x ∧ x ≤ 2147483647 := by decide +kernel
theorem i_c_rg (k : Nat) (i : Int) : rg (i_c k i) := by
  rw [i_c_def]
  rw [List.getD_eq_getElem?_getD, List.getD_eq_getElem?_getD]
  cases h : i_cin[k - 1000]? with
  | none => exact rg_0
  | some r =>
    simp only [Option.getD_some]
    cases h2 : r[i.toNat]? with
    | none => exact rg_0
    | some x => exact i_c_all r (List.mem_of_getElem? h) x (List.mem_of_getElem? h2)
theorem i_get_sim (hk : iHK L ki kg o) (hL : okL Ls) (hS : okS st) (hM : okM m) (h : i_get L (pc, ins, len, a, b, c0) Ls st m ki = some o) : Sim L (g_get (g_C 0) (pc, ins, len, a, b, c0) (cvL Ls) (cvS st) (cM L m) kg) o := by
  replace h := i_a1_inv h; obtain ⟨x, st, rfl, h⟩ := h
  have hS1 := okS_tl hS
  simp only [g_get, g_a1, cvS, List.map_cons, cvv]
  simp only [i_sh] at h
  split at h
  · rename_i cl hq
    rw [hq]
    replace h := i_cond_inv h; obtain ⟨hb, h⟩ := h
    simp only [hb, cond_true]
    split at h
    · exact hk none Ls (vJ (m.1.2 x b) :: st) m hL (okS_cons (hM.2 _ _) hS1) hM h
    · split at h
      · cases h
      · rename_i z hz
        have e1 : (cM L m).2.2.1 x b = z + 1 := hz
        simp only [e1]
        exact hk none Ls (vR z :: st) m hL (okS_cons (v := vR z) trivial hS1) hM h
    · split
      · rename_i q1 _; exact absurd rfl q1
      · rename_i q1; exact absurd rfl q1
      · exact hk none Ls (vI (m.1.1 x b) :: st) m hL (okS_cons (hM.1 _ _) hS1) hM h
  · rename_i cl hq
    rw [hq]
    replace h := i_cond_inv h; obtain ⟨hb, h⟩ := h
    simp only [hb, cond_true]
    split at h
    · cases h
    · split at h
      · cases h
      · rename_i z hz
        simp only [hz]
        exact hk none Ls (vR z :: st) m hL (okS_cons (v := vR z) trivial hS1) hM h
    · split
      · rename_i q1 _; exact absurd rfl q1
      · rename_i q1; exact absurd rfl q1
      · rw [i_c_cv]
        exact hk none Ls (vI (i_c x b) :: st) m hL (okS_cons (v := vI (i_c x b)) (i_c_rg _ _) hS1) hM h
  · cases h
theorem i_set_sim (hk : iHK L ki kg o) (hL : okL Ls) (hS : okS st) (hM : okM m) (h : i_set L (pc, ins, len, a, b, c0) Ls st m ki = some o) : Sim L (g_set (g_C 0) (pc, ins, len, a, b, c0) (cvL Ls) (cvS st) (cM L m) kg) o := by
  unfold i_set at h
  split at h
  · rename_i v x st
    have hS1 := okS_tl (okS_tl hS)
    have hv := okS_hd hS
    simp only [g_set, cvS, List.map_cons, cvv]
    simp only [i_sh] at h
    split at h
    · rename_i cl hq
      rw [hq]
      replace h := i_cond_inv h; obtain ⟨hb, h⟩ := h
      simp only [hb, cond_true]
      split at h
      · rename_i y
        have e1 := cM_up (L := L) (m := m) (a := x) (i := (b : Int)) (x := y) (k := b) rfl
        show Sim L (kg none (cvL Ls) (cvS st) (g_up (cM L m).1 x b (Int32.ofInt y), (cM L m).2)) o
        rw [e1]
        exact hk none Ls st _ hL hS1 (okM_iw hM hv) h
      · rename_i y
        have e1 := cM_upl (L := L) (m := m) (a := x) (i := (b : Int)) (x := y) (k := b) rfl
        show Sim L (kg none (cvL Ls) (cvS st) ((cM L m).1, g_up (cM L m).2.1 x b (Int64.ofInt y), (cM L m).2.2)) o
        rw [e1]
        exact hk none Ls st _ hL hS1 (okM_iwl hM hv) h
      · rename_i y
        replace h := i_cond_inv h; obtain ⟨hw, h⟩ := h
        have hw2 : g_wf (cM L m).2.2.2.1.length (Value.ref y) = true := hw
        simp only [cvv, hw2, cond_true]
        exact hk none Ls st (m.1, g_up m.2 x b (y + 1)) hL hS1 hM h
      · rename_i y
        replace h := ib1_inv h; obtain ⟨hy, h⟩ := h
        have hy2 : Int32.ofInt y = 0 ∨ Int32.ofInt y = 1 := hy.elim (fun q => Or.inl (by rw [q]; rfl)) (fun q => Or.inr (by rw [q]; rfl))
        simp only [cvv]
        rw [if_pos hy2]
        have e1 := cM_up (L := L) (m := m) (a := x) (i := (b : Int)) (x := y) (k := b) rfl
        rw [e1]
        exact hk none Ls st _ hL hS1 (okM_iw hM hv) h
      · cases h
    · cases h
  · cases h
theorem i_num_cv : g_num (pc, ins, len, a, b, c0) = Int32.ofInt (i_num (pc, ins, len, a, b, c0)) := by
  cases c0 with
  | zero => exact i32_num
  | succ n =>
    show -Int32.ofNat a = Int32.ofInt (-(a : Int))
    rw [Int32.ofInt_neg, i32_num]
theorem i_rgd {x : Int} (h : decide (-2147483648 ≤ x ∧ x ≤ 2147483647) = true) : rg x := by
  have h2 : -2147483648 ≤ x ∧ x ≤ 2147483647 := of_decide_eq_true h
  exact h2
/-- a number of the code is one that an int holds -/
def i_okE (e : gCE) : Bool := match e.2.1 with
  | .iconst _ => decide (-2147483648 ≤ i_num e ∧ i_num e ≤ 2147483647)
  | .bipush _ => decide (-2147483648 ≤ i_num e ∧ i_num e ≤ 2147483647)
  | .sipush _ => decide (-2147483648 ≤ i_num e ∧ i_num e ≤ 2147483647)
  | .lconst _ => decide ((e.2.2.2.1 : Int) ≤ 9223372036854775807)
  | .ldc _ => decide (-2147483648 ≤ i_num e ∧ i_num e ≤ 2147483647)
  | .ldc_w _ => decide (-2147483648 ≤ i_num e ∧ i_num e ≤ 2147483647)
  | .ldc2_w _ => decide ((e.2.2.2.1 : Int) ≤ 9223372036854775807)
  | .getstatic _ => decide ((e.2.2.2.1 : Int) ≤ 2147483647)
  | _ => true
theorem i_ifc_sim {c : Jvm.ClassFile.Cond} {x : Int} {t f : iRs} {tg fg : gRs} (hx : rg x) (ht : t = some o → Sim L tg o) (hf : f = some o → Sim L fg o) (h : i_ifc c x t f = some o) : Sim L (g_ifc c (Int32.ofInt x) tg fg) o := by
  have e0 : (0 : Int32) = Int32.ofInt 0 := rfl
  cases c <;> simp only [i_ifc, g_ifc, e0, i32_eq hx rg_0, i32_lt hx rg_0, i32_lt rg_0 hx, i32_le hx rg_0, i32_le rg_0 hx] at h ⊢ <;> split at h <;> rename_i q <;> first | (rw [if_pos q]; first | exact ht h | exact hf h) | (rw [if_neg q]; first | exact ht h | exact hf h)
theorem i_icmp_sim {c : Jvm.ClassFile.Cond} {x y : Int} {t f : iRs} {tg fg : gRs} (hx : rg x) (hy : rg y) (ht : t = some o → Sim L tg o) (hf : f = some o → Sim L fg o) (h : i_icmp c x y t f = some o) : Sim L (g_icmp c (Int32.ofInt x) (Int32.ofInt y) tg fg) o := by
  cases c <;> simp only [i_icmp, g_icmp, i32_eq hx hy, i32_lt hx hy, i32_lt hy hx, i32_le hx hy, i32_le hy hx] at h ⊢ <;> split at h <;> rename_i q <;> first | (rw [if_pos q]; first | exact ht h | exact hf h) | (rw [if_neg q]; first | exact ht h | exact hf h)
theorem i_cmp_cv {x y : Int} (hx : rgl x) (hy : rgl y) : lg_cmp (Int64.ofInt x) (Int64.ofInt y) = Int32.ofInt (i_cmp x y) := by
  unfold lg_cmp i_cmp
  have e1 : (Int64.ofInt x > Int64.ofInt y) ↔ y < x := i64_lt hy hx
  by_cases h1 : y < x
  · rw [if_pos (e1.mpr h1), if_pos h1]; rfl
  · rw [if_neg (fun q => h1 (e1.mp q)), if_neg h1]
    by_cases h2 : x = y
    · rw [if_pos ((i64_eq hx hy).mpr h2), if_pos h2]; rfl
    · rw [if_neg (fun q => h2 ((i64_eq hx hy).mp q)), if_neg h2]; rfl
theorem i_cmp_rg (x y : Int) : rg (i_cmp x y) := by
  unfold i_cmp rg
  split
  · omega
  · split <;> omega
theorem i_chk {x : Int} {n : Nat} {k : gRs} (hx : rg x) (h0 : 0 ≤ x) (h1 : x < n) : g_chk (Int32.ofInt x) n k = k := by
  unfold g_chk
  rw [if_neg]
  rintro (q | q)
  · exact absurd ((i32_lt hx rg_0).mp q) (by omega)
  · have := i32_nat hx h0
    omega
theorem i_ne0 {y : Int} (hy : rg y) (h1 : 0 < y) : ¬ Int32.ofInt y = 0 := fun q => by
  have := (i32_eq hy rg_0).mp q
  omega
theorem i_ne0l {y : Int} (hy : rgl y) (h1 : 0 < y) : ¬ Int64.ofInt y = 0 := fun q => by
  have := (i64_eq hy rgl_0).mp q
  omega
theorem i_s_iconst (hk : iHK L ki kg o) (hL : okL Ls) (hS : okS st) (hM : okM m) {z : Int} (hE : i_okE (pc, .iconst z, len, a, b, c0) = true) (h : i_step wr L (pc, .iconst z, len, a, b, c0) Ls st m ki = some o) : Sim L (g_step (g_C 0) (pc, .iconst z, len, a, b, c0) (cvL Ls) (cvS st) (cM L m) kg) o := by
  show Sim L (kg none (cvL Ls) (.int (g_num _) :: cvS st) (cM L m)) o
  rw [i_num_cv]
  exact hk none Ls (vI _ :: st) m hL (okS_cons (v := vI _) (i_rgd hE) hS) hM h
theorem i_s_bipush (hk : iHK L ki kg o) (hL : okL Ls) (hS : okS st) (hM : okM m) {z : Int} (hE : i_okE (pc, .bipush z, len, a, b, c0) = true) (h : i_step wr L (pc, .bipush z, len, a, b, c0) Ls st m ki = some o) : Sim L (g_step (g_C 0) (pc, .bipush z, len, a, b, c0) (cvL Ls) (cvS st) (cM L m) kg) o := by
  show Sim L (kg none (cvL Ls) (.int (g_num _) :: cvS st) (cM L m)) o
  rw [i_num_cv]
  exact hk none Ls (vI _ :: st) m hL (okS_cons (v := vI _) (i_rgd hE) hS) hM h
theorem i_s_sipush (hk : iHK L ki kg o) (hL : okL Ls) (hS : okS st) (hM : okM m) {z : Int} (hE : i_okE (pc, .sipush z, len, a, b, c0) = true) (h : i_step wr L (pc, .sipush z, len, a, b, c0) Ls st m ki = some o) : Sim L (g_step (g_C 0) (pc, .sipush z, len, a, b, c0) (cvL Ls) (cvS st) (cM L m) kg) o := by
  show Sim L (kg none (cvL Ls) (.int (g_num _) :: cvS st) (cM L m)) o
  rw [i_num_cv]
  exact hk none Ls (vI _ :: st) m hL (okS_cons (v := vI _) (i_rgd hE) hS) hM h
theorem i_s_ldc_w (hk : iHK L ki kg o) (hL : okL Ls) (hS : okS st) (hM : okM m) {z : Nat} (hE : i_okE (pc, .ldc_w z, len, a, b, c0) = true) (h : i_step wr L (pc, .ldc_w z, len, a, b, c0) Ls st m ki = some o) : Sim L (g_step (g_C 0) (pc, .ldc_w z, len, a, b, c0) (cvL Ls) (cvS st) (cM L m) kg) o := by
  show Sim L (kg none (cvL Ls) (.int (g_num _) :: cvS st) (cM L m)) o
  rw [i_num_cv]
  exact hk none Ls (vI _ :: st) m hL (okS_cons (v := vI _) (i_rgd hE) hS) hM h
theorem i_s_lconst (hk : iHK L ki kg o) (hL : okL Ls) (hS : okS st) (hM : okM m) {z : Fin 2} (hE : i_okE (pc, .lconst z, len, a, b, c0) = true) (h : i_step wr L (pc, .lconst z, len, a, b, c0) Ls st m ki = some o) : Sim L (g_step (g_C 0) (pc, .lconst z, len, a, b, c0) (cvL Ls) (cvS st) (cM L m) kg) o := by
  show Sim L (kg none (cvL Ls) (.long (Int64.ofNat a) :: cvS st) (cM L m)) o
  rw [i64_num]
  exact hk none Ls (vJ (a : Int) :: st) m hL (okS_cons (v := vJ (a : Int)) ⟨by omega, of_decide_eq_true hE⟩ hS) hM h
theorem i_s_ldc2_w (hk : iHK L ki kg o) (hL : okL Ls) (hS : okS st) (hM : okM m) {z : Nat} (hE : i_okE (pc, .ldc2_w z, len, a, b, c0) = true) (h : i_step wr L (pc, .ldc2_w z, len, a, b, c0) Ls st m ki = some o) : Sim L (g_step (g_C 0) (pc, .ldc2_w z, len, a, b, c0) (cvL Ls) (cvS st) (cM L m) kg) o := by
  show Sim L (kg none (cvL Ls) (.long (Int64.ofNat a) :: cvS st) (cM L m)) o
  rw [i64_num]
  exact hk none Ls (vJ (a : Int) :: st) m hL (okS_cons (v := vJ (a : Int)) ⟨by omega, of_decide_eq_true hE⟩ hS) hM h
theorem i_s_ldc (hk : iHK L ki kg o) (hL : okL Ls) (hS : okS st) (hM : okM m) {z : Nat} (hE : i_okE (pc, .ldc z, len, a, b, c0) = true) (h : i_step wr L (pc, .ldc z, len, a, b, c0) Ls st m ki = some o) : Sim L (g_step (g_C 0) (pc, .ldc z, len, a, b, c0) (cvL Ls) (cvS st) (cM L m) kg) o := by
  simp only [i_step] at h
  simp only [g_step]
  split at h
  · exact hk none Ls (vR a :: st) m hL (okS_cons (v := vR a) trivial hS) hM h
  · split
    · rename_i q; exact absurd rfl q
    · rw [i_num_cv]
      exact hk none Ls (vI _ :: st) m hL (okS_cons (v := vI _) (i_rgd hE) hS) hM h
theorem i_s_iload_n (hk : iHK L ki kg o) (hL : okL Ls) (hS : okS st) (hM : okM m) {i : Fin 4} (h : i_step wr L (pc, .iload_n i, len, a, b, c0) Ls st m ki = some o) : Sim L (g_step (g_C 0) (pc, .iload_n i, len, a, b, c0) (cvL Ls) (cvS st) (cM L m) kg) o := by
  exact i_ldi_sim hk hL hS hM h
theorem i_s_iload (hk : iHK L ki kg o) (hL : okL Ls) (hS : okS st) (hM : okM m) {i : Nat} (h : i_step wr L (pc, .iload i, len, a, b, c0) Ls st m ki = some o) : Sim L (g_step (g_C 0) (pc, .iload i, len, a, b, c0) (cvL Ls) (cvS st) (cM L m) kg) o := by
  exact i_ldi_sim hk hL hS hM h
theorem i_s_lload_n (hk : iHK L ki kg o) (hL : okL Ls) (hS : okS st) (hM : okM m) {i : Fin 4} (h : i_step wr L (pc, .lload_n i, len, a, b, c0) Ls st m ki = some o) : Sim L (g_step (g_C 0) (pc, .lload_n i, len, a, b, c0) (cvL Ls) (cvS st) (cM L m) kg) o := by
  exact i_ldl_sim hk hL hS hM h
theorem i_s_lload (hk : iHK L ki kg o) (hL : okL Ls) (hS : okS st) (hM : okM m) {i : Nat} (h : i_step wr L (pc, .lload i, len, a, b, c0) Ls st m ki = some o) : Sim L (g_step (g_C 0) (pc, .lload i, len, a, b, c0) (cvL Ls) (cvS st) (cM L m) kg) o := by
  exact i_ldl_sim hk hL hS hM h
theorem i_s_aload_n (hk : iHK L ki kg o) (hL : okL Ls) (hS : okS st) (hM : okM m) {i : Fin 4} (h : i_step wr L (pc, .aload_n i, len, a, b, c0) Ls st m ki = some o) : Sim L (g_step (g_C 0) (pc, .aload_n i, len, a, b, c0) (cvL Ls) (cvS st) (cM L m) kg) o := by
  exact i_lda_sim hk hL hS hM h
theorem i_s_aload (hk : iHK L ki kg o) (hL : okL Ls) (hS : okS st) (hM : okM m) {i : Nat} (h : i_step wr L (pc, .aload i, len, a, b, c0) Ls st m ki = some o) : Sim L (g_step (g_C 0) (pc, .aload i, len, a, b, c0) (cvL Ls) (cvS st) (cM L m) kg) o := by
  exact i_lda_sim hk hL hS hM h
theorem i_s_istore_n (hk : iHK L ki kg o) (hL : okL Ls) (hS : okS st) (hM : okM m) {i : Fin 4} (h : i_step wr L (pc, .istore_n i, len, a, b, c0) Ls st m ki = some o) : Sim L (g_step (g_C 0) (pc, .istore_n i, len, a, b, c0) (cvL Ls) (cvS st) (cM L m) kg) o := by
  replace h := i_b1_inv h; obtain ⟨x, st, rfl, h⟩ := h
  replace h := i_cond_inv h; obtain ⟨hb, h⟩ := h
  show Sim L (bif Nat.blt i (cvL Ls).length then kg none (g_put (cvL Ls) i (cvv (vI x))) (cvS st) (cM L m) else none) o
  rw [i_len_cv, hb, i_put_cv]
  exact hk none _ st m (i_put_ok _ _ _ hL (okS_hd hS)) (okS_tl hS) hM h
theorem i_s_istore (hk : iHK L ki kg o) (hL : okL Ls) (hS : okS st) (hM : okM m) {i : Nat} (h : i_step wr L (pc, .istore i, len, a, b, c0) Ls st m ki = some o) : Sim L (g_step (g_C 0) (pc, .istore i, len, a, b, c0) (cvL Ls) (cvS st) (cM L m) kg) o := by
  replace h := i_b1_inv h; obtain ⟨x, st, rfl, h⟩ := h
  replace h := i_cond_inv h; obtain ⟨hb, h⟩ := h
  show Sim L (bif Nat.blt i (cvL Ls).length then kg none (g_put (cvL Ls) i (cvv (vI x))) (cvS st) (cM L m) else none) o
  rw [i_len_cv, hb, i_put_cv]
  exact hk none _ st m (i_put_ok _ _ _ hL (okS_hd hS)) (okS_tl hS) hM h
theorem i_s_astore_n (hk : iHK L ki kg o) (hL : okL Ls) (hS : okS st) (hM : okM m) {i : Fin 4} (h : i_step wr L (pc, .astore_n i, len, a, b, c0) Ls st m ki = some o) : Sim L (g_step (g_C 0) (pc, .astore_n i, len, a, b, c0) (cvL Ls) (cvS st) (cM L m) kg) o := by
  replace h := i_a1_inv h; obtain ⟨x, st, rfl, h⟩ := h
  replace h := i_cond_inv h; obtain ⟨hb, h⟩ := h
  show Sim L (bif Nat.blt i (cvL Ls).length then kg none (g_put (cvL Ls) i (cvv (vR x))) (cvS st) (cM L m) else none) o
  rw [i_len_cv, hb, i_put_cv]
  exact hk none _ st m (i_put_ok _ _ _ hL (okS_hd hS)) (okS_tl hS) hM h
theorem i_s_astore (hk : iHK L ki kg o) (hL : okL Ls) (hS : okS st) (hM : okM m) {i : Nat} (h : i_step wr L (pc, .astore i, len, a, b, c0) Ls st m ki = some o) : Sim L (g_step (g_C 0) (pc, .astore i, len, a, b, c0) (cvL Ls) (cvS st) (cM L m) kg) o := by
  replace h := i_a1_inv h; obtain ⟨x, st, rfl, h⟩ := h
  replace h := i_cond_inv h; obtain ⟨hb, h⟩ := h
  show Sim L (bif Nat.blt i (cvL Ls).length then kg none (g_put (cvL Ls) i (cvv (vR x))) (cvS st) (cM L m) else none) o
  rw [i_len_cv, hb, i_put_cv]
  exact hk none _ st m (i_put_ok _ _ _ hL (okS_hd hS)) (okS_tl hS) hM h
theorem i_s_lstore_n (hk : iHK L ki kg o) (hL : okL Ls) (hS : okS st) (hM : okM m) {i : Fin 4} (h : i_step wr L (pc, .lstore_n i, len, a, b, c0) Ls st m ki = some o) : Sim L (g_step (g_C 0) (pc, .lstore_n i, len, a, b, c0) (cvL Ls) (cvS st) (cM L m) kg) o := by
  replace h := i_l1_inv h; obtain ⟨x, st, rfl, h⟩ := h
  replace h := i_cond_inv h; obtain ⟨hb, h⟩ := h
  show Sim L (bif Nat.blt (i + 1) (cvL Ls).length then kg none (g_put2 (cvL Ls) i (cvv (vJ x))) (cvS st) (cM L m) else none) o
  rw [i_len_cv, hb, i_put2_cv]
  exact hk none _ st m (i_clr_ok _ _ (i_put_ok _ _ _ hL (okS_hd hS))) (okS_tl hS) hM h
theorem i_s_lstore (hk : iHK L ki kg o) (hL : okL Ls) (hS : okS st) (hM : okM m) {i : Nat} (h : i_step wr L (pc, .lstore i, len, a, b, c0) Ls st m ki = some o) : Sim L (g_step (g_C 0) (pc, .lstore i, len, a, b, c0) (cvL Ls) (cvS st) (cM L m) kg) o := by
  replace h := i_l1_inv h; obtain ⟨x, st, rfl, h⟩ := h
  replace h := i_cond_inv h; obtain ⟨hb, h⟩ := h
  show Sim L (bif Nat.blt (i + 1) (cvL Ls).length then kg none (g_put2 (cvL Ls) i (cvv (vJ x))) (cvS st) (cM L m) else none) o
  rw [i_len_cv, hb, i_put2_cv]
  exact hk none _ st m (i_clr_ok _ _ (i_put_ok _ _ _ hL (okS_hd hS))) (okS_tl hS) hM h
theorem i_s_iinc (hk : iHK L ki kg o) (hL : okL Ls) (hS : okS st) (hM : okM m) {i : Nat} {z : Int} (h : i_step wr L (pc, .iinc i z, len, a, b, c0) Ls st m ki = some o) : Sim L (g_step (g_C 0) (pc, .iinc i z, len, a, b, c0) (cvL Ls) (cvS st) (cM L m) kg) o := by
  simp only [i_step] at h
  split at h
  · rename_i x hx
    replace h := i_cond_inv h; obtain ⟨hb, h⟩ := h
    replace h := iov_inv h; obtain ⟨hz, h⟩ := h
    simp only [g_step]
    rw [i_nth_cv, hx]
    show Sim L (bif Nat.blt i (cvL Ls).length then kg none (g_put (cvL Ls) i (.int (Int32.ofInt x + g_num _))) (cvS st) (cM L m) else none) o
    rw [i_len_cv, hb, i_num_cv, ← Int32.ofInt_add]
    have e1 := i_put_cv Ls i (vI (x + i_num (pc, .iinc i z, len, a, b, c0)))
    simp only [cvv] at e1
    rw [cond_true, e1]
    exact hk none _ st m (i_put_ok _ _ _ hL hz) hS hM h
  · cases h
theorem i_s_iadd (hk : iHK L ki kg o) (hL : okL Ls) (hS : okS st) (hM : okM m) (h : i_step wr L (pc, .iadd, len, a, b, c0) Ls st m ki = some o) : Sim L (g_step (g_C 0) (pc, .iadd, len, a, b, c0) (cvL Ls) (cvS st) (cM L m) kg) o := by
  replace h := i_b2_inv h; obtain ⟨x, y, st, rfl, h⟩ := h
  replace h := i_ar_inv h; obtain ⟨z, hz, ez, h⟩ := h
  show Sim L (kg none (cvL Ls) (.int (Int32.ofInt x + Int32.ofInt y) :: cvS st) (cM L m)) o
  rw [← Int32.ofInt_add, ez]
  exact hk none Ls (vI z :: st) m hL (okS_cons (v := vI z) hz (okS_tl (okS_tl hS))) hM h
theorem i_s_isub (hk : iHK L ki kg o) (hL : okL Ls) (hS : okS st) (hM : okM m) (h : i_step wr L (pc, .isub, len, a, b, c0) Ls st m ki = some o) : Sim L (g_step (g_C 0) (pc, .isub, len, a, b, c0) (cvL Ls) (cvS st) (cM L m) kg) o := by
  replace h := i_b2_inv h; obtain ⟨x, y, st, rfl, h⟩ := h
  replace h := i_ar_inv h; obtain ⟨z, hz, ez, h⟩ := h
  show Sim L (kg none (cvL Ls) (.int (Int32.ofInt x - Int32.ofInt y) :: cvS st) (cM L m)) o
  rw [← Int32.ofInt_sub, ez]
  exact hk none Ls (vI z :: st) m hL (okS_cons (v := vI z) hz (okS_tl (okS_tl hS))) hM h
theorem i_s_imul (hk : iHK L ki kg o) (hL : okL Ls) (hS : okS st) (hM : okM m) (h : i_step wr L (pc, .imul, len, a, b, c0) Ls st m ki = some o) : Sim L (g_step (g_C 0) (pc, .imul, len, a, b, c0) (cvL Ls) (cvS st) (cM L m) kg) o := by
  replace h := i_b2_inv h; obtain ⟨x, y, st, rfl, h⟩ := h
  replace h := i_ar_inv h; obtain ⟨z, hz, ez, h⟩ := h
  show Sim L (kg none (cvL Ls) (.int (Int32.ofInt x * Int32.ofInt y) :: cvS st) (cM L m)) o
  rw [← Int32.ofInt_mul, ez]
  exact hk none Ls (vI z :: st) m hL (okS_cons (v := vI z) hz (okS_tl (okS_tl hS))) hM h
theorem i_s_ladd (hk : iHK L ki kg o) (hL : okL Ls) (hS : okS st) (hM : okM m) (h : i_step wr L (pc, .ladd, len, a, b, c0) Ls st m ki = some o) : Sim L (g_step (g_C 0) (pc, .ladd, len, a, b, c0) (cvL Ls) (cvS st) (cM L m) kg) o := by
  replace h := i_l2_inv h; obtain ⟨x, y, st, rfl, h⟩ := h
  replace h := iol_inv h; obtain ⟨hz, h⟩ := h
  show Sim L (kg none (cvL Ls) (.long (Int64.ofInt x + Int64.ofInt y) :: cvS st) (cM L m)) o
  rw [← Int64.ofInt_add]
  exact hk none Ls (vJ _ :: st) m hL (okS_cons (v := vJ _) hz (okS_tl (okS_tl hS))) hM h
theorem i_s_lsub (hk : iHK L ki kg o) (hL : okL Ls) (hS : okS st) (hM : okM m) (h : i_step wr L (pc, .lsub, len, a, b, c0) Ls st m ki = some o) : Sim L (g_step (g_C 0) (pc, .lsub, len, a, b, c0) (cvL Ls) (cvS st) (cM L m) kg) o := by
  replace h := i_l2_inv h; obtain ⟨x, y, st, rfl, h⟩ := h
  replace h := iol_inv h; obtain ⟨hz, h⟩ := h
  show Sim L (kg none (cvL Ls) (.long (Int64.ofInt x - Int64.ofInt y) :: cvS st) (cM L m)) o
  rw [← Int64.ofInt_sub]
  exact hk none Ls (vJ _ :: st) m hL (okS_cons (v := vJ _) hz (okS_tl (okS_tl hS))) hM h
theorem i_s_lmul (hk : iHK L ki kg o) (hL : okL Ls) (hS : okS st) (hM : okM m) (h : i_step wr L (pc, .lmul, len, a, b, c0) Ls st m ki = some o) : Sim L (g_step (g_C 0) (pc, .lmul, len, a, b, c0) (cvL Ls) (cvS st) (cM L m) kg) o := by
  replace h := i_l2_inv h; obtain ⟨x, y, st, rfl, h⟩ := h
  replace h := iol_inv h; obtain ⟨hz, h⟩ := h
  show Sim L (kg none (cvL Ls) (.long (Int64.ofInt x * Int64.ofInt y) :: cvS st) (cM L m)) o
  rw [← Int64.ofInt_mul]
  exact hk none Ls (vJ _ :: st) m hL (okS_cons (v := vJ _) hz (okS_tl (okS_tl hS))) hM h
theorem i_s_idiv (hk : iHK L ki kg o) (hL : okL Ls) (hS : okS st) (hM : okM m) (h : i_step wr L (pc, .idiv, len, a, b, c0) Ls st m ki = some o) : Sim L (g_step (g_C 0) (pc, .idiv, len, a, b, c0) (cvL Ls) (cvS st) (cM L m) kg) o := by
  replace h := i_b2_inv h; obtain ⟨x, y, st, rfl, h⟩ := h
  replace h := idv_inv h; obtain ⟨h0, h1, h⟩ := h
  have hy : rg y := okS_hd hS
  have hx : rg x := okS_hd (okS_tl hS)
  show Sim L (if Int32.ofInt y = 0 then none else kg none (cvL Ls) (.int (Int32.ofInt x / Int32.ofInt y) :: cvS st) (cM L m)) o
  rw [if_neg (i_ne0 hy h1), i32_div hx hy h0]
  exact hk none Ls (vI _ :: st) m hL (okS_cons (v := vI _) (rg_div hx h0 h1) (okS_tl (okS_tl hS))) hM h
theorem i_s_irem (hk : iHK L ki kg o) (hL : okL Ls) (hS : okS st) (hM : okM m) (h : i_step wr L (pc, .irem, len, a, b, c0) Ls st m ki = some o) : Sim L (g_step (g_C 0) (pc, .irem, len, a, b, c0) (cvL Ls) (cvS st) (cM L m) kg) o := by
  replace h := i_b2_inv h; obtain ⟨x, y, st, rfl, h⟩ := h
  replace h := idv_inv h; obtain ⟨h0, h1, h⟩ := h
  have hy : rg y := okS_hd hS
  have hx : rg x := okS_hd (okS_tl hS)
  show Sim L (if Int32.ofInt y = 0 then none else kg none (cvL Ls) (.int (Int32.ofInt x - Int32.ofInt x / Int32.ofInt y * Int32.ofInt y) :: cvS st) (cM L m)) o
  rw [if_neg (i_ne0 hy h1), i32_rem hx hy h0]
  exact hk none Ls (vI _ :: st) m hL (okS_cons (v := vI _) (rg_rem hy h1) (okS_tl (okS_tl hS))) hM h
theorem i_s_ldiv (hk : iHK L ki kg o) (hL : okL Ls) (hS : okS st) (hM : okM m) (h : i_step wr L (pc, .ldiv, len, a, b, c0) Ls st m ki = some o) : Sim L (g_step (g_C 0) (pc, .ldiv, len, a, b, c0) (cvL Ls) (cvS st) (cM L m) kg) o := by
  replace h := i_l2_inv h; obtain ⟨x, y, st, rfl, h⟩ := h
  replace h := idv_inv h; obtain ⟨h0, h1, h⟩ := h
  have hy : rgl y := okS_hd hS
  have hx : rgl x := okS_hd (okS_tl hS)
  show Sim L (if Int64.ofInt y = 0 then none else kg none (cvL Ls) (.long (Int64.ofInt x / Int64.ofInt y) :: cvS st) (cM L m)) o
  rw [if_neg (i_ne0l hy h1), i64_div hx hy h0]
  exact hk none Ls (vJ _ :: st) m hL (okS_cons (v := vJ _) (rgl_div hx h0 h1) (okS_tl (okS_tl hS))) hM h
theorem i_s_lrem (hk : iHK L ki kg o) (hL : okL Ls) (hS : okS st) (hM : okM m) (h : i_step wr L (pc, .lrem, len, a, b, c0) Ls st m ki = some o) : Sim L (g_step (g_C 0) (pc, .lrem, len, a, b, c0) (cvL Ls) (cvS st) (cM L m) kg) o := by
  replace h := i_l2_inv h; obtain ⟨x, y, st, rfl, h⟩ := h
  replace h := idv_inv h; obtain ⟨h0, h1, h⟩ := h
  have hy : rgl y := okS_hd hS
  have hx : rgl x := okS_hd (okS_tl hS)
  show Sim L (if Int64.ofInt y = 0 then none else kg none (cvL Ls) (.long (Int64.ofInt x - Int64.ofInt x / Int64.ofInt y * Int64.ofInt y) :: cvS st) (cM L m)) o
  rw [if_neg (i_ne0l hy h1), i64_rem hx hy h0]
  exact hk none Ls (vJ _ :: st) m hL (okS_cons (v := vJ _) (rgl_rem hy h1) (okS_tl (okS_tl hS))) hM h
theorem i_s_ineg (hk : iHK L ki kg o) (hL : okL Ls) (hS : okS st) (hM : okM m) (h : i_step wr L (pc, .ineg, len, a, b, c0) Ls st m ki = some o) : Sim L (g_step (g_C 0) (pc, .ineg, len, a, b, c0) (cvL Ls) (cvS st) (cM L m) kg) o := by
  replace h := i_b1_inv h; obtain ⟨x, st, rfl, h⟩ := h
  replace h := iov_inv h; obtain ⟨hz, h⟩ := h
  show Sim L (kg none (cvL Ls) (.int (-Int32.ofInt x) :: cvS st) (cM L m)) o
  rw [← Int32.ofInt_neg]
  exact hk none Ls (vI _ :: st) m hL (okS_cons (v := vI _) hz (okS_tl hS)) hM h
theorem i_s_iand (hk : iHK L ki kg o) (hL : okL Ls) (hS : okS st) (hM : okM m) (h : i_step wr L (pc, .iand, len, a, b, c0) Ls st m ki = some o) : Sim L (g_step (g_C 0) (pc, .iand, len, a, b, c0) (cvL Ls) (cvS st) (cM L m) kg) o := by
  replace h := i_b2_inv h; obtain ⟨x, y, st, rfl, h⟩ := h
  have e1 := Int32.ofInt_toInt ((Int32.ofInt x) &&& (Int32.ofInt y))
  have := hk none Ls (vI (i_and x y) :: st) m hL (okS_cons (v := vI (i_and x y)) (rg_to _) (okS_tl (okS_tl hS))) hM h
  unfold i_and at this
  simp only [cvS, List.map_cons, cvv, Int32.ofInt_toInt] at this
  exact this
theorem i_s_ior (hk : iHK L ki kg o) (hL : okL Ls) (hS : okS st) (hM : okM m) (h : i_step wr L (pc, .ior, len, a, b, c0) Ls st m ki = some o) : Sim L (g_step (g_C 0) (pc, .ior, len, a, b, c0) (cvL Ls) (cvS st) (cM L m) kg) o := by
  replace h := i_b2_inv h; obtain ⟨x, y, st, rfl, h⟩ := h
  have e1 := Int32.ofInt_toInt ((Int32.ofInt x) ||| (Int32.ofInt y))
  have := hk none Ls (vI (i_or x y) :: st) m hL (okS_cons (v := vI (i_or x y)) (rg_to _) (okS_tl (okS_tl hS))) hM h
  unfold i_or at this
  simp only [cvS, List.map_cons, cvv, Int32.ofInt_toInt] at this
  exact this
theorem i_s_ixor (hk : iHK L ki kg o) (hL : okL Ls) (hS : okS st) (hM : okM m) (h : i_step wr L (pc, .ixor, len, a, b, c0) Ls st m ki = some o) : Sim L (g_step (g_C 0) (pc, .ixor, len, a, b, c0) (cvL Ls) (cvS st) (cM L m) kg) o := by
  replace h := i_b2_inv h; obtain ⟨x, y, st, rfl, h⟩ := h
  have e1 := Int32.ofInt_toInt ((Int32.ofInt x) ^^^ (Int32.ofInt y))
  have := hk none Ls (vI (i_xor x y) :: st) m hL (okS_cons (v := vI (i_xor x y)) (rg_to _) (okS_tl (okS_tl hS))) hM h
  unfold i_xor at this
  simp only [cvS, List.map_cons, cvv, Int32.ofInt_toInt] at this
  exact this
theorem i_s_ishl (hk : iHK L ki kg o) (hL : okL Ls) (hS : okS st) (hM : okM m) (h : i_step wr L (pc, .ishl, len, a, b, c0) Ls st m ki = some o) : Sim L (g_step (g_C 0) (pc, .ishl, len, a, b, c0) (cvL Ls) (cvS st) (cM L m) kg) o := by
  replace h := i_b2_inv h; obtain ⟨x, y, st, rfl, h⟩ := h
  have e1 := Int32.ofInt_toInt ((Int32.ofInt x) <<< ((Int32.ofInt y) &&& 31))
  have := hk none Ls (vI (i_shl x y) :: st) m hL (okS_cons (v := vI (i_shl x y)) (rg_to _) (okS_tl (okS_tl hS))) hM h
  unfold i_shl at this
  simp only [cvS, List.map_cons, cvv, Int32.ofInt_toInt] at this
  exact this
theorem i_s_ishr (hk : iHK L ki kg o) (hL : okL Ls) (hS : okS st) (hM : okM m) (h : i_step wr L (pc, .ishr, len, a, b, c0) Ls st m ki = some o) : Sim L (g_step (g_C 0) (pc, .ishr, len, a, b, c0) (cvL Ls) (cvS st) (cM L m) kg) o := by
  replace h := i_b2_inv h; obtain ⟨x, y, st, rfl, h⟩ := h
  have e1 := Int32.ofInt_toInt ((Int32.ofInt x) >>> ((Int32.ofInt y) &&& 31))
  have := hk none Ls (vI (i_shr x y) :: st) m hL (okS_cons (v := vI (i_shr x y)) (rg_to _) (okS_tl (okS_tl hS))) hM h
  unfold i_shr at this
  simp only [cvS, List.map_cons, cvv, Int32.ofInt_toInt] at this
  exact this
theorem i_s_iushr (hk : iHK L ki kg o) (hL : okL Ls) (hS : okS st) (hM : okM m) (h : i_step wr L (pc, .iushr, len, a, b, c0) Ls st m ki = some o) : Sim L (g_step (g_C 0) (pc, .iushr, len, a, b, c0) (cvL Ls) (cvS st) (cM L m) kg) o := by
  replace h := i_b2_inv h; obtain ⟨x, y, st, rfl, h⟩ := h
  have e1 := Int32.ofInt_toInt (((Int32.ofInt x).toUInt32 >>> ((Int32.ofInt y).toUInt32 &&& Int32.toUInt32 31)).toInt32)
  have := hk none Ls (vI (i_ushr x y) :: st) m hL (okS_cons (v := vI (i_ushr x y)) (rg_to _) (okS_tl (okS_tl hS))) hM h
  unfold i_ushr at this
  simp only [cvS, List.map_cons, cvv, Int32.ofInt_toInt] at this
  exact this
theorem i_s_land (hk : iHK L ki kg o) (hL : okL Ls) (hS : okS st) (hM : okM m) (h : i_step wr L (pc, .land, len, a, b, c0) Ls st m ki = some o) : Sim L (g_step (g_C 0) (pc, .land, len, a, b, c0) (cvL Ls) (cvS st) (cM L m) kg) o := by
  replace h := i_l2_inv h; obtain ⟨x, y, st, rfl, h⟩ := h
  have := hk none Ls (vJ (j_and x y) :: st) m hL (okS_cons (v := vJ (j_and x y)) (rgl_to _) (okS_tl (okS_tl hS))) hM h
  unfold j_and at this
  simp only [cvS, List.map_cons, cvv, Int64.ofInt_toInt] at this
  exact this
theorem i_s_lor (hk : iHK L ki kg o) (hL : okL Ls) (hS : okS st) (hM : okM m) (h : i_step wr L (pc, .lor, len, a, b, c0) Ls st m ki = some o) : Sim L (g_step (g_C 0) (pc, .lor, len, a, b, c0) (cvL Ls) (cvS st) (cM L m) kg) o := by
  replace h := i_l2_inv h; obtain ⟨x, y, st, rfl, h⟩ := h
  have := hk none Ls (vJ (j_or x y) :: st) m hL (okS_cons (v := vJ (j_or x y)) (rgl_to _) (okS_tl (okS_tl hS))) hM h
  unfold j_or at this
  simp only [cvS, List.map_cons, cvv, Int64.ofInt_toInt] at this
  exact this
theorem i_s_lshl (hk : iHK L ki kg o) (hL : okL Ls) (hS : okS st) (hM : okM m) (h : i_step wr L (pc, .lshl, len, a, b, c0) Ls st m ki = some o) : Sim L (g_step (g_C 0) (pc, .lshl, len, a, b, c0) (cvL Ls) (cvS st) (cM L m) kg) o := by
  replace h := i_il_inv h; obtain ⟨x, y, st, rfl, h⟩ := h
  have := hk none Ls (vJ (j_shl x y) :: st) m hL (okS_cons (v := vJ (j_shl x y)) (rgl_to _) (okS_tl (okS_tl hS))) hM h
  unfold j_shl at this
  simp only [cvS, List.map_cons, cvv, Int64.ofInt_toInt] at this
  exact this
theorem i_s_lshr (hk : iHK L ki kg o) (hL : okL Ls) (hS : okS st) (hM : okM m) (h : i_step wr L (pc, .lshr, len, a, b, c0) Ls st m ki = some o) : Sim L (g_step (g_C 0) (pc, .lshr, len, a, b, c0) (cvL Ls) (cvS st) (cM L m) kg) o := by
  replace h := i_il_inv h; obtain ⟨x, y, st, rfl, h⟩ := h
  have := hk none Ls (vJ (j_shr x y) :: st) m hL (okS_cons (v := vJ (j_shr x y)) (rgl_to _) (okS_tl (okS_tl hS))) hM h
  unfold j_shr at this
  simp only [cvS, List.map_cons, cvv, Int64.ofInt_toInt] at this
  exact this
theorem i_s_lushr (hk : iHK L ki kg o) (hL : okL Ls) (hS : okS st) (hM : okM m) (h : i_step wr L (pc, .lushr, len, a, b, c0) Ls st m ki = some o) : Sim L (g_step (g_C 0) (pc, .lushr, len, a, b, c0) (cvL Ls) (cvS st) (cM L m) kg) o := by
  replace h := i_il_inv h; obtain ⟨x, y, st, rfl, h⟩ := h
  have := hk none Ls (vJ (j_ushr x y) :: st) m hL (okS_cons (v := vJ (j_ushr x y)) (rgl_to _) (okS_tl (okS_tl hS))) hM h
  unfold j_ushr at this
  simp only [cvS, List.map_cons, cvv, Int64.ofInt_toInt] at this
  exact this
theorem i_s_lcmp (hk : iHK L ki kg o) (hL : okL Ls) (hS : okS st) (hM : okM m) (h : i_step wr L (pc, .lcmp, len, a, b, c0) Ls st m ki = some o) : Sim L (g_step (g_C 0) (pc, .lcmp, len, a, b, c0) (cvL Ls) (cvS st) (cM L m) kg) o := by
  replace h := i_l2_inv h; obtain ⟨x, y, st, rfl, h⟩ := h
  show Sim L (kg none (cvL Ls) (.int (lg_cmp (Int64.ofInt x) (Int64.ofInt y)) :: cvS st) (cM L m)) o
  rw [i_cmp_cv (okS_hd (okS_tl hS)) (okS_hd hS)]
  exact hk none Ls (vI (i_cmp x y) :: st) m hL (okS_cons (v := vI (i_cmp x y)) (i_cmp_rg _ _) (okS_tl (okS_tl hS))) hM h
theorem i_s_i2l (hk : iHK L ki kg o) (hL : okL Ls) (hS : okS st) (hM : okM m) (h : i_step wr L (pc, .i2l, len, a, b, c0) Ls st m ki = some o) : Sim L (g_step (g_C 0) (pc, .i2l, len, a, b, c0) (cvL Ls) (cvS st) (cM L m) kg) o := by
  replace h := i_b1_inv h; obtain ⟨x, st, rfl, h⟩ := h
  have hx : rg x := okS_hd hS
  show Sim L (kg none (cvL Ls) (.long (Int32.ofInt x).toInt64 :: cvS st) (cM L m)) o
  rw [i32_i64 hx]
  exact hk none Ls (vJ x :: st) m hL (okS_cons (v := vJ x) ⟨by have := hx.1; omega, by have := hx.2; omega⟩ (okS_tl hS)) hM h
theorem i_s_l2i (hk : iHK L ki kg o) (hL : okL Ls) (hS : okS st) (hM : okM m) (h : i_step wr L (pc, .l2i, len, a, b, c0) Ls st m ki = some o) : Sim L (g_step (g_C 0) (pc, .l2i, len, a, b, c0) (cvL Ls) (cvS st) (cM L m) kg) o := by
  replace h := i_l1_inv h; obtain ⟨x, st, rfl, h⟩ := h
  replace h := i_ar_inv (wr := true) (x := x) (k := fun z => ki none Ls (vI z :: st) m) h; obtain ⟨z, hz, ez, h⟩ := h
  show Sim L (kg none (cvL Ls) (.int (Int64.ofInt x).toInt32 :: cvS st) (cM L m)) o
  rw [Int64.toInt32_ofInt, ez]
  exact hk none Ls (vI z :: st) m hL (okS_cons (v := vI z) hz (okS_tl hS)) hM h
theorem i_s_i2c (hk : iHK L ki kg o) (hL : okL Ls) (hS : okS st) (hM : okM m) (h : i_step wr L (pc, .i2c, len, a, b, c0) Ls st m ki = some o) : Sim L (g_step (g_C 0) (pc, .i2c, len, a, b, c0) (cvL Ls) (cvS st) (cM L m) kg) o := by
  replace h := i_b1_inv h; obtain ⟨x, st, rfl, h⟩ := h
  replace h := ich_inv h; obtain ⟨h0, h1, h⟩ := h
  show Sim L (kg none (cvL Ls) (.int ((Int32.ofInt x).toUInt32 % 65536).toInt32 :: cvS st) (cM L m)) o
  rw [i32_nar h0 h1]
  exact hk none Ls (vI x :: st) m hL hS hM h
theorem i32_byt {x : Int} (h0 : 0 ≤ x) (h1 : x < 128) : (Int32.ofInt x).toInt8.toInt32 = Int32.ofInt x := by
  have h : ∀ n : Fin 128, (Int32.ofInt (n.val : Int)).toInt8.toInt32 = Int32.ofInt (n.val : Int) := by decide +kernel
  have e : ((x.toNat : Nat) : Int) = x := Int.toNat_of_nonneg h0
  have := h ⟨x.toNat, by omega⟩
  rw [← e]
  exact this
theorem i_s_i2b (hk : iHK L ki kg o) (hL : okL Ls) (hS : okS st) (hM : okM m) (h : i_step wr L (pc, .i2b, len, a, b, c0) Ls st m ki = some o) : Sim L (g_step (g_C 0) (pc, .i2b, len, a, b, c0) (cvL Ls) (cvS st) (cM L m) kg) o := by
  replace h := i_b1_inv h; obtain ⟨x, st, rfl, h⟩ := h
  replace h := ick_inv h; obtain ⟨h0, h1, h⟩ := h
  show Sim L (kg none (cvL Ls) (.int (Int32.ofInt x).toInt8.toInt32 :: cvS st) (cM L m)) o
  rw [i32_byt h0 h1]
  exact hk none Ls (vI x :: st) m hL hS hM h
theorem i_s_dup (hk : iHK L ki kg o) (hL : okL Ls) (hS : okS st) (hM : okM m) (h : i_step wr L (pc, .dup, len, a, b, c0) Ls st m ki = some o) : Sim L (g_step (g_C 0) (pc, .dup, len, a, b, c0) (cvL Ls) (cvS st) (cM L m) kg) o := by
  simp only [i_step] at h
  split at h
  · exact hk none Ls (vI _ :: vI _ :: _) m hL (okS_cons (okS_hd hS) hS) hM h
  · exact hk none Ls (vR _ :: vR _ :: _) m hL (okS_cons (okS_hd hS) hS) hM h
  · cases h
theorem i_s_dup2 (hk : iHK L ki kg o) (hL : okL Ls) (hS : okS st) (hM : okM m) (h : i_step wr L (pc, .dup2, len, a, b, c0) Ls st m ki = some o) : Sim L (g_step (g_C 0) (pc, .dup2, len, a, b, c0) (cvL Ls) (cvS st) (cM L m) kg) o := by
  simp only [i_step] at h
  split at h
  · exact hk none Ls (vI _ :: vI _ :: vI _ :: vI _ :: _) m hL (okS_cons (okS_hd hS) (okS_cons (okS_hd (okS_tl hS)) hS)) hM h
  · exact hk none Ls (vI _ :: vR _ :: vI _ :: vR _ :: _) m hL (okS_cons (okS_hd hS) (okS_cons (okS_hd (okS_tl hS)) hS)) hM h
  · cases h
theorem i_s_pop (hk : iHK L ki kg o) (hL : okL Ls) (hS : okS st) (hM : okM m) (h : i_step wr L (pc, .pop, len, a, b, c0) Ls st m ki = some o) : Sim L (g_step (g_C 0) (pc, .pop, len, a, b, c0) (cvL Ls) (cvS st) (cM L m) kg) o := by
  simp only [i_step] at h
  split at h
  · exact hk none Ls _ m hL (okS_tl hS) hM h
  · exact hk none Ls _ m hL (okS_tl hS) hM h
  · cases h
theorem i_s_ifCond (hk : iHK L ki kg o) (hL : okL Ls) (hS : okS st) (hM : okM m) {c : Jvm.ClassFile.Cond} {z : Int} (h : i_step wr L (pc, .ifCond c z, len, a, b, c0) Ls st m ki = some o) : Sim L (g_step (g_C 0) (pc, .ifCond c z, len, a, b, c0) (cvL Ls) (cvS st) (cM L m) kg) o := by
  replace h := i_b1_inv h; obtain ⟨x, st, rfl, h⟩ := h
  exact i_ifc_sim (okS_hd hS) (fun h => hk _ Ls st m hL (okS_tl hS) hM h) (fun h => hk _ Ls st m hL (okS_tl hS) hM h) h
theorem i_s_if_icmp (hk : iHK L ki kg o) (hL : okL Ls) (hS : okS st) (hM : okM m) {c : Jvm.ClassFile.Cond} {z : Int} (h : i_step wr L (pc, .if_icmp c z, len, a, b, c0) Ls st m ki = some o) : Sim L (g_step (g_C 0) (pc, .if_icmp c z, len, a, b, c0) (cvL Ls) (cvS st) (cM L m) kg) o := by
  replace h := i_b2_inv h; obtain ⟨x, y, st, rfl, h⟩ := h
  exact i_icmp_sim (okS_hd (okS_tl hS)) (okS_hd hS) (fun h => hk _ Ls st m hL (okS_tl (okS_tl hS)) hM h) (fun h => hk _ Ls st m hL (okS_tl (okS_tl hS)) hM h) h
theorem i_s_goto (hk : iHK L ki kg o) (hL : okL Ls) (hS : okS st) (hM : okM m) {z : Int} (h : i_step wr L (pc, .goto z, len, a, b, c0) Ls st m ki = some o) : Sim L (g_step (g_C 0) (pc, .goto z, len, a, b, c0) (cvL Ls) (cvS st) (cM L m) kg) o := by
  exact hk _ Ls st m hL hS hM h
theorem i_s_tableswitch (hk : iHK L ki kg o) (hL : okL Ls) (hS : okS st) (hM : okM m) {d lo hi : Int} {offs : Array Int} (h : i_step wr L (pc, .tableswitch d lo hi offs, len, a, b, c0) Ls st m ki = some o) : Sim L (g_step (g_C 0) (pc, .tableswitch d lo hi offs, len, a, b, c0) (cvL Ls) (cvS st) (cM L m) kg) o := by
  replace h := i_b1_inv h; obtain ⟨x, st, rfl, h⟩ := h
  have hx : rg x := okS_hd hS
  simp only [g_step, g_b1, cvS, List.map_cons, cvv]
  rw [i32_to hx]
  split at h
  · rename_i q
    rw [if_pos q]
    split at h
    · cases h
    · rename_i q2
      rw [if_neg q2]
      exact hk _ Ls st m hL (okS_tl hS) hM h
  · rename_i q
    rw [if_neg q]
    split at h
    · rename_i off ho
      rw [ho]
      split at h
      · cases h
      · rename_i q2
        simp only
        rw [if_neg q2]
        exact hk _ Ls st m hL (okS_tl hS) hM h
    · cases h
theorem i_s_arraylength (hk : iHK L ki kg o) (hL : okL Ls) (hS : okS st) (hM : okM m) (h : i_step wr L (pc, .arraylength, len, a, b, c0) Ls st m ki = some o) : Sim L (g_step (g_C 0) (pc, .arraylength, len, a, b, c0) (cvL Ls) (cvS st) (cM L m) kg) o := by
  replace h := i_a1_inv h; obtain ⟨x, st, rfl, h⟩ := h
  simp only [g_step, g_a1, cvS, List.map_cons, cvv]
  simp only [i_sh] at h
  have fin : ∀ n : Nat, iov (n : Int) (ki none Ls (vI n :: st) m) = some o → Sim L (kg none (cvL Ls) (.int (Int32.ofNat n) :: cvS st) (cM L m)) o := fun n h => by
    replace h := iov_inv h; obtain ⟨hn, h⟩ := h
    rw [i32_num]
    exact hk none Ls (vI n :: st) m hL (okS_cons (v := vI n) hn (okS_tl hS)) hM h
  split at h <;> first | (rename_i n hq; rw [hq]; exact fin n h) | cases h
theorem i_s_iaload (hk : iHK L ki kg o) (hL : okL Ls) (hS : okS st) (hM : okM m) (h : i_step wr L (pc, .iaload, len, a, b, c0) Ls st m ki = some o) : Sim L (g_step (g_C 0) (pc, .iaload, len, a, b, c0) (cvL Ls) (cvS st) (cM L m) kg) o := by
  replace h := i_ai_inv h; obtain ⟨x, i, st, rfl, h⟩ := h
  have hi : rg i := okS_hd hS
  have hS2 := okS_tl (okS_tl hS)
  simp only [g_step, g_ai, cvS, List.map_cons, cvv]
  simp only [i_sh] at h
  split at h
  · rename_i n hq
    rw [hq]
    replace h := ick_inv h; obtain ⟨h0, h1, h⟩ := h
    simp only
    rw [i_chk hi h0 h1]
    show Sim L (kg none (cvL Ls) (.int (Int32.ofInt (m.1.1 x ((Int32.ofInt i).toNatClampNeg : Int))) :: cvS st) (cM L m)) o
    rw [i32_nat hi h0]
    exact hk none Ls (vI _ :: st) m hL (okS_cons (v := vI _) (hM.1 _ _) hS2) hM h
  · rename_i n hq
    rw [hq]
    replace h := ick_inv h; obtain ⟨h0, h1, h⟩ := h
    simp only
    rw [i_chk hi h0 h1]
    rw [i_c_cv, i32_nat hi h0]
    exact hk none Ls (vI (i_c x i) :: st) m hL (okS_cons (v := vI (i_c x i)) (i_c_rg _ _) hS2) hM h
  · rename_i n hq
    rw [hq]
    replace h := ick_inv h; obtain ⟨h0, h1, h⟩ := h
    simp only
    rw [i_chk hi h0 h1]
    show Sim L (kg none (cvL Ls) (.int (Int32.ofInt (m.1.1 2000 ((Int32.ofInt i).toNatClampNeg : Int))) :: cvS st) (cM L m)) o
    rw [i32_nat hi h0]
    exact hk none Ls (vI _ :: st) m hL (okS_cons (v := vI _) (hM.1 _ _) hS2) hM h
  · cases h
theorem i_s_laload (hk : iHK L ki kg o) (hL : okL Ls) (hS : okS st) (hM : okM m) (h : i_step wr L (pc, .laload, len, a, b, c0) Ls st m ki = some o) : Sim L (g_step (g_C 0) (pc, .laload, len, a, b, c0) (cvL Ls) (cvS st) (cM L m) kg) o := by
  replace h := i_ai_inv h; obtain ⟨x, i, st, rfl, h⟩ := h
  have hi : rg i := okS_hd hS
  have hS2 := okS_tl (okS_tl hS)
  simp only [g_step, g_ai, cvS, List.map_cons, cvv]
  simp only [i_sh] at h
  split at h
  · rename_i n hq
    rw [hq]
    replace h := ick_inv h; obtain ⟨h0, h1, h⟩ := h
    simp only
    rw [i_chk hi h0 h1]
    show Sim L (kg none (cvL Ls) (.long (Int64.ofInt (m.1.2 x ((Int32.ofInt i).toNatClampNeg : Int))) :: cvS st) (cM L m)) o
    rw [i32_nat hi h0]
    exact hk none Ls (vJ _ :: st) m hL (okS_cons (v := vJ _) (hM.2 _ _) hS2) hM h
  · cases h
theorem i_s_caload (hk : iHK L ki kg o) (hL : okL Ls) (hS : okS st) (hM : okM m) (h : i_step wr L (pc, .caload, len, a, b, c0) Ls st m ki = some o) : Sim L (g_step (g_C 0) (pc, .caload, len, a, b, c0) (cvL Ls) (cvS st) (cM L m) kg) o := by
  replace h := i_ai_inv h; obtain ⟨x, i, st, rfl, h⟩ := h
  have hi : rg i := okS_hd hS
  have hS2 := okS_tl (okS_tl hS)
  simp only [g_step, g_ai, cvS, List.map_cons, cvv]
  simp only [i_sh] at h
  split at h
  · rename_i n hq
    rw [hq]
    replace h := ick_inv h; obtain ⟨h0, h1, h⟩ := h
    simp only
    rw [i_chk hi h0 h1]
    show Sim L (kg none (cvL Ls) (.int (Int32.ofInt (m.1.1 x ((Int32.ofInt i).toNatClampNeg : Int))) :: cvS st) (cM L m)) o
    rw [i32_nat hi h0]
    exact hk none Ls (vI _ :: st) m hL (okS_cons (v := vI _) (hM.1 _ _) hS2) hM h
  · cases h
theorem i_s_baload (hk : iHK L ki kg o) (hL : okL Ls) (hS : okS st) (hM : okM m) (h : i_step wr L (pc, .baload, len, a, b, c0) Ls st m ki = some o) : Sim L (g_step (g_C 0) (pc, .baload, len, a, b, c0) (cvL Ls) (cvS st) (cM L m) kg) o := by
  replace h := i_ai_inv h; obtain ⟨x, i, st, rfl, h⟩ := h
  have hi : rg i := okS_hd hS
  have hS2 := okS_tl (okS_tl hS)
  simp only [g_step, g_ai, cvS, List.map_cons, cvv]
  simp only [i_sh] at h
  split at h
  · rename_i n hq
    rw [hq]
    replace h := ick_inv h; obtain ⟨h0, h1, h⟩ := h
    simp only
    rw [i_chk hi h0 h1]
    show Sim L (kg none (cvL Ls) (.int (Int32.ofInt (m.1.1 x ((Int32.ofInt i).toNatClampNeg : Int))) :: cvS st) (cM L m)) o
    rw [i32_nat hi h0]
    exact hk none Ls (vI _ :: st) m hL (okS_cons (v := vI _) (hM.1 _ _) hS2) hM h
  · rename_i n hq
    rw [hq]
    replace h := ick_inv h; obtain ⟨h0, h1, h⟩ := h
    simp only
    rw [i_chk hi h0 h1]
    rw [i_c_cv, i32_nat hi h0]
    exact hk none Ls (vI (i_c x i) :: st) m hL (okS_cons (v := vI (i_c x i)) (i_c_rg _ _) hS2) hM h
  · cases h
theorem i_s_iastore (hk : iHK L ki kg o) (hL : okL Ls) (hS : okS st) (hM : okM m) (h : i_step wr L (pc, .iastore, len, a, b, c0) Ls st m ki = some o) : Sim L (g_step (g_C 0) (pc, .iastore, len, a, b, c0) (cvL Ls) (cvS st) (cM L m) kg) o := by
  replace h := i_aii_inv h; obtain ⟨x, i, y, st, rfl, h⟩ := h
  have hi : rg i := okS_hd (okS_tl hS)
  have hy : rg y := okS_hd hS
  have hS2 := okS_tl (okS_tl (okS_tl hS))
  simp only [g_step, g_aii, cvS, List.map_cons, cvv]
  simp only [i_sh] at h
  split at h
  · rename_i n hq
    rw [hq]
    replace h := ick_inv h; obtain ⟨h0, h1, h⟩ := h
    simp only
    rw [i_chk hi h0 h1]
    have e1 := cM_up (L := L) (m := m) (a := x) (x := y) (i32_nat hi h0)
    rw [e1]
    exact hk none Ls st _ hL hS2 (okM_iw hM hy) h
  · cases h
theorem i_s_lastore (hk : iHK L ki kg o) (hL : okL Ls) (hS : okS st) (hM : okM m) (h : i_step wr L (pc, .lastore, len, a, b, c0) Ls st m ki = some o) : Sim L (g_step (g_C 0) (pc, .lastore, len, a, b, c0) (cvL Ls) (cvS st) (cM L m) kg) o := by
  replace h := i_ail_inv h; obtain ⟨x, i, y, st, rfl, h⟩ := h
  have hi : rg i := okS_hd (okS_tl hS)
  have hy : rgl y := okS_hd hS
  have hS2 := okS_tl (okS_tl (okS_tl hS))
  simp only [g_step, g_ail, cvS, List.map_cons, cvv]
  simp only [i_sh] at h
  split at h
  · rename_i n hq
    rw [hq]
    replace h := ick_inv h; obtain ⟨h0, h1, h⟩ := h
    simp only
    rw [i_chk hi h0 h1]
    have e1 := cM_upl (L := L) (m := m) (a := x) (x := y) (i32_nat hi h0)
    rw [e1]
    exact hk none Ls st _ hL hS2 (okM_iwl hM hy) h
  · cases h
theorem i_s_castore (hk : iHK L ki kg o) (hL : okL Ls) (hS : okS st) (hM : okM m) (h : i_step wr L (pc, .castore, len, a, b, c0) Ls st m ki = some o) : Sim L (g_step (g_C 0) (pc, .castore, len, a, b, c0) (cvL Ls) (cvS st) (cM L m) kg) o := by
  replace h := i_aii_inv h; obtain ⟨x, i, y, st, rfl, h⟩ := h
  have hi : rg i := okS_hd (okS_tl hS)
  have hy : rg y := okS_hd hS
  have hS2 := okS_tl (okS_tl (okS_tl hS))
  simp only [g_step, g_aii, cvS, List.map_cons, cvv]
  simp only [i_sh] at h
  split at h
  · rename_i n hq
    rw [hq]
    replace h := ick_inv h; obtain ⟨h0, h1, h⟩ := h
    replace h := ich_inv h; obtain ⟨q0, q1, h⟩ := h
    have ev : vp_nar .char (Int32.ofInt y) = Int32.ofInt y := i32_nar q0 q1
    simp only
    rw [i_chk hi h0 h1, ev]
    have e1 := cM_up (L := L) (m := m) (a := x) (x := y) (i32_nat hi h0)
    rw [e1]
    exact hk none Ls st _ hL hS2 (okM_iw hM hy) h
  · cases h
theorem i_s_bastore (hk : iHK L ki kg o) (hL : okL Ls) (hS : okS st) (hM : okM m) (h : i_step wr L (pc, .bastore, len, a, b, c0) Ls st m ki = some o) : Sim L (g_step (g_C 0) (pc, .bastore, len, a, b, c0) (cvL Ls) (cvS st) (cM L m) kg) o := by
  replace h := i_aii_inv h; obtain ⟨x, i, y, st, rfl, h⟩ := h
  have hi : rg i := okS_hd (okS_tl hS)
  have hy : rg y := okS_hd hS
  have hS2 := okS_tl (okS_tl (okS_tl hS))
  simp only [g_step, g_aii, cvS, List.map_cons, cvv]
  simp only [i_sh] at h
  split at h
  · rename_i n hq
    rw [hq]
    replace h := ick_inv h; obtain ⟨h0, h1, h⟩ := h
    replace h := ib1_inv h; obtain ⟨q0, h⟩ := h
    have ev : vp_nar .boolean (Int32.ofInt y) = Int32.ofInt y := by rcases q0 with rfl | rfl <;> rfl
    simp only
    rw [i_chk hi h0 h1, ev]
    have e1 := cM_up (L := L) (m := m) (a := x) (x := y) (i32_nat hi h0)
    rw [e1]
    exact hk none Ls st _ hL hS2 (okM_iw hM hy) h
  · cases h
theorem i_s_getfield (hk : iHK L ki kg o) (hL : okL Ls) (hS : okS st) (hM : okM m) {z : Nat} (h : i_step wr L (pc, .getfield z, len, a, b, c0) Ls st m ki = some o) : Sim L (g_step (g_C 0) (pc, .getfield z, len, a, b, c0) (cvL Ls) (cvS st) (cM L m) kg) o := by
  exact i_get_sim hk hL hS hM h
theorem i_s_putfield (hk : iHK L ki kg o) (hL : okL Ls) (hS : okS st) (hM : okM m) {z : Nat} (h : i_step wr L (pc, .putfield z, len, a, b, c0) Ls st m ki = some o) : Sim L (g_step (g_C 0) (pc, .putfield z, len, a, b, c0) (cvL Ls) (cvS st) (cM L m) kg) o := by
  exact i_set_sim hk hL hS hM h
theorem i_s_getstatic (hk : iHK L ki kg o) (hL : okL Ls) (hS : okS st) (hM : okM m) {z : Nat} (hE : i_okE (pc, .getstatic z, len, a, b, c0) = true) (h : i_step wr L (pc, .getstatic z, len, a, b, c0) Ls st m ki = some o) : Sim L (g_step (g_C 0) (pc, .getstatic z, len, a, b, c0) (cvL Ls) (cvS st) (cM L m) kg) o := by
  simp only [i_step] at h
  simp only [g_step]
  split at h
  · rw [i32_num]
    exact hk none Ls (vI (a : Int) :: st) m hL (okS_cons (v := vI (a : Int)) ⟨by omega, of_decide_eq_true hE⟩ hS) hM h
  · exact hk none Ls (none :: st) m hL (okS_cons (v := none) trivial hS) hM h
  · split
    · rename_i q _; exact absurd rfl q
    · rename_i q; exact absurd rfl q
    · exact hk none Ls (vR a :: st) m hL (okS_cons (v := vR a) trivial hS) hM h
end ISIM

/-! The fresh world, by the kernel: what the constructors make. -/
def yk_xs (j : Nat) : Int32 := (g_C 0).2.1 1000 j
def yk_0 : gM := (fun a j => if a = 2000 then yk_xs j else 0, fun _ _ => 0, fun _ _ => 0, [], 9)
def yk_new (m : gM) (q : Nat × Nat) : gM := (g_all m.1 m.2.2.2.1.length 0, g_all m.2.1 m.2.2.2.1.length 0, g_all m.2.2.1 m.2.2.2.1.length 0, m.2.2.2.1 ++ [q], m.2.2.2.2)
noncomputable def yk_get (r : gRs) (m : gM) : gM := match r with
  | some (_, m1) => m1
  | none => m
noncomputable def yk_1 : gM := yk_get (g_exec (g_C 1) g_T 5000 60 133 [.ref 0] (yk_new yk_0 (0, 11))) yk_0
def yk_ok (r : gRs) : Bool := match r with
  | some (none, _) => true
  | _ => false
theorem yk_1ok : yk_ok (g_exec (g_C 1) g_T 5000 60 133 [.ref 0] (yk_new yk_0 (0, 11))) = true := by decide +kernel
noncomputable def yk_2 : gM := yk_get (g_exec (g_C 1) g_T 5000 60 176 [.ref 63] (yk_new yk_1 (0, 12))) yk_0
theorem yk_2ok : yk_ok (g_exec (g_C 1) g_T 5000 60 176 [.ref 63] (yk_new yk_1 (0, 12))) = true := by decide +kernel
noncomputable def yk_3 : gM := yk_new yk_2 (2, 1)
theorem yk_len : yk_1.2.2.2.1.length = 63 ∧ yk_2.2.2.2.1.length = 81 ∧ yk_3.2.2.2.2 = 9 ∧ yk_2.2.2.2.2 = 9 ∧ yk_1.2.2.2.2 = 9 := by decide +kernel
theorem yk_shp : yk_3.2.2.2.1 = g_shp := by decide +kernel
theorem yk_rho : ∀ k : Fin 82, ∀ i : Fin 40, yk_3.2.2.1 k.val i.val = g_rho k.val i.val := by decide +kernel
noncomputable def yk_s (xs : Nat → Int32) : gI := (fun a j => if a = 2000 then (xs j.toNat).toInt else (yk_3.1 a j.toNat).toInt, fun a j => (yk_3.2.1 a j.toNat).toInt)
theorem yk_all {a b : Int} {P : Int → Prop} (h : ∀ j : Fin (b - a).toNat, P (a + (j.val : Int))) : ∀ j : Int, a ≤ j → j < b → P j := fun j h1 h2 => by
  have := h ⟨(j - a).toNat, by omega⟩
  have e : a + (((j - a).toNat : Nat) : Int) = j := by omega
  have this : P (a + (((j - a).toNat : Nat) : Int)) := this
  rw [e] at this
  exact this
noncomputable def yk_z : gI := yk_s (fun _ => 0)
theorem yk_cOK : cOK yk_z := ⟨(by decide +kernel), (by decide +kernel), (by decide +kernel), (yk_all (by decide +kernel))⟩
theorem yk_scOK : scOK yk_z := (yk_all (by decide +kernel))
theorem yk_VV : VV (cQ yk_z) (yk_z.1 7) := by
  unfold VV okq onR
  decide +kernel
theorem yk_CS : CS yk_z := ⟨yk_cOK, yk_scOK, yk_VV, (yk_all (by decide +kernel)), (yk_all (by decide +kernel))⟩
theorem yk_mOK : mOK yk_z := ⟨(by decide +kernel), (by decide +kernel), (by decide +kernel)⟩
theorem yk_eqQ : eqQ (cQ yk_z) (mQ yk_z) := by
  refine ⟨(by decide +kernel), (by decide +kernel), (by decide +kernel), fun c hc => ?_, (by decide +kernel)⟩
  exact yk_all (a := 0) (b := 64) (P := fun c => c % 8 < (cQ yk_z).1 → c / 8 < (cQ yk_z).2.1 → (cQ yk_z).2.2.1 c = (mQ yk_z).2.2.1 c) (by decide +kernel) c hc.1 hc.2.1 hc.2.2.1 hc.2.2.2
theorem yk_RS : RS yk_z := ⟨yk_CS, yk_mOK, yk_eqQ, (yk_all (by decide +kernel)), (by decide +kernel), (by decide +kernel), (by decide +kernel), (yk_all (by decide +kernel)), (yk_all (by decide +kernel)), (yk_all (by decide +kernel))⟩
theorem yk_seen {f : Int → Int} (h1 : ∀ j : Fin 8, -2 ≤ f (0 + (j.val : Int)) ∧ f (0 + (j.val : Int)) ≤ 3) (h2 : ∀ j : Fin (8 - yk_z.1 12 0).toNat, f (yk_z.1 12 0 + (j.val : Int)) = -2) : seenV yk_z f := ⟨yk_all (b := 8) h1, yk_all h2⟩
theorem yk_I2 : I2 0 yk_z := ⟨(yk_all (by decide +kernel)), (by decide +kernel), (by decide +kernel), (yk_all (by decide +kernel)), yk_seen (by decide +kernel) (by decide +kernel), (yk_all (by decide +kernel)), (by decide +kernel), (by decide +kernel)⟩
theorem yk_I3 : I3 yk_z := ⟨(yk_all (by decide +kernel)), (yk_all (by decide +kernel)), (by decide +kernel), (by decide +kernel), (yk_all (by decide +kernel)), (by decide +kernel), (by decide +kernel), (by decide +kernel), (by decide +kernel), (by decide +kernel), (by decide +kernel), (by decide +kernel)⟩
theorem yk_I4 : I4 yk_z := (yk_all (by decide +kernel))
theorem yk_I5 : I5 0 yk_z := by
  refine ⟨(by decide +kernel), (by decide +kernel), (by decide +kernel), fun i i0 i1 => ?_, (by decide +kernel), fun m m0 m1 => ?_⟩
  · have : yk_z.1 41 4 = 0 := (by decide +kernel)
    omega
  · have h := yk_all (a := 0) (b := 4) (P := fun m => yk_z.1 79 m = 0 ∧ i_and (i_shr (yk_z.1 41 2) m) 1 = yk_z.1 79 m) (by decide +kernel) m m0 m1
    exact ⟨Or.inl h.1, h.2, fun h1 => by omega⟩
theorem yk_I6 : I6 yk_z := ⟨(by decide +kernel), (by decide +kernel), (yk_all (by decide +kernel))⟩
theorem yk_I7 : I7 yk_z := ⟨(by decide +kernel), (by decide +kernel), (yk_all (by decide +kernel)), (yk_all (by decide +kernel)), (yk_all (by decide +kernel))⟩
theorem yk_law0 : lawR yk_z 0 25 := Or.inl (by decide +kernel)
theorem yk_law1 : lawR yk_z 1 28 := Or.inl (by decide +kernel)
theorem yk_INV : INV 0 yk_z := ⟨yk_RS, yk_I2, yk_I3, yk_I4, yk_I5, yk_I6, yk_I7, yk_law0, yk_law1⟩

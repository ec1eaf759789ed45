/-! Where cells lie in the steady phase, and the constants. -/
def g_shp : List (Nat × Nat) := [(0, 11), (0, 7), (3, 1000), (0, 10), (0, 2), (1, 64), (0, 6), (1, 8), (1, 8), (1, 64), (1, 8), (0, 4), (0, 5), (1, 64), (1, 64), (0, 9), (1, 4), (2, 4), (1, 8), (1, 8), (1, 8), (2, 8), (1, 6), (1, 6), (1, 6), (0, 1), (1, 1000), (1, 64), (0, 1), (1, 1000), (1, 64), (1, 26), (0, 0), (1, 100), (1, 4), (1, 4), (1, 4), (1, 9), (0, 8), (1, 4), (1, 4), (0, 3), (1, 416), (1, 104), (0, 5), (1, 64), (1, 64), (0, 9), (1, 4), (2, 4), (1, 8), (1, 8), (1, 8), (2, 8), (1, 6), (1, 6), (1, 6), (0, 1), (1, 1000), (1, 64), (0, 1), (1, 1000), (1, 64), (0, 12), (1, 1000), (1, 1002), (1, 1002), (2, 1002), (2, 28), (1, 140), (1, 9), (1, 140), (1, 2200), (1, 2200), (2, 12), (1, 12), (1, 3), (1, 1100), (1, 700), (4, 4), (1, 4), (2, 1)]
def g_rho_t : List (List Nat) := [[2, 4, 7, 12, 33, 39, 42, 45, 48], [3], [], [2, 5], [2, 6], [], [8, 9, 10, 11], [], [], [], [], [13, 16, 7, 32], [0, 0, 14, 15], [], [], [0, 17, 18, 0, 19, 20, 21, 22, 0, 23, 24, 25, 0, 0, 0, 0, 0, 26, 29], [], [], [], [], [], [], [], [], [], [27, 28], [], [], [30, 31], [], [], [], [12, 7, 34, 35, 36, 37, 38], [], [], [], [], [], [0, 0, 40, 41], [], [], [43, 44], [], [], [0, 0, 46, 47], [], [], [0, 49, 50, 0, 51, 52, 53, 54, 0, 55, 56, 57, 0, 0, 0, 0, 0, 58, 61], [], [], [], [], [], [], [], [], [], [59, 60], [], [], [62, 63], [], [], [0, 65, 0, 0, 66, 67, 68, 0, 0, 69, 70, 71, 72, 73, 74, 0, 75, 76, 0, 0, 77, 78, 79, 0, 80, 0, 81], [], [], [], [], [], [], [], [], [], [], [], [], [], [], [], [], [], []]
def g_rho (k j : Nat) : Nat := (g_rho_t.getD k []).getD j 0
def g_rhoR_t : List (List Nat) := [[2, 4, 7, 12, 33, 39, 42, 13, 48], [3], [], [2, 5], [2, 6], [], [8, 9, 10, 11], [], [], [], [], [45, 16, 7, 32], [0, 0, 14, 15], [], [], [0, 17, 18, 0, 19, 20, 21, 22, 0, 23, 24, 25, 0, 0, 0, 0, 0, 26, 29], [], [], [], [], [], [], [], [], [], [27, 28], [], [], [30, 31], [], [], [], [12, 7, 34, 35, 36, 37, 38], [], [], [], [], [], [0, 0, 40, 41], [], [], [43, 44], [], [], [0, 0, 46, 47], [], [], [0, 49, 50, 0, 51, 52, 53, 54, 0, 55, 56, 57, 0, 0, 0, 0, 0, 58, 61], [], [], [], [], [], [], [], [], [], [59, 60], [], [], [62, 63], [], [], [0, 65, 0, 0, 66, 67, 68, 0, 0, 69, 70, 71, 72, 73, 74, 0, 75, 76, 0, 0, 77, 78, 79, 0, 80, 0, 81], [], [], [], [], [], [], [], [], [], [], [], [], [], [], [], [], [], []]
def g_rhoR (k j : Nat) : Nat := (g_rhoR_t.getD k []).getD j 0
def g_rhoY_t : List (List Nat) := [[2, 4, 7, 12, 33, 39, 42, 45, 16], [3], [], [2, 5], [2, 6], [], [8, 9, 10, 11], [], [], [], [], [13, 48, 7, 32], [0, 0, 14, 15], [], [], [0, 17, 18, 0, 19, 20, 21, 22, 0, 23, 24, 25, 0, 0, 0, 0, 0, 26, 29], [], [], [], [], [], [], [], [], [], [27, 28], [], [], [30, 31], [], [], [], [12, 7, 34, 35, 36, 37, 38], [], [], [], [], [], [0, 0, 40, 41], [], [], [43, 44], [], [], [0, 0, 46, 47], [], [], [0, 49, 50, 0, 51, 52, 53, 54, 0, 55, 56, 57, 0, 0, 0, 0, 0, 58, 61], [], [], [], [], [], [], [], [], [], [59, 60], [], [], [62, 63], [], [], [0, 65, 0, 0, 66, 67, 68, 0, 0, 69, 70, 71, 72, 73, 74, 0, 75, 76, 0, 0, 77, 78, 79, 0, 80, 0, 81], [], [], [], [], [], [], [], [], [], [], [], [], [], [], [], [], [], []]
def g_rhoY (k j : Nat) : Nat := (g_rhoY_t.getD k []).getD j 0
def g_csh : List (Nat × Nat) := [(11, 9), (11, 9), (11, 9), (11, 9), (11, 9), (11, 9), (11, 9), (11, 9), (11, 9), (11, 9), (10, 17), (13, 13), (10, 17), (13, 18), (10, 17), (13, 14), (10, 17), (13, 4), (10, 17), (13, 5), (10, 17), (13, 4), (10, 17), (13, 3), (10, 17), (13, 3), (10, 17), (13, 2), (10, 17), (13, 4), (10, 17), (13, 3), (10, 17), (13, 9), (10, 17), (13, 8), (10, 17), (13, 6), (10, 17), (13, 5), (10, 17), (13, 4), (10, 17), (13, 3), (10, 17), (13, 6), (10, 17), (13, 5), (10, 17), (13, 6), (10, 17), (13, 6), (10, 17), (13, 3), (10, 17), (13, 2), (10, 17), (13, 5), (10, 17), (13, 4), (10, 17), (13, 5), (10, 17), (13, 2), (10, 17), (13, 5), (10, 17), (13, 5), (10, 17), (13, 4), (10, 17), (13, 4), (10, 17), (13, 7), (10, 17), (13, 5), (10, 17), (13, 3), (10, 17), (13, 3), (10, 17), (13, 2)]
def g_cin : List (List Int32) := [[0, -1, 0, 1, -1, 1, -1, 0, 1], [0, -1, -1, -1, 0, 0, 1, 1, 1], [0, -1, 0, 1, -1, 1, -1, 0, 1], [0, -1, 0, 1, -1, 1, -1, 0, 1], [0, -1, 0, 1, -1, 1, -1, 0, 1], [0, -1, 0, 1, -1, 1, -1, 0, 1], [0, -1, 0, 1, -1, 1, -1, 0, 1], [0, -1, 0, 1, -1, 1, -1, 0, 1], [0, -1, 0, 1, -1, 1, -1, 0, 1], [0, -1, 0, 1, -1, 1, -1, 0, 1], [0, 0], [110, 111, 32, 115, 117, 99, 104, 32, 116, 104, 114, 111, 119], [0, 0], [110, 111, 32, 116, 104, 114, 111, 119, 32, 116, 111, 32, 99, 104, 111, 111, 115, 101], [0, 0], [110, 111, 32, 115, 117, 99, 104, 32, 97, 110, 115, 119, 101, 114], [0, 0], [108, 111, 115, 116], [0, 0], [118, 97, 108, 117, 101], [0, 0], [100, 97, 121, 115], [0, 0], [110, 111, 116], [0, 0], [97, 110, 100], [0, 0], [111, 114], [0, 0], [114, 111, 111, 102], [0, 0], [114, 111, 119], [0, 0], [102, 100, 117, 108, 114, 109, 103, 112, 99], [0, 0], [40, 41, 60, 61, 43, 45, 42, 59], [0, 0], [112, 101, 114, 115, 111, 110], [0, 0], [116, 104, 105, 110, 103], [0, 0], [115, 104, 111, 116], [0, 0], [110, 101, 116], [0, 0], [119, 105, 110, 100, 111, 119], [0, 0], [102, 105, 114, 115, 116], [0, 0], [116, 101, 109, 112, 101, 114], [0, 0], [100, 97, 109, 97, 103, 101], [0, 0], [97, 114, 109], [0, 0], [111, 102], [0, 0], [119, 111, 114, 116, 104], [0, 0], [108, 101, 102, 116], [0, 0], [114, 105, 103, 104, 116], [0, 0], [117, 112], [0, 0], [116, 105, 109, 101, 115], [0, 0], [114, 101, 97, 99, 104], [0, 0], [98, 97, 108, 108], [0, 0], [115, 104, 111, 101], [0, 0], [102, 114, 105, 115, 98, 101, 101], [0, 0], [115, 116, 105, 99, 107], [0, 0], [110, 111, 116], [0, 0], [97, 110, 100], [0, 0], [111, 114]]
def g_crf : List (List Nat) := [[], [], [], [], [], [], [], [], [], [], [1012], [], [1014], [], [1016], [], [1018], [], [1020], [], [1022], [], [1024], [], [1026], [], [1028], [], [1030], [], [1032], [], [1034], [], [1036], [], [1038], [], [1040], [], [1042], [], [1044], [], [1046], [], [1048], [], [1050], [], [1052], [], [1054], [], [1056], [], [1058], [], [1060], [], [1062], [], [1064], [], [1066], [], [1068], [], [1070], [], [1072], [], [1074], [], [1076], [], [1078], [], [1080], [], [1082], []]
def g_C (f : Nat) : gC := (g_csh, fun k j => (g_cin.getD (k - 1000) []).getD j 0, fun k j => (g_crf.getD (k - 1000) []).getD j 0, f)
abbrev gS : Type := (Nat → Nat → Int32) × (Nat → Nat → Int64)
/-- a memory of the steady phase -/
def gm (L : Nat) (s : gS) : gM := (s.1, s.2, g_rho, g_shp, L)
def gmR (L : Nat) (s : gS) : gM := (s.1, s.2, g_rhoR, g_shp, L)
def gmY (L : Nat) (s : gS) : gM := (s.1, s.2, g_rhoY, g_shp, L)
def RR (d : Nat) (kj : List (Nat × List gCE)) (cur : List gCE) (Ls : gLs) (st : List Value) (m : gM) (o : Option Value × gM) : Prop := ∃ N, ∀ n n', N ≤ n → N ≤ n' → g_run (g_C 0) (g_exec (g_C 0) g_T n d) kj n' cur Ls st m = some o
def EE (d i : Nat) (As : List Value) (m : gM) (o : Option Value × gM) : Prop := ∃ N, ∀ n, N ≤ n → g_exec (g_C 0) g_T n d i As m = some o
def RT (t : gF → Nat → gRs) (d : Nat) (o : Option Value × gM) : Prop := ∃ N, ∀ n n', N ≤ n → N ≤ n' → t (g_exec (g_C 0) g_T n d) n' = some o
def g_ck {α : Type} (i : Int32) (n : Nat) (k : Option α) : Option α := if i < 0 ∨ n ≤ i.toNatClampNeg then none else k
def g_o2 {α β : Type} (r : Option (α × gS)) (k : α → gS → Option β) : Option β := match r with
  | some (x, s) => k x s
  | none => none
def g_o1 {β : Type} (r : Option gS) (k : gS → Option β) : Option β := match r with
  | some s => k s
  | none => none
theorem g_o2_inv {α β : Type} {r : Option (α × gS)} {k : α → gS → Option β} {o : β} (h : g_o2 r k = some o) : ∃ x s, r = some (x, s) ∧ k x s = some o := by
  unfold g_o2 at h
  split at h
  · exact ⟨_, _, rfl, h⟩
  · cases h
theorem g_o1_inv {β : Type} {r : Option gS} {k : gS → Option β} {o : β} (h : g_o1 r k = some o) : ∃ s, r = some s ∧ k s = some o := by
  unfold g_o1 at h
  split at h
  · exact ⟨_, rfl, h⟩
  · cases h
section RTS
variable {d i K j : Nat} {kj : List (Nat × List gCE)} {cur : List gCE} {Ls : gLs} {st : List Value} {m : gM} {o : Option Value × gM} {A B : gF → Nat → gRs} {α : Type} {A' B' : Option α} {r : α}
theorem RR.of (K : Nat) (h : RT (fun fc n => g_run (g_C 0) fc kj (n + K) cur Ls st m) d o) : RR d kj cur Ls st m o := by
  obtain ⟨N, h⟩ := h
  exact ⟨N + K, fun n n' h1 h2 => by
    have := h n (n' - K) (by omega) (by omega)
    rwa [Nat.sub_add_cancel (by omega)] at this⟩
theorem RT.run (h : RR d kj cur Ls st m o) : RT (fun fc n => g_run (g_C 0) fc kj (n + j) cur Ls st m) d o := by
  obtain ⟨N, h⟩ := h
  exact ⟨N, fun n n' h1 h2 => h n (n' + j) h1 (by omega)⟩
theorem RT.ite {c : Prop} [Decidable c] (h : (if c then A' else B') = some r) (hA : A' = some r → RT A d o) (hB : B' = some r → RT B d o) : RT (fun fc n => if c then A fc n else B fc n) d o := by
  by_cases hc : c
  · rw [if_pos hc] at h
    obtain ⟨N, q⟩ := hA h
    exact ⟨N, fun n n' h1 h2 => by rw [if_pos hc]; exact q n n' h1 h2⟩
  · rw [if_neg hc] at h
    obtain ⟨N, q⟩ := hB h
    exact ⟨N, fun n n' h1 h2 => by rw [if_neg hc]; exact q n n' h1 h2⟩
theorem RT.chk {x : Int32} {z : Nat} (h : g_ck x z A' = some r) (hA : A' = some r → RT A d o) : RT (fun fc n => g_chk x z (A fc n)) d o := by
  unfold g_ck at h
  split at h
  · cases h
  · rename_i hin
    obtain ⟨N, q⟩ := hA h
    exact ⟨N, fun n n' h1 h2 => by
      unfold g_chk
      rw [if_neg hin]
      exact q n n' h1 h2⟩
theorem RT.nz {c : Prop} [Decidable c] (h : (if c then none else A') = some r) (hA : A' = some r → RT A d o) : RT (fun fc n => if c then none else A fc n) d o := by
  split at h
  · cases h
  · rename_i hin
    obtain ⟨N, q⟩ := hA h
    exact ⟨N, fun n n' h1 h2 => by
      rw [if_neg hin]
      exact q n n' h1 h2⟩
theorem RT.okc {c : Prop} [Decidable c] (h : (if c then A' else none) = some r) (hA : A' = some r → RT A d o) : RT (fun fc n => if c then A fc n else none) d o := by
  split at h
  · rename_i hin
    obtain ⟨N, q⟩ := hA h
    exact ⟨N, fun n n' h1 h2 => by
      rw [if_pos hin]
      exact q n n' h1 h2⟩
  · cases h
theorem RT.cs {x v : Int32} (h : (if x = v then A' else B') = some r) : (x = v ∧ A' = some r) ∨ (¬ x = v ∧ B' = some r) := by
  by_cases hc : x = v
  · rw [if_pos hc] at h; exact Or.inl ⟨hc, h⟩
  · rw [if_neg hc] at h; exact Or.inr ⟨hc, h⟩
theorem RT.swin {x v : Int32} {lo hi : Int} {pc : Nat} {offs : Array Int} {off : Int} {k : gF → Nat → Int → gRs} (hx : x = v) (hn : ¬ (v.toInt < lo ∨ hi < v.toInt)) (ho : offs[(v.toInt - lo).toNat]? = some off) (hp : ¬ ((pc : Int) + off < 0))
    (hA : RT (fun fc n => k fc n off) d o) : RT (fun fc n => if x.toInt < lo ∨ hi < x.toInt then A fc n else (match offs[(x.toInt - lo).toNat]? with
    | some off => if (pc : Int) + off < 0 then none else k fc n off
    | none => none)) d o := by
  subst hx
  obtain ⟨N, q⟩ := hA
  exact ⟨N, fun n n' h1 h2 => by
    rw [if_neg hn, ho]
    simp only [if_neg hp]
    exact q n n' h1 h2⟩
theorem RT.swout {x : Int32} {lo hi off : Int} {pc : Nat} (hx : x.toInt < lo ∨ hi < x.toInt) (hp : ¬ ((pc : Int) + off < 0)) (hA : RT A d o) : RT (fun fc n => if x.toInt < lo ∨ hi < x.toInt then (if (pc : Int) + off < 0 then none else A fc n) else B fc n) d o := by
  obtain ⟨N, q⟩ := hA
  exact ⟨N, fun n n' h1 h2 => by
    rw [if_pos hx, if_neg hp]
    exact q n n' h1 h2⟩
theorem RT.ret : RT (fun _ _ => some o) d o := ⟨0, fun _ _ _ _ => rfl⟩
theorem RT.call {As : List Value} {v : Option Value} {m1 : gM} {k : gF → Nat → Option Value → gM → gRs} (hE : EE d i As m (v, m1)) (hK : RT (fun fc n => k fc n v m1) d o) : RT (fun fc n => g_bind (fc i As m) (k fc n)) d o := by
  obtain ⟨N, h⟩ := hE
  obtain ⟨N1, h1⟩ := hK
  exact ⟨N + N1, fun n n' q1 q2 => by
    show g_bind (g_exec (g_C 0) g_T n d i As m) _ = some o
    rw [h n (by omega)]
    exact h1 n n' (by omega) (by omega)⟩
theorem EE.of {md : gMD} {As : List Value} (hT : g_T i = some md) (hl : Nat.ble (g_args As).length md.2.2.1 = true) (h : RR d md.2.2.2.2.2 md.2.2.2.2.1 (g_pad md.2.2.1 (g_args As)) [] m o) : EE (d + 1) i As m o := by
  obtain ⟨N, h⟩ := h
  refine ⟨N, fun n hn => ?_⟩
  show (match g_T i with
    | none => none
    | some md => bif Nat.ble (g_args As).length md.2.2.1 then g_run (g_C 0) (g_exec (g_C 0) g_T n d) md.2.2.2.2.2 n md.2.2.2.2.1 (g_pad md.2.2.1 (g_args As)) [] m else none) = some o
  rw [hT]
  simp only [hl, cond_true]
  exact h n n hn hn
end RTS

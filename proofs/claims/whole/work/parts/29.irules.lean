/-! Runs of the machine of whole numbers, whatever the fuel is from some number on; rules by which a plain function is held against a method's rows. -/
def i_rhoR1 : Nat → Nat → Nat := g_up (g_rho) 11 0 (45)
def i_rhoR : Nat → Nat → Nat := g_up (i_rhoR1) 0 7 (13)
def i_rhoY1 : Nat → Nat → Nat := g_up (g_rho) 11 1 (48)
def i_rhoY : Nat → Nat → Nat := g_up (i_rhoY1) 0 8 (16)
def iRR (wr : Bool) (L d : Nat) (kj : List (Nat × List gCE)) (cur : List gCE) (Ls : iLs) (st : List iV) (m : iM) (o : Option iV × iM) : Prop := ∃ N, ∀ n n', N ≤ n → N ≤ n' → i_run wr L (i_exec L n d) kj n' cur Ls st m = some o
def iEE (L d i : Nat) (As : List iV) (m : iM) (o : Option iV × iM) : Prop := ∃ N, ∀ n, N ≤ n → i_exec L n d i As m = some o
def iRT (L : Nat) (t : iF → Nat → iRs) (d : Nat) (o : Option iV × iM) : Prop := ∃ N, ∀ n n', N ≤ n → N ≤ n' → t (i_exec L n d) n' = some o
def i_o2 {α β γ : Type} (r : Option (α × γ)) (k : α → γ → Option β) : Option β := match r with
  | some (x, s) => k x s
  | none => none
def i_o1 {β γ : Type} (r : Option γ) (k : γ → Option β) : Option β := match r with
  | some s => k s
  | none => none
theorem i_o2_inv {α β γ : Type} {r : Option (α × γ)} {k : α → γ → Option β} {o : β} (h : i_o2 r k = some o) : ∃ x s, r = some (x, s) ∧ k x s = some o := by
  unfold i_o2 at h
  split at h
  · exact ⟨_, _, rfl, h⟩
  · cases h
theorem i_o1_inv {β γ : Type} {r : Option γ} {k : γ → Option β} {o : β} (h : i_o1 r k = some o) : ∃ s, r = some s ∧ k s = some o := by
  unfold i_o1 at h
  split at h
  · exact ⟨_, rfl, h⟩
  · cases h
section IRTS
variable {L d i K j : Nat} {wr : Bool} {kj : List (Nat × List gCE)} {cur : List gCE} {Ls : iLs} {st : List iV} {m : iM} {o : Option iV × iM} {A B : iF → Nat → iRs} {α : Type} {A' B' : Option α} {r : α} {x y z : Int}
theorem iRR.of (K : Nat) (h : iRT L (fun fc n => i_run wr L fc kj (n + K) cur Ls st m) d o) : iRR wr L d kj cur Ls st m o := by
  obtain ⟨N, h⟩ := h
  refine ⟨N + K, fun n n' h1 h2 => ?_⟩
  have h3 := h n (n' - K) (by omega) (by omega)
  have e : n' - K + K = n' := by omega
  simp only [e] at h3
  exact h3
theorem iRT.go {cur2 : List gCE} {Ls2 : iLs} {st2 : List iV} {m2 : iM} {J : Nat} (t : Nat) (h : iRR wr L d kj cur2 Ls2 st2 m2 o) (hh : ∀ (fc : iF) (n : Nat), i_run wr L fc kj (n + t) cur Ls st m = i_run wr L fc kj n cur2 Ls2 st2 m2) : iRT L (fun fc n => i_run wr L fc kj (n + J) cur Ls st m) d o := by
  obtain ⟨N, h⟩ := h
  refine ⟨N + t, fun n n' h1 h2 => ?_⟩
  have e : n' + J = n' + J - t + t := by omega
  show i_run wr L (i_exec L n d) kj (n' + J) cur Ls st m = some o
  rw [e, hh]
  exact h n _ (by omega) (by omega)
theorem i_h1 {c : Prop} [Decidable c] (hc : c) (h : (if c then A' else B') = some r) : A' = some r := (if_pos hc).symm.trans h
theorem i_h0 {c : Prop} [Decidable c] (hc : ¬ c) (h : (if c then A' else B') = some r) : B' = some r := (if_neg hc).symm.trans h
theorem iRT.ite {c : Prop} [Decidable c] (h : (if c then A' else B') = some r) (hA : A' = some r → iRT L A d o) (hB : B' = some r → iRT L B d o) : iRT L (fun fc n => if c then A fc n else B fc n) d o := by
  by_cases hc : c
  · rw [if_pos hc] at h
    obtain ⟨N, q⟩ := hA h
    exact ⟨N, fun n n' h1 h2 => (if_pos hc).trans (q n n' h1 h2)⟩
  · rw [if_neg hc] at h
    obtain ⟨N, q⟩ := hB h
    exact ⟨N, fun n n' h1 h2 => (if_neg hc).trans (q n n' h1 h2)⟩
theorem iRT.okc {c : Prop} [Decidable c] (h : (if c then A' else none) = some r) (hA : A' = some r → iRT L A d o) : iRT L (fun fc n => if c then A fc n else none) d o := by
  by_cases hc : c
  · rw [if_pos hc] at h
    obtain ⟨N, q⟩ := hA h
    exact ⟨N, fun n n' h1 h2 => (if_pos hc).trans (q n n' h1 h2)⟩
  · rw [if_neg hc] at h
    cases h
theorem iRT.ck (h : ick x z A' = some r) (hA : A' = some r → iRT L A d o) : iRT L (fun fc n => ick x z (A fc n)) d o := iRT.okc h hA
theorem iRT.dv (h : idv x z A' = some r) (hA : A' = some r → iRT L A d o) : iRT L (fun fc n => idv x z (A fc n)) d o := iRT.okc h hA
theorem iRT.ov (h : iov x A' = some r) (hA : A' = some r → iRT L A d o) : iRT L (fun fc n => iov x (A fc n)) d o := iRT.okc h hA
theorem iRT.ol (h : iol x A' = some r) (hA : A' = some r → iRT L A d o) : iRT L (fun fc n => iol x (A fc n)) d o := iRT.okc h hA
theorem iRT.b1 (h : ib1 x A' = some r) (hA : A' = some r → iRT L A d o) : iRT L (fun fc n => ib1 x (A fc n)) d o := iRT.okc h hA
theorem iRT.ch (h : ich x A' = some r) (hA : A' = some r → iRT L A d o) : iRT L (fun fc n => ich x (A fc n)) d o := iRT.okc h hA
theorem iRT.cp {sp dp n na nd : Int} (h : icp sp dp n na nd A' = some r) (hA : A' = some r → iRT L A d o) : iRT L (fun fc k => icp sp dp n na nd (A fc k)) d o := iRT.okc h hA
theorem iRT.cs {x v : Int} (h : (if x = v then A' else B') = some r) : (x = v ∧ A' = some r) ∨ (¬ x = v ∧ B' = some r) := by
  by_cases hc : x = v
  · rw [if_pos hc] at h; exact Or.inl ⟨hc, h⟩
  · rw [if_neg hc] at h; exact Or.inr ⟨hc, h⟩
theorem iRT.swin {x v : Int} {lo hi : Int} {pc : Nat} {offs : Array Int} {off : Int} {k : iF → Nat → Int → iRs} (hx : x = v) (hn : ¬ (v < lo ∨ hi < v)) (ho : offs[(v - lo).toNat]? = some off) (hp : ¬ ((pc : Int) + off < 0))
    (hA : iRT L (fun fc n => k fc n off) d o) : iRT L (fun fc n => if x < lo ∨ hi < x then A fc n else (match offs[(x - lo).toNat]? with
    | some off => if (pc : Int) + off < 0 then none else k fc n off
    | none => none)) d o := by
  subst hx
  obtain ⟨N, q⟩ := hA
  refine ⟨N, fun n n' h1 h2 => ?_⟩
  show (if x < lo ∨ hi < x then A _ n' else (match offs[(x - lo).toNat]? with
    | some off => if (pc : Int) + off < 0 then none else k _ n' off
    | none => none)) = some o
  rw [if_neg hn, ho]
  exact (if_neg hp).trans (q n n' h1 h2)
theorem iRT.swout {x : Int} {lo hi off : Int} {pc : Nat} (hx : x < lo ∨ hi < x) (hp : ¬ ((pc : Int) + off < 0)) (hA : iRT L A d o) : iRT L (fun fc n => if x < lo ∨ hi < x then (if (pc : Int) + off < 0 then none else A fc n) else B fc n) d o := by
  obtain ⟨N, q⟩ := hA
  exact ⟨N, fun n n' h1 h2 => ((if_pos hx).trans (if_neg hp)).trans (q n n' h1 h2)⟩
theorem iRT.ret : iRT L (fun _ _ => some o) d o := ⟨0, fun _ _ _ _ => rfl⟩
theorem iRT.call {As : List iV} {v : Option iV} {m1 : iM} {k : iF → Nat → Option iV → iM → iRs} (hE : iEE L d i As m (v, m1)) (hK : iRT L (fun fc n => k fc n v m1) d o) : iRT L (fun fc n => i_bind (fc i As m) (k fc n)) d o := by
  obtain ⟨N, h⟩ := hE
  obtain ⟨N1, h1⟩ := hK
  refine ⟨N + N1, fun n n' q1 q2 => ?_⟩
  show i_bind (i_exec L n d i As m) _ = some o
  rw [h n (by omega)]
  exact h1 n n' (by omega) (by omega)
theorem iEE.of {md : gMD} {As : List iV} (hT : g_T i = some md) (hw : i_wr i = wr) (hl : Nat.ble (i_args As).length md.2.2.1 = true) (h : iRR wr L d md.2.2.2.2.2 md.2.2.2.2.1 (i_pad md.2.2.1 (i_args As)) [] m o) : iEE L (d + 1) i As m o := by
  obtain ⟨N, h⟩ := h
  refine ⟨N, fun n hn => ?_⟩
  show (match g_T i with
    | none => none
    | some md => bif Nat.ble (i_args As).length md.2.2.1 then i_run (i_wr i) L (i_exec L n d) md.2.2.2.2.2 n md.2.2.2.2.1 (i_pad md.2.2.1 (i_args As)) [] m else none) = some o
  rw [hT]
  simp only [hl, cond_true, hw]
  exact h n n hn hn
theorem iEE.dep {d2 : Nat} {As : List iV} (e : d = d2) (h : iEE L d i As m o) : iEE L d2 i As m o := e ▸ h
/-- what the machine of whole numbers does, the plain one does -/
theorem iEE.to {As : List iV} (h : iEE L d i As m o) (hA : okS As) (hM : okM m) : ∃ N, ∀ n, N ≤ n → Sim L (g_exec (g_C 0) g_T n d i (cvS As) (cM L m)) o := by
  obtain ⟨N, h⟩ := h
  exact ⟨N, fun n hn => i_exec_sim d i As m o (h n hn) hA hM⟩
end IRTS

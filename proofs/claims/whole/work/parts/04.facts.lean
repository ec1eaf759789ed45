/-! What the tables' rows mean: each link's word stands among the words, and lasts. -/
def g_w (h : Nat) (w : Cond) : Bool := decide (lw_tbl[h]? = some w) && goodWord w
def g_tw : List Cond := lw_tbl.filter goodWord
theorem g_w_in {h : Nat} {w : Cond} (q : g_w h w = true) : w ∈ g_tw := by
  simp only [g_w, Bool.and_eq_true, decide_eq_true_eq] at q
  exact List.mem_filter.mpr ⟨List.mem_of_getElem? q.1, q.2⟩
theorem g_w_tbl {h : Nat} {w : Cond} (q : g_w h w = true) : w ∈ lw_tbl := by
  simp only [g_w, Bool.and_eq_true, decide_eq_true_eq] at q
  exact List.mem_of_getElem? q.1
def g_y (i : Nat) : MethodName := ⟨g_on (g_ys.getD i (0, "", "")).1, (g_ys.getD i (0, "", "")).2.1, (g_ys.getD i (0, "", "")).2.2⟩
def g_yo (i : Nat) : Nat := (g_ys.getD i (0, "", "")).1
def g_fw (on ix cl sl : Nat) : Cond := match cl with
  | 17 => .fieldLink (g_on on) ix "java/lang/String" (["value", "coder"].getD sl "") (["[B", "B"].getD sl "")
  | cl => .fieldLink (g_on on) ix (g_fd cl sl).1 (g_fd cl sl).2.1 (g_fd cl sl).2.2.1
def g_kd (cl sl : Nat) : Nat := match cl with
  | 17 => [2, 0].getD sl 9
  | cl => (g_kinds.getD cl []).getD sl 9
theorem g_fl_ok : ∀ r ∈ g_fl, g_w r.2.2.2.2.2 (g_fw r.1 r.2.1 r.2.2.1 r.2.2.2.1) = true ∧ g_kd r.2.2.1 r.2.2.2.1 = r.2.2.2.2.1 ∧ (r.2.2.1 < 13 ∨ r.2.2.1 = 17) ∧ r.2.2.2.1 < (if r.2.2.1 = 17 then 2 else g_nf r.2.2.1) := by decide +kernel
def g_n (h : Nat) (w : Cond) : Bool := decide (lw_tbl[h]? = some w)
abbrev gML : Type := Nat × Nat × Nat × Nat × Nat × Nat × Nat × Nat × Nat
def g_mlc (r : gML) : Bool :=
  let y := g_y r.2.2.1
  let own := g_on r.1
  (match r.2.2.2.2.1 % 16 with
  | 0 => g_w r.2.2.2.2.2.1 (.methodLink own r.2.1 y) && g_w r.2.2.2.2.2.2.1 (.instanceMethod y) && g_w r.2.2.2.2.2.2.2.1 (.selects y.cls y y) && decide (y.cls = g_on (r.2.2.2.2.1 / 16))
  | 2 => g_w r.2.2.2.2.2.1 (.methodLink own r.2.1 y) && g_w r.2.2.2.2.2.2.1 (.static y)
  | 3 => g_n r.2.2.2.2.2.1 (.methodLinkNest own r.2.1 y "GutterNine") && g_w r.2.2.2.2.2.2.1 (.static y)
  | 4 => g_w r.2.2.2.2.2.1 (.methodLink own r.2.1 y) && g_w r.2.2.2.2.2.2.1 (.instanceMethod y) && decide (y.name = "<init>")
  | 5 => g_n r.2.2.2.2.2.1 (.methodLinkNest own r.2.1 y "GutterNine") && g_w r.2.2.2.2.2.2.1 (.instanceMethod y) && decide (y.name = "<init>")
  | _ => false) && g_w r.2.2.2.2.2.2.2.2 (.initialized y.cls) && decide (y.cls ≠ "java/lang/invoke/MethodHandle") && decide (y.cls ≠ "java/lang/invoke/VarHandle") &&
  decide ((parseMethodDescriptor y.desc).map (fun d => d.parameters.length) = some r.2.2.2.1)
theorem g_ml_ok_0 : ∀ r ∈ g_ml_0, g_mlc r = true := by decide +kernel
theorem g_ml_ok_1 : ∀ r ∈ g_ml_1, g_mlc r = true := by decide +kernel
theorem g_ml_ok_2 : ∀ r ∈ g_ml_2, g_mlc r = true := by decide +kernel
theorem g_ml_ok_3 : ∀ r ∈ g_ml_3, g_mlc r = true := by decide +kernel
theorem g_ml_ok_4 : ∀ r ∈ g_ml_4, g_mlc r = true := by decide +kernel
theorem g_ml_ok_5 : ∀ r ∈ g_ml_5, g_mlc r = true := by decide +kernel
theorem g_ml_ok_6 : ∀ r ∈ g_ml_6, g_mlc r = true := by decide +kernel
theorem g_ml_ok_7 : ∀ r ∈ g_ml_7, g_mlc r = true := by decide +kernel
theorem g_ml_ok : ∀ r ∈ g_ml, g_mlc r = true := (List.forall_mem_append.mpr ⟨g_ml_ok_0, (List.forall_mem_append.mpr ⟨g_ml_ok_1, (List.forall_mem_append.mpr ⟨g_ml_ok_2, (List.forall_mem_append.mpr ⟨g_ml_ok_3, (List.forall_mem_append.mpr ⟨g_ml_ok_4, (List.forall_mem_append.mpr ⟨g_ml_ok_5, (List.forall_mem_append.mpr ⟨g_ml_ok_6, g_ml_ok_7⟩)⟩)⟩)⟩)⟩)⟩)⟩)
theorem g_kl_ok : ∀ r ∈ g_kl, g_w r.2.2.2.2 (.constant (g_on r.1) r.2.1 (g_num (0, .nop, 0, r.2.2.1, 0, r.2.2.2.1))) = true := by decide +kernel
theorem g_ll_ok : ∀ r ∈ g_ll, g_w r.2.2.2 (.constantLong (g_on r.1) r.2.1 (Int64.ofNat r.2.2.1)) = true := by decide +kernel
theorem g_sl_ok : ∀ r ∈ g_sl, g_n r.2.2.2 (.stringRef (g_on r.1) r.2.1 (g_sx.getD ((r.2.2.1 - 1010) / 2) "")) = true ∧ g_ss[(r.2.2.1 - 1010) / 2]? = some (r.1, r.2.1) ∧ r.2.2.1 = 1010 + 2 * ((r.2.2.1 - 1010) / 2) := by decide +kernel
theorem g_nl_ok : ∀ r ∈ g_nl, g_w r.2.2.2.1 (.classLink (g_on r.1) r.2.1 (g_on r.2.2.1)) = true ∧ g_w r.2.2.2.2.1 (.instantiable (g_on r.2.2.1) (g_nf r.2.2.1)) = true ∧ g_w r.2.2.2.2.2 (.initialized (g_on r.2.2.1)) = true ∧ r.2.2.1 < 13 := by decide +kernel
theorem g_ol_ok : ∀ r ∈ g_ol, g_w r.2.2 (.methodLink (g_on r.1) r.2.1 Lib.objectInit) = true := by decide +kernel
theorem g_al_ok : ∀ r ∈ g_al, g_w r.2.2 (.methodLink (g_on r.1) r.2.1 arraycopyName) = true := by decide +kernel
theorem g_lay_ok : ∀ c, c < 13 → ∀ k, k < g_nf c → g_w ((g_lays.getD c []).getD k 0) (u_lay (g_on c) (g_fd c) k) = true := by decide +kernel
def g_mn (k : Nat) : MethodName := match k with
  | 8 => Lib.Math.max.name
  | 9 => Lib.Math.min.name
  | _ => Lib.Math.abs.name
theorem g_mt_ok : ∀ r ∈ g_mt, g_w r.2.2.2 (.methodLink (g_on r.1) r.2.1 (g_mn r.2.2.1)) = true := by decide +kernel

def g_ckP (i : Nat) (md : gMD) : Prop := g_okM i md = true ∧ plainName md.1.cls = true ∧ Cond.code md.1 md.2.1 md.2.2.1 md.2.2.2.1 ∈ g_tw ∧ md.2.2.1 ≤ 60 ∧ (md.1.name = "<init>" → md.2.2.2.1 = none)
def g_ck (i : Nat) (md : gMD) : Bool := g_okM i md && (plainName md.1.cls && (decide (md.2.2.1 ≤ 60) && decide (md.1.name = "<init>" → md.2.2.2.1 = none)))
theorem g_ck_of {i : Nat} {md : gMD} (w : Cond.code md.1 md.2.1 md.2.2.1 md.2.2.2.1 ∈ g_tw) (q : g_ck i md = true) : g_ckP i md := by
  simp only [g_ck, Bool.and_eq_true, decide_eq_true_eq] at q
  exact ⟨q.1, q.2.1, w, q.2.2.1, q.2.2.2⟩
theorem g_cw {md : gMD} (h : Cond.code md.1 md.2.1 md.2.2.1 md.2.2.2.1 ∈ tables_1) : Cond.code md.1 md.2.1 md.2.2.1 md.2.2.2.1 ∈ g_tw := List.mem_filter.mpr ⟨List.mem_append_right _ h, rfl⟩
theorem g_t1 {w : Cond} {k : Nat} (h : tables_1_1[k]? = some w) : w ∈ tables_1 := List.mem_append_left _ (List.mem_of_getElem? h)
theorem g_t2 {w : Cond} {k : Nat} (h : tables_1_2[k]? = some w) : w ∈ tables_1 := List.mem_append_right _ (List.mem_append_left _ (List.mem_of_getElem? h))
theorem g_t3 {w : Cond} {k : Nat} (h : tables_1_3[k]? = some w) : w ∈ tables_1 := List.mem_append_right _ (List.mem_append_right _ (List.mem_append_left _ (List.mem_of_getElem? h)))
theorem g_t4 {w : Cond} {k : Nat} (h : tables_1_4[k]? = some w) : w ∈ tables_1 := List.mem_append_right _ (List.mem_append_right _ (List.mem_append_right _ (List.mem_append_left _ (List.mem_of_getElem? h))))
theorem g_t5 {w : Cond} {k : Nat} (h : tables_1_5[k]? = some w) : w ∈ tables_1 := List.mem_append_right _ (List.mem_append_right _ (List.mem_append_right _ (List.mem_append_right _ (List.mem_append_left _ (List.mem_of_getElem? h)))))
theorem g_t6 {w : Cond} {k : Nat} (h : tables_1_6[k]? = some w) : w ∈ tables_1 := List.mem_append_right _ (List.mem_append_right _ (List.mem_append_right _ (List.mem_append_right _ (List.mem_append_right _ (List.mem_append_left _ (List.mem_of_getElem? h))))))
theorem g_t7 {w : Cond} {k : Nat} (h : tables_1_7[k]? = some w) : w ∈ tables_1 := List.mem_append_right _ (List.mem_append_right _ (List.mem_append_right _ (List.mem_append_right _ (List.mem_append_right _ (List.mem_append_right _ (List.mem_append_left _ (List.mem_of_getElem? h)))))))
theorem g_t8 {w : Cond} {k : Nat} (h : tables_1_8[k]? = some w) : w ∈ tables_1 := List.mem_append_right _ (List.mem_append_right _ (List.mem_append_right _ (List.mem_append_right _ (List.mem_append_right _ (List.mem_append_right _ (List.mem_append_right _ (List.mem_append_left _ (List.mem_of_getElem? h))))))))
theorem g_t9 {w : Cond} {k : Nat} (h : tables_1_9[k]? = some w) : w ∈ tables_1 := List.mem_append_right _ (List.mem_append_right _ (List.mem_append_right _ (List.mem_append_right _ (List.mem_append_right _ (List.mem_append_right _ (List.mem_append_right _ (List.mem_append_right _ (List.mem_of_getElem? h))))))))
set_option maxRecDepth 50000 in
theorem gw_0 : Cond.code gm_0.1 gm_0.2.1 gm_0.2.2.1 gm_0.2.2.2.1 ∈ g_tw := g_cw (g_t2 (k := 130) rfl)
theorem gc_0 : g_ckP 0 gm_0 := g_ck_of gw_0 (by decide +kernel)
set_option maxRecDepth 50000 in
theorem gw_1 : Cond.code gm_1.1 gm_1.2.1 gm_1.2.2.1 gm_1.2.2.2.1 ∈ g_tw := g_cw (g_t5 (k := 121) rfl)
theorem gc_1 : g_ckP 1 gm_1 := g_ck_of gw_1 (by decide +kernel)
set_option maxRecDepth 50000 in
theorem gw_2 : Cond.code gm_2.1 gm_2.2.1 gm_2.2.2.1 gm_2.2.2.2.1 ∈ g_tw := g_cw (g_t5 (k := 128) rfl)
theorem gc_2 : g_ckP 2 gm_2 := g_ck_of gw_2 (by decide +kernel)
set_option maxRecDepth 50000 in
theorem gw_3 : Cond.code gm_3.1 gm_3.2.1 gm_3.2.2.1 gm_3.2.2.2.1 ∈ g_tw := g_cw (g_t6 (k := 165) rfl)
theorem gc_3 : g_ckP 3 gm_3 := g_ck_of gw_3 (by decide +kernel)
set_option maxRecDepth 50000 in
theorem gw_4 : Cond.code gm_4.1 gm_4.2.1 gm_4.2.2.1 gm_4.2.2.2.1 ∈ g_tw := g_cw (g_t5 (k := 156) rfl)
theorem gc_4 : g_ckP 4 gm_4 := g_ck_of gw_4 (by decide +kernel)
set_option maxRecDepth 50000 in
theorem gw_5 : Cond.code gm_5.1 gm_5.2.1 gm_5.2.2.1 gm_5.2.2.2.1 ∈ g_tw := g_cw (g_t6 (k := 177) rfl)
theorem gc_5 : g_ckP 5 gm_5 := g_ck_of gw_5 (by decide +kernel)
set_option maxRecDepth 50000 in
theorem gw_6 : Cond.code gm_6.1 gm_6.2.1 gm_6.2.2.1 gm_6.2.2.2.1 ∈ g_tw := g_cw (g_t6 (k := 182) rfl)
theorem gc_6 : g_ckP 6 gm_6 := g_ck_of gw_6 (by decide +kernel)
set_option maxRecDepth 50000 in
theorem gw_7 : Cond.code gm_7.1 gm_7.2.1 gm_7.2.2.1 gm_7.2.2.2.1 ∈ g_tw := g_cw (g_t6 (k := 186) rfl)
theorem gc_7 : g_ckP 7 gm_7 := g_ck_of gw_7 (by decide +kernel)
set_option maxRecDepth 50000 in
theorem gw_8 : Cond.code gm_8.1 gm_8.2.1 gm_8.2.2.1 gm_8.2.2.2.1 ∈ g_tw := g_cw (g_t6 (k := 190) rfl)
theorem gc_8 : g_ckP 8 gm_8 := g_ck_of gw_8 (by decide +kernel)
set_option maxRecDepth 50000 in
theorem gw_9 : Cond.code gm_9.1 gm_9.2.1 gm_9.2.2.1 gm_9.2.2.2.1 ∈ g_tw := g_cw (g_t5 (k := 164) rfl)
theorem gc_9 : g_ckP 9 gm_9 := g_ck_of gw_9 (by decide +kernel)
set_option maxRecDepth 50000 in
theorem gw_10 : Cond.code gm_10.1 gm_10.2.1 gm_10.2.2.1 gm_10.2.2.2.1 ∈ g_tw := g_cw (g_t5 (k := 160) rfl)
theorem gc_10 : g_ckP 10 gm_10 := g_ck_of gw_10 (by decide +kernel)
set_option maxRecDepth 50000 in
theorem gw_11 : Cond.code gm_11.1 gm_11.2.1 gm_11.2.2.1 gm_11.2.2.2.1 ∈ g_tw := g_cw (g_t5 (k := 144) rfl)
theorem gc_11 : g_ckP 11 gm_11 := g_ck_of gw_11 (by decide +kernel)
set_option maxRecDepth 50000 in
theorem gw_12 : Cond.code gm_12.1 gm_12.2.1 gm_12.2.2.1 gm_12.2.2.2.1 ∈ g_tw := g_cw (g_t5 (k := 169) rfl)
theorem gc_12 : g_ckP 12 gm_12 := g_ck_of gw_12 (by decide +kernel)
set_option maxRecDepth 50000 in
theorem gw_13 : Cond.code gm_13.1 gm_13.2.1 gm_13.2.2.1 gm_13.2.2.2.1 ∈ g_tw := g_cw (g_t5 (k := 152) rfl)
theorem gc_13 : g_ckP 13 gm_13 := g_ck_of gw_13 (by decide +kernel)
set_option maxRecDepth 50000 in
theorem gw_14 : Cond.code gm_14.1 gm_14.2.1 gm_14.2.2.1 gm_14.2.2.2.1 ∈ g_tw := g_cw (g_t5 (k := 183) rfl)
theorem gc_14 : g_ckP 14 gm_14 := g_ck_of gw_14 (by decide +kernel)
set_option maxRecDepth 50000 in
theorem gw_15 : Cond.code gm_15.1 gm_15.2.1 gm_15.2.2.1 gm_15.2.2.2.1 ∈ g_tw := g_cw (g_t5 (k := 187) rfl)
theorem gc_15 : g_ckP 15 gm_15 := g_ck_of gw_15 (by decide +kernel)
set_option maxRecDepth 50000 in
theorem gw_16 : Cond.code gm_16.1 gm_16.2.1 gm_16.2.2.1 gm_16.2.2.2.1 ∈ g_tw := g_cw (g_t5 (k := 218) rfl)
theorem gc_16 : g_ckP 16 gm_16 := g_ck_of gw_16 (by decide +kernel)
set_option maxRecDepth 50000 in
theorem gw_17 : Cond.code gm_17.1 gm_17.2.1 gm_17.2.2.1 gm_17.2.2.2.1 ∈ g_tw := g_cw (g_t5 (k := 230) rfl)
theorem gc_17 : g_ckP 17 gm_17 := g_ck_of gw_17 (by decide +kernel)
set_option maxRecDepth 50000 in
theorem gw_18 : Cond.code gm_18.1 gm_18.2.1 gm_18.2.2.1 gm_18.2.2.2.1 ∈ g_tw := g_cw (g_t5 (k := 222) rfl)
theorem gc_18 : g_ckP 18 gm_18 := g_ck_of gw_18 (by decide +kernel)
set_option maxRecDepth 50000 in
theorem gw_19 : Cond.code gm_19.1 gm_19.2.1 gm_19.2.2.1 gm_19.2.2.2.1 ∈ g_tw := g_cw (g_t5 (k := 226) rfl)
theorem gc_19 : g_ckP 19 gm_19 := g_ck_of gw_19 (by decide +kernel)
set_option maxRecDepth 50000 in
theorem gw_20 : Cond.code gm_20.1 gm_20.2.1 gm_20.2.2.1 gm_20.2.2.2.1 ∈ g_tw := g_cw (g_t1 (k := 208) rfl)
theorem gc_20 : g_ckP 20 gm_20 := g_ck_of gw_20 (by decide +kernel)
set_option maxRecDepth 50000 in
theorem gw_21 : Cond.code gm_21.1 gm_21.2.1 gm_21.2.2.1 gm_21.2.2.2.1 ∈ g_tw := g_cw (g_t1 (k := 228) rfl)
theorem gc_21 : g_ckP 21 gm_21 := g_ck_of gw_21 (by decide +kernel)
set_option maxRecDepth 50000 in
theorem gw_22 : Cond.code gm_22.1 gm_22.2.1 gm_22.2.2.1 gm_22.2.2.2.1 ∈ g_tw := g_cw (g_t4 (k := 67) rfl)
theorem gc_22 : g_ckP 22 gm_22 := g_ck_of gw_22 (by decide +kernel)
set_option maxRecDepth 50000 in
theorem gw_23 : Cond.code gm_23.1 gm_23.2.1 gm_23.2.2.1 gm_23.2.2.2.1 ∈ g_tw := g_cw (g_t1 (k := 232) rfl)
theorem gc_23 : g_ckP 23 gm_23 := g_ck_of gw_23 (by decide +kernel)
set_option maxRecDepth 50000 in
theorem gw_24 : Cond.code gm_24.1 gm_24.2.1 gm_24.2.2.1 gm_24.2.2.2.1 ∈ g_tw := g_cw (g_t5 (k := 64) rfl)
theorem gc_24 : g_ckP 24 gm_24 := g_ck_of gw_24 (by decide +kernel)
set_option maxRecDepth 50000 in
theorem gw_25 : Cond.code gm_25.1 gm_25.2.1 gm_25.2.2.1 gm_25.2.2.2.1 ∈ g_tw := g_cw (g_t5 (k := 67) rfl)
theorem gc_25 : g_ckP 25 gm_25 := g_ck_of gw_25 (by decide +kernel)
set_option maxRecDepth 50000 in
theorem gw_26 : Cond.code gm_26.1 gm_26.2.1 gm_26.2.2.1 gm_26.2.2.2.1 ∈ g_tw := g_cw (g_t5 (k := 73) rfl)
theorem gc_26 : g_ckP 26 gm_26 := g_ck_of gw_26 (by decide +kernel)
set_option maxRecDepth 50000 in
theorem gw_27 : Cond.code gm_27.1 gm_27.2.1 gm_27.2.2.1 gm_27.2.2.2.1 ∈ g_tw := g_cw (g_t5 (k := 70) rfl)
theorem gc_27 : g_ckP 27 gm_27 := g_ck_of gw_27 (by decide +kernel)
set_option maxRecDepth 50000 in
theorem gw_28 : Cond.code gm_28.1 gm_28.2.1 gm_28.2.2.1 gm_28.2.2.2.1 ∈ g_tw := g_cw (g_t1 (k := 87) rfl)
theorem gc_28 : g_ckP 28 gm_28 := g_ck_of gw_28 (by decide +kernel)
set_option maxRecDepth 50000 in
theorem gw_29 : Cond.code gm_29.1 gm_29.2.1 gm_29.2.2.1 gm_29.2.2.2.1 ∈ g_tw := g_cw (g_t4 (k := 63) rfl)
theorem gc_29 : g_ckP 29 gm_29 := g_ck_of gw_29 (by decide +kernel)
set_option maxRecDepth 50000 in
theorem gw_30 : Cond.code gm_30.1 gm_30.2.1 gm_30.2.2.1 gm_30.2.2.2.1 ∈ g_tw := g_cw (g_t4 (k := 71) rfl)
theorem gc_30 : g_ckP 30 gm_30 := g_ck_of gw_30 (by decide +kernel)
set_option maxRecDepth 50000 in
theorem gw_31 : Cond.code gm_31.1 gm_31.2.1 gm_31.2.2.1 gm_31.2.2.2.1 ∈ g_tw := g_cw (g_t4 (k := 81) rfl)
theorem gc_31 : g_ckP 31 gm_31 := g_ck_of gw_31 (by decide +kernel)
set_option maxRecDepth 50000 in
theorem gw_32 : Cond.code gm_32.1 gm_32.2.1 gm_32.2.2.1 gm_32.2.2.2.1 ∈ g_tw := g_cw (g_t4 (k := 105) rfl)
theorem gc_32 : g_ckP 32 gm_32 := g_ck_of gw_32 (by decide +kernel)
set_option maxRecDepth 50000 in
theorem gw_33 : Cond.code gm_33.1 gm_33.2.1 gm_33.2.2.1 gm_33.2.2.2.1 ∈ g_tw := g_cw (g_t4 (k := 117) rfl)
theorem gc_33 : g_ckP 33 gm_33 := g_ck_of gw_33 (by decide +kernel)
set_option maxRecDepth 50000 in
theorem gw_34 : Cond.code gm_34.1 gm_34.2.1 gm_34.2.2.1 gm_34.2.2.2.1 ∈ g_tw := g_cw (g_t4 (k := 113) rfl)
theorem gc_34 : g_ckP 34 gm_34 := g_ck_of gw_34 (by decide +kernel)
set_option maxRecDepth 50000 in
theorem gw_35 : Cond.code gm_35.1 gm_35.2.1 gm_35.2.2.1 gm_35.2.2.2.1 ∈ g_tw := g_cw (g_t4 (k := 87) rfl)
theorem gc_35 : g_ckP 35 gm_35 := g_ck_of gw_35 (by decide +kernel)
set_option maxRecDepth 50000 in
theorem gw_36 : Cond.code gm_36.1 gm_36.2.1 gm_36.2.2.1 gm_36.2.2.2.1 ∈ g_tw := g_cw (g_t4 (k := 109) rfl)
theorem gc_36 : g_ckP 36 gm_36 := g_ck_of gw_36 (by decide +kernel)
set_option maxRecDepth 50000 in
theorem gw_37 : Cond.code gm_37.1 gm_37.2.1 gm_37.2.2.1 gm_37.2.2.2.1 ∈ g_tw := g_cw (g_t4 (k := 99) rfl)
theorem gc_37 : g_ckP 37 gm_37 := g_ck_of gw_37 (by decide +kernel)
set_option maxRecDepth 50000 in
theorem gw_38 : Cond.code gm_38.1 gm_38.2.1 gm_38.2.2.1 gm_38.2.2.2.1 ∈ g_tw := g_cw (g_t4 (k := 91) rfl)
theorem gc_38 : g_ckP 38 gm_38 := g_ck_of gw_38 (by decide +kernel)
set_option maxRecDepth 50000 in
theorem gw_39 : Cond.code gm_39.1 gm_39.2.1 gm_39.2.2.1 gm_39.2.2.2.1 ∈ g_tw := g_cw (g_t4 (k := 94) rfl)
theorem gc_39 : g_ckP 39 gm_39 := g_ck_of gw_39 (by decide +kernel)
set_option maxRecDepth 50000 in
theorem gw_40 : Cond.code gm_40.1 gm_40.2.1 gm_40.2.2.1 gm_40.2.2.2.1 ∈ g_tw := g_cw (g_t2 (k := 205) rfl)
theorem gc_40 : g_ckP 40 gm_40 := g_ck_of gw_40 (by decide +kernel)
set_option maxRecDepth 50000 in
theorem gw_41 : Cond.code gm_41.1 gm_41.2.1 gm_41.2.2.1 gm_41.2.2.2.1 ∈ g_tw := g_cw (g_t3 (k := 199) rfl)
theorem gc_41 : g_ckP 41 gm_41 := g_ck_of gw_41 (by decide +kernel)
set_option maxRecDepth 50000 in
theorem gw_42 : Cond.code gm_42.1 gm_42.2.1 gm_42.2.2.1 gm_42.2.2.2.1 ∈ g_tw := g_cw (g_t4 (k := 158) rfl)
theorem gc_42 : g_ckP 42 gm_42 := g_ck_of gw_42 (by decide +kernel)
set_option maxRecDepth 50000 in
theorem gw_43 : Cond.code gm_43.1 gm_43.2.1 gm_43.2.2.1 gm_43.2.2.2.1 ∈ g_tw := g_cw (g_t5 (k := 99) rfl)
theorem gc_43 : g_ckP 43 gm_43 := g_ck_of gw_43 (by decide +kernel)
set_option maxRecDepth 50000 in
theorem gw_44 : Cond.code gm_44.1 gm_44.2.1 gm_44.2.2.1 gm_44.2.2.2.1 ∈ g_tw := g_cw (g_t6 (k := 80) rfl)
theorem gc_44 : g_ckP 44 gm_44 := g_ck_of gw_44 (by decide +kernel)
set_option maxRecDepth 50000 in
theorem gw_45 : Cond.code gm_45.1 gm_45.2.1 gm_45.2.2.1 gm_45.2.2.2.1 ∈ g_tw := g_cw (g_t6 (k := 72) rfl)
theorem gc_45 : g_ckP 45 gm_45 := g_ck_of gw_45 (by decide +kernel)
set_option maxRecDepth 50000 in
theorem gw_46 : Cond.code gm_46.1 gm_46.2.1 gm_46.2.2.1 gm_46.2.2.2.1 ∈ g_tw := g_cw (g_t2 (k := 103) rfl)
theorem gc_46 : g_ckP 46 gm_46 := g_ck_of gw_46 (by decide +kernel)
set_option maxRecDepth 50000 in
theorem gw_47 : Cond.code gm_47.1 gm_47.2.1 gm_47.2.2.1 gm_47.2.2.2.1 ∈ g_tw := g_cw (g_t5 (k := 196) rfl)
theorem gc_47 : g_ckP 47 gm_47 := g_ck_of gw_47 (by decide +kernel)
set_option maxRecDepth 50000 in
theorem gw_48 : Cond.code gm_48.1 gm_48.2.1 gm_48.2.2.1 gm_48.2.2.2.1 ∈ g_tw := g_cw (g_t5 (k := 201) rfl)
theorem gc_48 : g_ckP 48 gm_48 := g_ck_of gw_48 (by decide +kernel)
set_option maxRecDepth 50000 in
theorem gw_49 : Cond.code gm_49.1 gm_49.2.1 gm_49.2.2.1 gm_49.2.2.2.1 ∈ g_tw := g_cw (g_t4 (k := 174) rfl)
theorem gc_49 : g_ckP 49 gm_49 := g_ck_of gw_49 (by decide +kernel)
set_option maxRecDepth 50000 in
theorem gw_50 : Cond.code gm_50.1 gm_50.2.1 gm_50.2.2.1 gm_50.2.2.2.1 ∈ g_tw := g_cw (g_t5 (k := 136) rfl)
theorem gc_50 : g_ckP 50 gm_50 := g_ck_of gw_50 (by decide +kernel)
set_option maxRecDepth 50000 in
theorem gw_51 : Cond.code gm_51.1 gm_51.2.1 gm_51.2.2.1 gm_51.2.2.2.1 ∈ g_tw := g_cw (g_t4 (k := 182) rfl)
theorem gc_51 : g_ckP 51 gm_51 := g_ck_of gw_51 (by decide +kernel)
set_option maxRecDepth 50000 in
theorem gw_52 : Cond.code gm_52.1 gm_52.2.1 gm_52.2.2.1 gm_52.2.2.2.1 ∈ g_tw := g_cw (g_t4 (k := 190) rfl)
theorem gc_52 : g_ckP 52 gm_52 := g_ck_of gw_52 (by decide +kernel)
set_option maxRecDepth 50000 in
theorem gw_53 : Cond.code gm_53.1 gm_53.2.1 gm_53.2.2.1 gm_53.2.2.2.1 ∈ g_tw := g_cw (g_t4 (k := 201) rfl)
theorem gc_53 : g_ckP 53 gm_53 := g_ck_of gw_53 (by decide +kernel)
set_option maxRecDepth 50000 in
theorem gw_54 : Cond.code gm_54.1 gm_54.2.1 gm_54.2.2.1 gm_54.2.2.2.1 ∈ g_tw := g_cw (g_t4 (k := 218) rfl)
theorem gc_54 : g_ckP 54 gm_54 := g_ck_of gw_54 (by decide +kernel)
set_option maxRecDepth 50000 in
theorem gw_55 : Cond.code gm_55.1 gm_55.2.1 gm_55.2.2.1 gm_55.2.2.2.1 ∈ g_tw := g_cw (g_t4 (k := 222) rfl)
theorem gc_55 : g_ckP 55 gm_55 := g_ck_of gw_55 (by decide +kernel)
set_option maxRecDepth 50000 in
theorem gw_56 : Cond.code gm_56.1 gm_56.2.1 gm_56.2.2.1 gm_56.2.2.2.1 ∈ g_tw := g_cw (g_t4 (k := 229) rfl)
theorem gc_56 : g_ckP 56 gm_56 := g_ck_of gw_56 (by decide +kernel)
set_option maxRecDepth 50000 in
theorem gw_57 : Cond.code gm_57.1 gm_57.2.1 gm_57.2.2.1 gm_57.2.2.2.1 ∈ g_tw := g_cw (g_t5 (k := 1) rfl)
theorem gc_57 : g_ckP 57 gm_57 := g_ck_of gw_57 (by decide +kernel)
set_option maxRecDepth 50000 in
theorem gw_58 : Cond.code gm_58.1 gm_58.2.1 gm_58.2.2.1 gm_58.2.2.2.1 ∈ g_tw := g_cw (g_t5 (k := 5) rfl)
theorem gc_58 : g_ckP 58 gm_58 := g_ck_of gw_58 (by decide +kernel)
set_option maxRecDepth 50000 in
theorem gw_59 : Cond.code gm_59.1 gm_59.2.1 gm_59.2.2.1 gm_59.2.2.2.1 ∈ g_tw := g_cw (g_t5 (k := 13) rfl)
theorem gc_59 : g_ckP 59 gm_59 := g_ck_of gw_59 (by decide +kernel)
set_option maxRecDepth 50000 in
theorem gw_60 : Cond.code gm_60.1 gm_60.2.1 gm_60.2.2.1 gm_60.2.2.2.1 ∈ g_tw := g_cw (g_t5 (k := 17) rfl)
theorem gc_60 : g_ckP 60 gm_60 := g_ck_of gw_60 (by decide +kernel)
set_option maxRecDepth 50000 in
theorem gw_61 : Cond.code gm_61.1 gm_61.2.1 gm_61.2.2.1 gm_61.2.2.2.1 ∈ g_tw := g_cw (g_t5 (k := 21) rfl)
theorem gc_61 : g_ckP 61 gm_61 := g_ck_of gw_61 (by decide +kernel)
set_option maxRecDepth 50000 in
theorem gw_62 : Cond.code gm_62.1 gm_62.2.1 gm_62.2.2.1 gm_62.2.2.2.1 ∈ g_tw := g_cw (g_t5 (k := 29) rfl)
theorem gc_62 : g_ckP 62 gm_62 := g_ck_of gw_62 (by decide +kernel)
set_option maxRecDepth 50000 in
theorem gw_63 : Cond.code gm_63.1 gm_63.2.1 gm_63.2.2.1 gm_63.2.2.2.1 ∈ g_tw := g_cw (g_t5 (k := 79) rfl)
theorem gc_63 : g_ckP 63 gm_63 := g_ck_of gw_63 (by decide +kernel)
set_option maxRecDepth 50000 in
theorem gw_64 : Cond.code gm_64.1 gm_64.2.1 gm_64.2.2.1 gm_64.2.2.2.1 ∈ g_tw := g_cw (g_t5 (k := 48) rfl)
theorem gc_64 : g_ckP 64 gm_64 := g_ck_of gw_64 (by decide +kernel)
set_option maxRecDepth 50000 in
theorem gw_65 : Cond.code gm_65.1 gm_65.2.1 gm_65.2.2.1 gm_65.2.2.2.1 ∈ g_tw := g_cw (g_t5 (k := 83) rfl)
theorem gc_65 : g_ckP 65 gm_65 := g_ck_of gw_65 (by decide +kernel)
set_option maxRecDepth 50000 in
theorem gw_66 : Cond.code gm_66.1 gm_66.2.1 gm_66.2.2.1 gm_66.2.2.2.1 ∈ g_tw := g_cw (g_t5 (k := 91) rfl)
theorem gc_66 : g_ckP 66 gm_66 := g_ck_of gw_66 (by decide +kernel)
set_option maxRecDepth 50000 in
theorem gw_67 : Cond.code gm_67.1 gm_67.2.1 gm_67.2.2.1 gm_67.2.2.2.1 ∈ g_tw := g_cw (g_t5 (k := 56) rfl)
theorem gc_67 : g_ckP 67 gm_67 := g_ck_of gw_67 (by decide +kernel)
set_option maxRecDepth 50000 in
theorem gw_68 : Cond.code gm_68.1 gm_68.2.1 gm_68.2.2.1 gm_68.2.2.2.1 ∈ g_tw := g_cw (g_t5 (k := 52) rfl)
theorem gc_68 : g_ckP 68 gm_68 := g_ck_of gw_68 (by decide +kernel)
set_option maxRecDepth 50000 in
theorem gw_69 : Cond.code gm_69.1 gm_69.2.1 gm_69.2.2.1 gm_69.2.2.2.1 ∈ g_tw := g_cw (g_t5 (k := 60) rfl)
theorem gc_69 : g_ckP 69 gm_69 := g_ck_of gw_69 (by decide +kernel)
set_option maxRecDepth 50000 in
theorem gw_70 : Cond.code gm_70.1 gm_70.2.1 gm_70.2.2.1 gm_70.2.2.2.1 ∈ g_tw := g_cw (g_t5 (k := 148) rfl)
theorem gc_70 : g_ckP 70 gm_70 := g_ck_of gw_70 (by decide +kernel)
set_option maxRecDepth 50000 in
theorem gw_71 : Cond.code gm_71.1 gm_71.2.1 gm_71.2.2.1 gm_71.2.2.2.1 ∈ g_tw := g_cw (g_t5 (k := 37) rfl)
theorem gc_71 : g_ckP 71 gm_71 := g_ck_of gw_71 (by decide +kernel)
set_option maxRecDepth 50000 in
theorem gw_72 : Cond.code gm_72.1 gm_72.2.1 gm_72.2.2.1 gm_72.2.2.2.1 ∈ g_tw := g_cw (g_t5 (k := 33) rfl)
theorem gc_72 : g_ckP 72 gm_72 := g_ck_of gw_72 (by decide +kernel)
set_option maxRecDepth 50000 in
theorem gw_73 : Cond.code gm_73.1 gm_73.2.1 gm_73.2.2.1 gm_73.2.2.2.1 ∈ g_tw := g_cw (g_t5 (k := 239) rfl)
theorem gc_73 : g_ckP 73 gm_73 := g_ck_of gw_73 (by decide +kernel)
set_option maxRecDepth 50000 in
theorem gw_74 : Cond.code gm_74.1 gm_74.2.1 gm_74.2.2.1 gm_74.2.2.2.1 ∈ g_tw := g_cw (g_t6 (k := 46) rfl)
theorem gc_74 : g_ckP 74 gm_74 := g_ck_of gw_74 (by decide +kernel)
set_option maxRecDepth 50000 in
theorem gw_75 : Cond.code gm_75.1 gm_75.2.1 gm_75.2.2.1 gm_75.2.2.2.1 ∈ g_tw := g_cw (g_t6 (k := 58) rfl)
theorem gc_75 : g_ckP 75 gm_75 := g_ck_of gw_75 (by decide +kernel)

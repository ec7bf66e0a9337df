-- written by wip/whole/gen2.py
theorem dX2_longestRow_0 : decode cX2_longestRow 0 = .ok (.iconst 0, 1) := by decide +kernel
theorem dX2_longestRow_1 : decode cX2_longestRow 1 = .ok (.istore_n 1, 1) := by decide +kernel
theorem dX2_longestRow_2 : decode cX2_longestRow 2 = .ok (.iconst 0, 1) := by decide +kernel
theorem dX2_longestRow_3 : decode cX2_longestRow 3 = .ok (.istore_n 2, 1) := by decide +kernel
theorem dX2_longestRow_4 : decode cX2_longestRow 4 = .ok (.iload_n 2, 1) := by decide +kernel
theorem dX2_longestRow_5 : decode cX2_longestRow 5 = .ok (.aload_n 0, 1) := by decide +kernel
theorem dX2_longestRow_6 : decode cX2_longestRow 6 = .ok (.getfield 44, 3) := by decide +kernel
theorem dX2_longestRow_9 : decode cX2_longestRow 9 = .ok (.if_icmp .ge 30, 3) := by decide +kernel
theorem dX2_longestRow_12 : decode cX2_longestRow 12 = .ok (.aload_n 0, 1) := by decide +kernel
theorem dX2_longestRow_13 : decode cX2_longestRow 13 = .ok (.getfield 34, 3) := by decide +kernel
theorem dX2_longestRow_16 : decode cX2_longestRow 16 = .ok (.iload_n 2, 1) := by decide +kernel
theorem dX2_longestRow_17 : decode cX2_longestRow 17 = .ok (.baload, 1) := by decide +kernel
theorem dX2_longestRow_18 : decode cX2_longestRow 18 = .ok (.ifCond .eq 15, 3) := by decide +kernel
theorem dX2_longestRow_21 : decode cX2_longestRow 21 = .ok (.iload_n 1, 1) := by decide +kernel
theorem dX2_longestRow_22 : decode cX2_longestRow 22 = .ok (.aload_n 0, 1) := by decide +kernel
theorem dX2_longestRow_23 : decode cX2_longestRow 23 = .ok (.iload_n 2, 1) := by decide +kernel
theorem dX2_longestRow_24 : decode cX2_longestRow 24 = .ok (.invokevirtual 115, 3) := by decide +kernel
theorem dX2_longestRow_27 : decode cX2_longestRow 27 = .ok (.iconst 1, 1) := by decide +kernel
theorem dX2_longestRow_28 : decode cX2_longestRow 28 = .ok (.iadd, 1) := by decide +kernel
theorem dX2_longestRow_29 : decode cX2_longestRow 29 = .ok (.invokestatic 112, 3) := by decide +kernel
theorem dX2_longestRow_32 : decode cX2_longestRow 32 = .ok (.istore_n 1, 1) := by decide +kernel
theorem dX2_longestRow_33 : decode cX2_longestRow 33 = .ok (.iinc 2 1, 3) := by decide +kernel
theorem dX2_longestRow_36 : decode cX2_longestRow 36 = .ok (.goto (-32), 3) := by decide +kernel
theorem dX2_longestRow_39 : decode cX2_longestRow 39 = .ok (.iload_n 1, 1) := by decide +kernel
theorem dX2_longestRow_40 : decode cX2_longestRow 40 = .ok (.ireturn, 1) := by decide +kernel
set_option maxRecDepth 100000 in
theorem ok_X2_longestRow {G : GX} (hAp : Ap G) : ∀ d, ∀ e ∈ tb_X2_longestRow, Snd G mts yX2_longestRow.cls cX2_longestRow 3 (some .int) d none e.1 e.2 := by
  intro d
  unfold tb_X2_longestRow
  refine fa_c (s_iconst dX2_longestRow_0 (by decide)) ?_
  refine fa_c (s_st_n dX2_longestRow_1 rfl (by decide)) ?_
  refine fa_c (s_iconst dX2_longestRow_2 (by decide)) ?_
  refine fa_c (s_st_n dX2_longestRow_3 rfl (by decide)) ?_
  refine fa_c (s_li_n dX2_longestRow_4 rfl) ?_
  refine fa_c (s_la_n dX2_longestRow_5 rfl) ?_
  refine fa_c (gf_X2_10 w_81 dX2_longestRow_6) ?_
  refine fa_c (s_ic_ge dX2_longestRow_9 (by decide)) ?_
  refine fa_c (s_la_n dX2_longestRow_12 rfl) ?_
  refine fa_c (gf_X2_7 w_78 dX2_longestRow_13) ?_
  refine fa_c (s_li_n dX2_longestRow_16 rfl) ?_
  refine fa_c (s_ba dX2_longestRow_17) ?_
  refine fa_c (s_if_eq dX2_longestRow_18 (by decide)) ?_
  refine fa_c (s_li_n dX2_longestRow_21 rfl) ?_
  refine fa_c (s_la_n dX2_longestRow_22 rfl) ?_
  refine fa_c (s_li_n dX2_longestRow_23 rfl) ?_
  refine fa_c (s_cv mo_X2_depthOf co_X2 (by decide) (fun _ _ => ⟨_, rfl⟩) dX2_longestRow_24 w_411 w_412 w_413 (by decide)) ?_
  refine fa_c (s_iconst dX2_longestRow_27 (by decide)) ?_
  refine fa_c (s_i_add dX2_longestRow_28) ?_
  refine fa_c (s_max dX2_longestRow_29 w_396 w_397 w_54 w_398) ?_
  refine fa_c (s_st_n dX2_longestRow_32 rfl (by decide)) ?_
  refine fa_c (s_inc dX2_longestRow_33 (by decide) (by decide)) ?_
  refine fa_c (s_go dX2_longestRow_36 (by decide)) ?_
  refine fa_c (s_li_n dX2_longestRow_39 rfl) ?_
  refine fa_c (s_ri dX2_longestRow_40 rfl) ?_
  exact fun e he => absurd he List.not_mem_nil
theorem cl_X2_longestRow {G : GX} (hAp : Ap G) : Cl1 (Ct G mts) n_X2_longestRow tb_X2_longestRow := ct_cl (y := n_X2_longestRow) (yn := yX2_longestRow) rfl (by decide +kernel) (ok_X2_longestRow hAp)
theorem dX2_depthOf_0 : decode cX2_depthOf 0 = .ok (.iconst 0, 1) := by decide +kernel
theorem dX2_depthOf_1 : decode cX2_depthOf 1 = .ok (.istore_n 2, 1) := by decide +kernel
theorem dX2_depthOf_2 : decode cX2_depthOf 2 = .ok (.aload_n 0, 1) := by decide +kernel
theorem dX2_depthOf_3 : decode cX2_depthOf 3 = .ok (.getfield 22, 3) := by decide +kernel
theorem dX2_depthOf_6 : decode cX2_depthOf 6 = .ok (.iload_n 1, 1) := by decide +kernel
theorem dX2_depthOf_7 : decode cX2_depthOf 7 = .ok (.iaload, 1) := by decide +kernel
theorem dX2_depthOf_8 : decode cX2_depthOf 8 = .ok (.istore_n 3, 1) := by decide +kernel
theorem dX2_depthOf_9 : decode cX2_depthOf 9 = .ok (.iload_n 2, 1) := by decide +kernel
theorem dX2_depthOf_10 : decode cX2_depthOf 10 = .ok (.aload_n 0, 1) := by decide +kernel
theorem dX2_depthOf_11 : decode cX2_depthOf 11 = .ok (.getfield 9, 3) := by decide +kernel
theorem dX2_depthOf_14 : decode cX2_depthOf 14 = .ok (.if_icmp .ge 21, 3) := by decide +kernel
theorem dX2_depthOf_17 : decode cX2_depthOf 17 = .ok (.iload_n 3, 1) := by decide +kernel
theorem dX2_depthOf_18 : decode cX2_depthOf 18 = .ok (.iconst (-1), 1) := by decide +kernel
theorem dX2_depthOf_19 : decode cX2_depthOf 19 = .ok (.if_icmp .eq 16, 3) := by decide +kernel
theorem dX2_depthOf_22 : decode cX2_depthOf 22 = .ok (.iinc 2 1, 3) := by decide +kernel
theorem dX2_depthOf_25 : decode cX2_depthOf 25 = .ok (.aload_n 0, 1) := by decide +kernel
theorem dX2_depthOf_26 : decode cX2_depthOf 26 = .ok (.getfield 22, 3) := by decide +kernel
theorem dX2_depthOf_29 : decode cX2_depthOf 29 = .ok (.iload_n 3, 1) := by decide +kernel
theorem dX2_depthOf_30 : decode cX2_depthOf 30 = .ok (.iaload, 1) := by decide +kernel
theorem dX2_depthOf_31 : decode cX2_depthOf 31 = .ok (.istore_n 3, 1) := by decide +kernel
theorem dX2_depthOf_32 : decode cX2_depthOf 32 = .ok (.goto (-23), 3) := by decide +kernel
theorem dX2_depthOf_35 : decode cX2_depthOf 35 = .ok (.iload_n 2, 1) := by decide +kernel
theorem dX2_depthOf_36 : decode cX2_depthOf 36 = .ok (.ireturn, 1) := by decide +kernel
set_option maxRecDepth 100000 in
theorem ok_X2_depthOf {G : GX} (hAp : Ap G) : ∀ d, ∀ e ∈ tb_X2_depthOf, Snd G mts yX2_depthOf.cls cX2_depthOf 4 (some .int) d none e.1 e.2 := by
  intro d
  unfold tb_X2_depthOf
  refine fa_c (s_iconst dX2_depthOf_0 (by decide)) ?_
  refine fa_c (s_st_n dX2_depthOf_1 rfl (by decide)) ?_
  refine fa_c (s_la_n dX2_depthOf_2 rfl) ?_
  refine fa_c (gf_X2_3 w_74 dX2_depthOf_3) ?_
  refine fa_c (s_li_n dX2_depthOf_6 rfl) ?_
  refine fa_c (s_ia dX2_depthOf_7) ?_
  refine fa_c (s_st_n dX2_depthOf_8 rfl (by decide)) ?_
  refine fa_c (s_li_n dX2_depthOf_9 rfl) ?_
  refine fa_c (s_la_n dX2_depthOf_10 rfl) ?_
  refine fa_c (gf_X2_0 w_71 dX2_depthOf_11) ?_
  refine fa_c (s_ic_ge dX2_depthOf_14 (by decide)) ?_
  refine fa_c (s_li_n dX2_depthOf_17 rfl) ?_
  refine fa_c (s_iconst dX2_depthOf_18 (by decide)) ?_
  refine fa_c (s_ic_eq dX2_depthOf_19 (by decide)) ?_
  refine fa_c (s_inc dX2_depthOf_22 (by decide) (by decide)) ?_
  refine fa_c (s_la_n dX2_depthOf_25 rfl) ?_
  refine fa_c (gf_X2_3 w_74 dX2_depthOf_26) ?_
  refine fa_c (s_li_n dX2_depthOf_29 rfl) ?_
  refine fa_c (s_ia dX2_depthOf_30) ?_
  refine fa_c (s_st_n dX2_depthOf_31 rfl (by decide)) ?_
  refine fa_c (s_go dX2_depthOf_32 (by decide)) ?_
  refine fa_c (s_li_n dX2_depthOf_35 rfl) ?_
  refine fa_c (s_ri dX2_depthOf_36 rfl) ?_
  exact fun e he => absurd he List.not_mem_nil
theorem cl_X2_depthOf {G : GX} (hAp : Ap G) : Cl1 (Ct G mts) n_X2_depthOf tb_X2_depthOf := ct_cl (y := n_X2_depthOf) (yn := yX2_depthOf) rfl (by decide +kernel) (ok_X2_depthOf hAp)
theorem dX2_sizeOf_0 : decode cX2_sizeOf 0 = .ok (.iconst 0, 1) := by decide +kernel
theorem dX2_sizeOf_1 : decode cX2_sizeOf 1 = .ok (.istore_n 2, 1) := by decide +kernel
theorem dX2_sizeOf_2 : decode cX2_sizeOf 2 = .ok (.iconst 0, 1) := by decide +kernel
theorem dX2_sizeOf_3 : decode cX2_sizeOf 3 = .ok (.istore_n 3, 1) := by decide +kernel
theorem dX2_sizeOf_4 : decode cX2_sizeOf 4 = .ok (.iload_n 3, 1) := by decide +kernel
theorem dX2_sizeOf_5 : decode cX2_sizeOf 5 = .ok (.aload_n 0, 1) := by decide +kernel
theorem dX2_sizeOf_6 : decode cX2_sizeOf 6 = .ok (.getfield 44, 3) := by decide +kernel
theorem dX2_sizeOf_9 : decode cX2_sizeOf 9 = .ok (.if_icmp .ge 30, 3) := by decide +kernel
theorem dX2_sizeOf_12 : decode cX2_sizeOf 12 = .ok (.aload_n 0, 1) := by decide +kernel
theorem dX2_sizeOf_13 : decode cX2_sizeOf 13 = .ok (.getfield 34, 3) := by decide +kernel
theorem dX2_sizeOf_16 : decode cX2_sizeOf 16 = .ok (.iload_n 3, 1) := by decide +kernel
theorem dX2_sizeOf_17 : decode cX2_sizeOf 17 = .ok (.baload, 1) := by decide +kernel
theorem dX2_sizeOf_18 : decode cX2_sizeOf 18 = .ok (.ifCond .eq 15, 3) := by decide +kernel
theorem dX2_sizeOf_21 : decode cX2_sizeOf 21 = .ok (.aload_n 0, 1) := by decide +kernel
theorem dX2_sizeOf_22 : decode cX2_sizeOf 22 = .ok (.iload_n 3, 1) := by decide +kernel
theorem dX2_sizeOf_23 : decode cX2_sizeOf 23 = .ok (.iload_n 1, 1) := by decide +kernel
theorem dX2_sizeOf_24 : decode cX2_sizeOf 24 = .ok (.invokevirtual 119, 3) := by decide +kernel
theorem dX2_sizeOf_27 : decode cX2_sizeOf 27 = .ok (.ifCond .eq 6, 3) := by decide +kernel
theorem dX2_sizeOf_30 : decode cX2_sizeOf 30 = .ok (.iinc 2 1, 3) := by decide +kernel
theorem dX2_sizeOf_33 : decode cX2_sizeOf 33 = .ok (.iinc 3 1, 3) := by decide +kernel
theorem dX2_sizeOf_36 : decode cX2_sizeOf 36 = .ok (.goto (-32), 3) := by decide +kernel
theorem dX2_sizeOf_39 : decode cX2_sizeOf 39 = .ok (.iload_n 2, 1) := by decide +kernel
theorem dX2_sizeOf_40 : decode cX2_sizeOf 40 = .ok (.ireturn, 1) := by decide +kernel
set_option maxRecDepth 100000 in
theorem ok_X2_sizeOf {G : GX} (hAp : Ap G) : ∀ d, ∀ e ∈ tb_X2_sizeOf, Snd G mts yX2_sizeOf.cls cX2_sizeOf 4 (some .int) d none e.1 e.2 := by
  intro d
  unfold tb_X2_sizeOf
  refine fa_c (s_iconst dX2_sizeOf_0 (by decide)) ?_
  refine fa_c (s_st_n dX2_sizeOf_1 rfl (by decide)) ?_
  refine fa_c (s_iconst dX2_sizeOf_2 (by decide)) ?_
  refine fa_c (s_st_n dX2_sizeOf_3 rfl (by decide)) ?_
  refine fa_c (s_li_n dX2_sizeOf_4 rfl) ?_
  refine fa_c (s_la_n dX2_sizeOf_5 rfl) ?_
  refine fa_c (gf_X2_10 w_81 dX2_sizeOf_6) ?_
  refine fa_c (s_ic_ge dX2_sizeOf_9 (by decide)) ?_
  refine fa_c (s_la_n dX2_sizeOf_12 rfl) ?_
  refine fa_c (gf_X2_7 w_78 dX2_sizeOf_13) ?_
  refine fa_c (s_li_n dX2_sizeOf_16 rfl) ?_
  refine fa_c (s_ba dX2_sizeOf_17) ?_
  refine fa_c (s_if_eq dX2_sizeOf_18 (by decide)) ?_
  refine fa_c (s_la_n dX2_sizeOf_21 rfl) ?_
  refine fa_c (s_li_n dX2_sizeOf_22 rfl) ?_
  refine fa_c (s_li_n dX2_sizeOf_23 rfl) ?_
  refine fa_c (s_cv mo_X2_isWithin co_X2 (by decide) (fun _ _ => ⟨_, rfl⟩) dX2_sizeOf_24 w_444 w_446 w_13 (by decide)) ?_
  refine fa_c (s_if_eq dX2_sizeOf_27 (by decide)) ?_
  refine fa_c (s_inc dX2_sizeOf_30 (by decide) (by decide)) ?_
  refine fa_c (s_inc dX2_sizeOf_33 (by decide) (by decide)) ?_
  refine fa_c (s_go dX2_sizeOf_36 (by decide)) ?_
  refine fa_c (s_li_n dX2_sizeOf_39 rfl) ?_
  refine fa_c (s_ri dX2_sizeOf_40 rfl) ?_
  exact fun e he => absurd he List.not_mem_nil
theorem cl_X2_sizeOf {G : GX} (hAp : Ap G) : Cl1 (Ct G mts) n_X2_sizeOf tb_X2_sizeOf := ct_cl (y := n_X2_sizeOf) (yn := yX2_sizeOf) rfl (by decide +kernel) (ok_X2_sizeOf hAp)
theorem dX2_isWithin_0 : decode cX2_isWithin 0 = .ok (.iload_n 1, 1) := by decide +kernel
theorem dX2_isWithin_1 : decode cX2_isWithin 1 = .ok (.istore_n 3, 1) := by decide +kernel
theorem dX2_isWithin_2 : decode cX2_isWithin 2 = .ok (.iconst 0, 1) := by decide +kernel
theorem dX2_isWithin_3 : decode cX2_isWithin 3 = .ok (.istore 4, 2) := by decide +kernel
theorem dX2_isWithin_5 : decode cX2_isWithin 5 = .ok (.iload 4, 2) := by decide +kernel
theorem dX2_isWithin_7 : decode cX2_isWithin 7 = .ok (.aload_n 0, 1) := by decide +kernel
theorem dX2_isWithin_8 : decode cX2_isWithin 8 = .ok (.getfield 9, 3) := by decide +kernel
theorem dX2_isWithin_11 : decode cX2_isWithin 11 = .ok (.if_icmp .ge 26, 3) := by decide +kernel
theorem dX2_isWithin_14 : decode cX2_isWithin 14 = .ok (.iload_n 3, 1) := by decide +kernel
theorem dX2_isWithin_15 : decode cX2_isWithin 15 = .ok (.iconst (-1), 1) := by decide +kernel
theorem dX2_isWithin_16 : decode cX2_isWithin 16 = .ok (.if_icmp .eq 21, 3) := by decide +kernel
theorem dX2_isWithin_19 : decode cX2_isWithin 19 = .ok (.iload_n 3, 1) := by decide +kernel
theorem dX2_isWithin_20 : decode cX2_isWithin 20 = .ok (.iload_n 2, 1) := by decide +kernel
theorem dX2_isWithin_21 : decode cX2_isWithin 21 = .ok (.if_icmp .eq 16, 3) := by decide +kernel
theorem dX2_isWithin_24 : decode cX2_isWithin 24 = .ok (.aload_n 0, 1) := by decide +kernel
theorem dX2_isWithin_25 : decode cX2_isWithin 25 = .ok (.getfield 22, 3) := by decide +kernel
theorem dX2_isWithin_28 : decode cX2_isWithin 28 = .ok (.iload_n 3, 1) := by decide +kernel
theorem dX2_isWithin_29 : decode cX2_isWithin 29 = .ok (.iaload, 1) := by decide +kernel
theorem dX2_isWithin_30 : decode cX2_isWithin 30 = .ok (.istore_n 3, 1) := by decide +kernel
theorem dX2_isWithin_31 : decode cX2_isWithin 31 = .ok (.iinc 4 1, 3) := by decide +kernel
theorem dX2_isWithin_34 : decode cX2_isWithin 34 = .ok (.goto (-29), 3) := by decide +kernel
theorem dX2_isWithin_37 : decode cX2_isWithin 37 = .ok (.iload_n 3, 1) := by decide +kernel
theorem dX2_isWithin_38 : decode cX2_isWithin 38 = .ok (.iload_n 2, 1) := by decide +kernel
theorem dX2_isWithin_39 : decode cX2_isWithin 39 = .ok (.if_icmp .ne 7, 3) := by decide +kernel
theorem dX2_isWithin_42 : decode cX2_isWithin 42 = .ok (.iconst 1, 1) := by decide +kernel
theorem dX2_isWithin_43 : decode cX2_isWithin 43 = .ok (.goto 4, 3) := by decide +kernel
theorem dX2_isWithin_46 : decode cX2_isWithin 46 = .ok (.iconst 0, 1) := by decide +kernel
theorem dX2_isWithin_47 : decode cX2_isWithin 47 = .ok (.ireturn, 1) := by decide +kernel
set_option maxRecDepth 100000 in
theorem ok_X2_isWithin {G : GX} (hAp : Ap G) : ∀ d, ∀ e ∈ tb_X2_isWithin, Snd G mts yX2_isWithin.cls cX2_isWithin 5 (some .boolean) d none e.1 e.2 := by
  intro d
  unfold tb_X2_isWithin
  refine fa_c (s_li_n dX2_isWithin_0 rfl) ?_
  refine fa_c (s_st_n dX2_isWithin_1 rfl (by decide)) ?_
  refine fa_c (s_iconst dX2_isWithin_2 (by decide)) ?_
  refine fa_c (s_st dX2_isWithin_3 (by decide)) ?_
  refine fa_c (s_li dX2_isWithin_5) ?_
  refine fa_c (s_la_n dX2_isWithin_7 rfl) ?_
  refine fa_c (gf_X2_0 w_71 dX2_isWithin_8) ?_
  refine fa_c (s_ic_ge dX2_isWithin_11 (by decide)) ?_
  refine fa_c (s_li_n dX2_isWithin_14 rfl) ?_
  refine fa_c (s_iconst dX2_isWithin_15 (by decide)) ?_
  refine fa_c (s_ic_eq dX2_isWithin_16 (by decide)) ?_
  refine fa_c (s_li_n dX2_isWithin_19 rfl) ?_
  refine fa_c (s_li_n dX2_isWithin_20 rfl) ?_
  refine fa_c (s_ic_eq dX2_isWithin_21 (by decide)) ?_
  refine fa_c (s_la_n dX2_isWithin_24 rfl) ?_
  refine fa_c (gf_X2_3 w_74 dX2_isWithin_25) ?_
  refine fa_c (s_li_n dX2_isWithin_28 rfl) ?_
  refine fa_c (s_ia dX2_isWithin_29) ?_
  refine fa_c (s_st_n dX2_isWithin_30 rfl (by decide)) ?_
  refine fa_c (s_inc dX2_isWithin_31 (by decide) (by decide)) ?_
  refine fa_c (s_go dX2_isWithin_34 (by decide)) ?_
  refine fa_c (s_li_n dX2_isWithin_37 rfl) ?_
  refine fa_c (s_li_n dX2_isWithin_38 rfl) ?_
  refine fa_c (s_ic_ne dX2_isWithin_39 (by decide)) ?_
  refine fa_c (s_iconst dX2_isWithin_42 (by decide)) ?_
  refine fa_c (s_go dX2_isWithin_43 (by decide)) ?_
  refine fa_c (s_iconst dX2_isWithin_46 (by decide)) ?_
  refine fa_c (s_rz dX2_isWithin_47 rfl) ?_
  exact fun e he => absurd he List.not_mem_nil
theorem cl_X2_isWithin {G : GX} (hAp : Ap G) : Cl1 (Ct G mts) n_X2_isWithin tb_X2_isWithin := ct_cl (y := n_X2_isWithin) (yn := yX2_isWithin) rfl (by decide +kernel) (ok_X2_isWithin hAp)
theorem dX2_childAt_0 : decode cX2_childAt 0 = .ok (.iload_n 2, 1) := by decide +kernel
theorem dX2_childAt_1 : decode cX2_childAt 1 = .ok (.aload_n 0, 1) := by decide +kernel
theorem dX2_childAt_2 : decode cX2_childAt 2 = .ok (.getfield 25, 3) := by decide +kernel
theorem dX2_childAt_5 : decode cX2_childAt 5 = .ok (.iload_n 1, 1) := by decide +kernel
theorem dX2_childAt_6 : decode cX2_childAt 6 = .ok (.iaload, 1) := by decide +kernel
theorem dX2_childAt_7 : decode cX2_childAt 7 = .ok (.if_icmp .lt 5, 3) := by decide +kernel
theorem dX2_childAt_10 : decode cX2_childAt 10 = .ok (.iconst (-1), 1) := by decide +kernel
theorem dX2_childAt_11 : decode cX2_childAt 11 = .ok (.ireturn, 1) := by decide +kernel
theorem dX2_childAt_12 : decode cX2_childAt 12 = .ok (.aload_n 0, 1) := by decide +kernel
theorem dX2_childAt_13 : decode cX2_childAt 13 = .ok (.getfield 28, 3) := by decide +kernel
theorem dX2_childAt_16 : decode cX2_childAt 16 = .ok (.iload_n 1, 1) := by decide +kernel
theorem dX2_childAt_17 : decode cX2_childAt 17 = .ok (.iaload, 1) := by decide +kernel
theorem dX2_childAt_18 : decode cX2_childAt 18 = .ok (.istore_n 3, 1) := by decide +kernel
theorem dX2_childAt_19 : decode cX2_childAt 19 = .ok (.iconst 0, 1) := by decide +kernel
theorem dX2_childAt_20 : decode cX2_childAt 20 = .ok (.istore 4, 2) := by decide +kernel
theorem dX2_childAt_22 : decode cX2_childAt 22 = .ok (.iload 4, 2) := by decide +kernel
theorem dX2_childAt_24 : decode cX2_childAt 24 = .ok (.iload_n 2, 1) := by decide +kernel
theorem dX2_childAt_25 : decode cX2_childAt 25 = .ok (.if_icmp .ge 21, 3) := by decide +kernel
theorem dX2_childAt_28 : decode cX2_childAt 28 = .ok (.iload_n 3, 1) := by decide +kernel
theorem dX2_childAt_29 : decode cX2_childAt 29 = .ok (.iconst (-1), 1) := by decide +kernel
theorem dX2_childAt_30 : decode cX2_childAt 30 = .ok (.if_icmp .eq 16, 3) := by decide +kernel
theorem dX2_childAt_33 : decode cX2_childAt 33 = .ok (.aload_n 0, 1) := by decide +kernel
theorem dX2_childAt_34 : decode cX2_childAt 34 = .ok (.getfield 31, 3) := by decide +kernel
theorem dX2_childAt_37 : decode cX2_childAt 37 = .ok (.iload_n 3, 1) := by decide +kernel
theorem dX2_childAt_38 : decode cX2_childAt 38 = .ok (.iaload, 1) := by decide +kernel
theorem dX2_childAt_39 : decode cX2_childAt 39 = .ok (.istore_n 3, 1) := by decide +kernel
theorem dX2_childAt_40 : decode cX2_childAt 40 = .ok (.iinc 4 1, 3) := by decide +kernel
theorem dX2_childAt_43 : decode cX2_childAt 43 = .ok (.goto (-21), 3) := by decide +kernel
theorem dX2_childAt_46 : decode cX2_childAt 46 = .ok (.iload_n 3, 1) := by decide +kernel
theorem dX2_childAt_47 : decode cX2_childAt 47 = .ok (.ireturn, 1) := by decide +kernel
set_option maxRecDepth 100000 in
theorem ok_X2_childAt {G : GX} (hAp : Ap G) : ∀ d, ∀ e ∈ tb_X2_childAt, Snd G mts yX2_childAt.cls cX2_childAt 5 (some .int) d none e.1 e.2 := by
  intro d
  unfold tb_X2_childAt
  refine fa_c (s_li_n dX2_childAt_0 rfl) ?_
  refine fa_c (s_la_n dX2_childAt_1 rfl) ?_
  refine fa_c (gf_X2_4 w_75 dX2_childAt_2) ?_
  refine fa_c (s_li_n dX2_childAt_5 rfl) ?_
  refine fa_c (s_ia dX2_childAt_6) ?_
  refine fa_c (s_ic_lt dX2_childAt_7 (by decide)) ?_
  refine fa_c (s_iconst dX2_childAt_10 (by decide)) ?_
  refine fa_c (s_ri dX2_childAt_11 rfl) ?_
  refine fa_c (s_la_n dX2_childAt_12 rfl) ?_
  refine fa_c (gf_X2_5 w_76 dX2_childAt_13) ?_
  refine fa_c (s_li_n dX2_childAt_16 rfl) ?_
  refine fa_c (s_ia dX2_childAt_17) ?_
  refine fa_c (s_st_n dX2_childAt_18 rfl (by decide)) ?_
  refine fa_c (s_iconst dX2_childAt_19 (by decide)) ?_
  refine fa_c (s_st dX2_childAt_20 (by decide)) ?_
  refine fa_c (s_li dX2_childAt_22) ?_
  refine fa_c (s_li_n dX2_childAt_24 rfl) ?_
  refine fa_c (s_ic_ge dX2_childAt_25 (by decide)) ?_
  refine fa_c (s_li_n dX2_childAt_28 rfl) ?_
  refine fa_c (s_iconst dX2_childAt_29 (by decide)) ?_
  refine fa_c (s_ic_eq dX2_childAt_30 (by decide)) ?_
  refine fa_c (s_la_n dX2_childAt_33 rfl) ?_
  refine fa_c (gf_X2_6 w_77 dX2_childAt_34) ?_
  refine fa_c (s_li_n dX2_childAt_37 rfl) ?_
  refine fa_c (s_ia dX2_childAt_38) ?_
  refine fa_c (s_st_n dX2_childAt_39 rfl (by decide)) ?_
  refine fa_c (s_inc dX2_childAt_40 (by decide) (by decide)) ?_
  refine fa_c (s_go dX2_childAt_43 (by decide)) ?_
  refine fa_c (s_li_n dX2_childAt_46 rfl) ?_
  refine fa_c (s_ri dX2_childAt_47 rfl) ?_
  exact fun e he => absurd he List.not_mem_nil
theorem cl_X2_childAt {G : GX} (hAp : Ap G) : Cl1 (Ct G mts) n_X2_childAt tb_X2_childAt := ct_cl (y := n_X2_childAt) (yn := yX2_childAt) rfl (by decide +kernel) (ok_X2_childAt hAp)
theorem dX2_sumOfKeys_0 : decode cX2_sumOfKeys 0 = .ok (.iconst 0, 1) := by decide +kernel
theorem dX2_sumOfKeys_1 : decode cX2_sumOfKeys 1 = .ok (.istore_n 1, 1) := by decide +kernel
theorem dX2_sumOfKeys_2 : decode cX2_sumOfKeys 2 = .ok (.iconst 0, 1) := by decide +kernel
theorem dX2_sumOfKeys_3 : decode cX2_sumOfKeys 3 = .ok (.istore_n 2, 1) := by decide +kernel
theorem dX2_sumOfKeys_4 : decode cX2_sumOfKeys 4 = .ok (.iload_n 2, 1) := by decide +kernel
theorem dX2_sumOfKeys_5 : decode cX2_sumOfKeys 5 = .ok (.aload_n 0, 1) := by decide +kernel
theorem dX2_sumOfKeys_6 : decode cX2_sumOfKeys 6 = .ok (.getfield 44, 3) := by decide +kernel
theorem dX2_sumOfKeys_9 : decode cX2_sumOfKeys 9 = .ok (.if_icmp .ge 27, 3) := by decide +kernel
theorem dX2_sumOfKeys_12 : decode cX2_sumOfKeys 12 = .ok (.aload_n 0, 1) := by decide +kernel
theorem dX2_sumOfKeys_13 : decode cX2_sumOfKeys 13 = .ok (.getfield 34, 3) := by decide +kernel
theorem dX2_sumOfKeys_16 : decode cX2_sumOfKeys 16 = .ok (.iload_n 2, 1) := by decide +kernel
theorem dX2_sumOfKeys_17 : decode cX2_sumOfKeys 17 = .ok (.baload, 1) := by decide +kernel
theorem dX2_sumOfKeys_18 : decode cX2_sumOfKeys 18 = .ok (.ifCond .eq 12, 3) := by decide +kernel
theorem dX2_sumOfKeys_21 : decode cX2_sumOfKeys 21 = .ok (.iload_n 1, 1) := by decide +kernel
theorem dX2_sumOfKeys_22 : decode cX2_sumOfKeys 22 = .ok (.aload_n 0, 1) := by decide +kernel
theorem dX2_sumOfKeys_23 : decode cX2_sumOfKeys 23 = .ok (.getfield 19, 3) := by decide +kernel
theorem dX2_sumOfKeys_26 : decode cX2_sumOfKeys 26 = .ok (.iload_n 2, 1) := by decide +kernel
theorem dX2_sumOfKeys_27 : decode cX2_sumOfKeys 27 = .ok (.iaload, 1) := by decide +kernel
theorem dX2_sumOfKeys_28 : decode cX2_sumOfKeys 28 = .ok (.iadd, 1) := by decide +kernel
theorem dX2_sumOfKeys_29 : decode cX2_sumOfKeys 29 = .ok (.istore_n 1, 1) := by decide +kernel
theorem dX2_sumOfKeys_30 : decode cX2_sumOfKeys 30 = .ok (.iinc 2 1, 3) := by decide +kernel
theorem dX2_sumOfKeys_33 : decode cX2_sumOfKeys 33 = .ok (.goto (-29), 3) := by decide +kernel
theorem dX2_sumOfKeys_36 : decode cX2_sumOfKeys 36 = .ok (.iload_n 1, 1) := by decide +kernel
theorem dX2_sumOfKeys_37 : decode cX2_sumOfKeys 37 = .ok (.ireturn, 1) := by decide +kernel
set_option maxRecDepth 100000 in
theorem ok_X2_sumOfKeys {G : GX} (hAp : Ap G) : ∀ d, ∀ e ∈ tb_X2_sumOfKeys, Snd G mts yX2_sumOfKeys.cls cX2_sumOfKeys 3 (some .int) d none e.1 e.2 := by
  intro d
  unfold tb_X2_sumOfKeys
  refine fa_c (s_iconst dX2_sumOfKeys_0 (by decide)) ?_
  refine fa_c (s_st_n dX2_sumOfKeys_1 rfl (by decide)) ?_
  refine fa_c (s_iconst dX2_sumOfKeys_2 (by decide)) ?_
  refine fa_c (s_st_n dX2_sumOfKeys_3 rfl (by decide)) ?_
  refine fa_c (s_li_n dX2_sumOfKeys_4 rfl) ?_
  refine fa_c (s_la_n dX2_sumOfKeys_5 rfl) ?_
  refine fa_c (gf_X2_10 w_81 dX2_sumOfKeys_6) ?_
  refine fa_c (s_ic_ge dX2_sumOfKeys_9 (by decide)) ?_
  refine fa_c (s_la_n dX2_sumOfKeys_12 rfl) ?_
  refine fa_c (gf_X2_7 w_78 dX2_sumOfKeys_13) ?_
  refine fa_c (s_li_n dX2_sumOfKeys_16 rfl) ?_
  refine fa_c (s_ba dX2_sumOfKeys_17) ?_
  refine fa_c (s_if_eq dX2_sumOfKeys_18 (by decide)) ?_
  refine fa_c (s_li_n dX2_sumOfKeys_21 rfl) ?_
  refine fa_c (s_la_n dX2_sumOfKeys_22 rfl) ?_
  refine fa_c (gf_X2_2 w_73 dX2_sumOfKeys_23) ?_
  refine fa_c (s_li_n dX2_sumOfKeys_26 rfl) ?_
  refine fa_c (s_ia dX2_sumOfKeys_27) ?_
  refine fa_c (s_i_add dX2_sumOfKeys_28) ?_
  refine fa_c (s_st_n dX2_sumOfKeys_29 rfl (by decide)) ?_
  refine fa_c (s_inc dX2_sumOfKeys_30 (by decide) (by decide)) ?_
  refine fa_c (s_go dX2_sumOfKeys_33 (by decide)) ?_
  refine fa_c (s_li_n dX2_sumOfKeys_36 rfl) ?_
  refine fa_c (s_ri dX2_sumOfKeys_37 rfl) ?_
  exact fun e he => absurd he List.not_mem_nil
theorem cl_X2_sumOfKeys {G : GX} (hAp : Ap G) : Cl1 (Ct G mts) n_X2_sumOfKeys tb_X2_sumOfKeys := ct_cl (y := n_X2_sumOfKeys) (yn := yX2_sumOfKeys) rfl (by decide +kernel) (ok_X2_sumOfKeys hAp)
theorem dX3_isKept_0 : decode cX3_isKept 0 = .ok (.aload_n 0, 1) := by decide +kernel
theorem dX3_isKept_1 : decode cX3_isKept 1 = .ok (.getfield 27, 3) := by decide +kernel
theorem dX3_isKept_4 : decode cX3_isKept 4 = .ok (.ireturn, 1) := by decide +kernel
set_option maxRecDepth 100000 in
theorem ok_X3_isKept {G : GX} (hAp : Ap G) : ∀ d, ∀ e ∈ tb_X3_isKept, Snd G mts yX3_isKept.cls cX3_isKept 1 (some .boolean) d none e.1 e.2 := by
  intro d
  unfold tb_X3_isKept
  refine fa_c (s_la_n dX3_isKept_0 rfl) ?_
  refine fa_c (gf_X3_2 w_188 dX3_isKept_1) ?_
  refine fa_c (s_rz dX3_isKept_4 rfl) ?_
  exact fun e he => absurd he List.not_mem_nil
theorem cl_X3_isKept {G : GX} (hAp : Ap G) : Cl1 (Ct G mts) n_X3_isKept tb_X3_isKept := ct_cl (y := n_X3_isKept) (yn := yX3_isKept) rfl (by decide +kernel) (ok_X3_isKept hAp)
theorem dX3_store_0 : decode cX3_store 0 = .ok (.aload_n 0, 1) := by decide +kernel
theorem dX3_store_1 : decode cX3_store 1 = .ok (.getfield 14, 3) := by decide +kernel
theorem dX3_store_4 : decode cX3_store 4 = .ok (.aload_n 1, 1) := by decide +kernel
theorem dX3_store_5 : decode cX3_store 5 = .ok (.invokevirtual 31, 3) := by decide +kernel
theorem dX3_store_8 : decode cX3_store 8 = .ok (.aload_n 0, 1) := by decide +kernel
theorem dX3_store_9 : decode cX3_store 9 = .ok (.getfield 23, 3) := by decide +kernel
theorem dX3_store_12 : decode cX3_store 12 = .ok (.aload_n 2, 1) := by decide +kernel
theorem dX3_store_13 : decode cX3_store 13 = .ok (.invokevirtual 35, 3) := by decide +kernel
theorem dX3_store_16 : decode cX3_store 16 = .ok (.aload_n 0, 1) := by decide +kernel
theorem dX3_store_17 : decode cX3_store 17 = .ok (.iconst 1, 1) := by decide +kernel
theorem dX3_store_18 : decode cX3_store 18 = .ok (.putfield 27, 3) := by decide +kernel
theorem dX3_store_21 : decode cX3_store 21 = .ok (.return_, 1) := by decide +kernel
set_option maxRecDepth 100000 in
theorem ok_X3_store {G : GX} (hAp : Ap G) : ∀ d, ∀ e ∈ tb_X3_store, Snd G mts yX3_store.cls cX3_store 3 (none) d none e.1 e.2 := by
  intro d
  unfold tb_X3_store
  refine fa_c (s_la_n dX3_store_0 rfl) ?_
  refine fa_c (gf_X3_0 w_186 dX3_store_1) ?_
  refine fa_c (s_la_n dX3_store_4 rfl) ?_
  refine fa_c (s_cv mo_X2_copyFrom co_X2 (by decide) (fun _ _ => ⟨_, rfl⟩) dX3_store_5 w_601 w_602 w_603 (by decide)) ?_
  refine fa_c (s_la_n dX3_store_8 rfl) ?_
  refine fa_c (gf_X3_1 w_187 dX3_store_9) ?_
  refine fa_c (s_la_n dX3_store_12 rfl) ?_
  refine fa_c (s_cv mo_X0_copyFrom co_X0 (by decide) (fun _ _ => ⟨_, rfl⟩) dX3_store_13 w_608 w_609 w_610 (by decide)) ?_
  refine fa_c (s_la_n dX3_store_16 rfl) ?_
  refine fa_c (s_iconst dX3_store_17 (by decide)) ?_
  refine fa_c (pf_X3_2 hAp w_188 dX3_store_18) ?_
  refine fa_c (s_rv dX3_store_21 rfl) ?_
  exact fun e he => absurd he List.not_mem_nil
theorem cl_X3_store {G : GX} (hAp : Ap G) : Cl1 (Ct G mts) n_X3_store tb_X3_store := ct_cl (y := n_X3_store) (yn := yX3_store) rfl (by decide +kernel) (ok_X3_store hAp)
theorem dX3_restore_0 : decode cX3_restore 0 = .ok (.aload_n 1, 1) := by decide +kernel
theorem dX3_restore_1 : decode cX3_restore 1 = .ok (.aload_n 0, 1) := by decide +kernel
theorem dX3_restore_2 : decode cX3_restore 2 = .ok (.getfield 14, 3) := by decide +kernel
theorem dX3_restore_5 : decode cX3_restore 5 = .ok (.invokevirtual 31, 3) := by decide +kernel
theorem dX3_restore_8 : decode cX3_restore 8 = .ok (.aload_n 2, 1) := by decide +kernel
theorem dX3_restore_9 : decode cX3_restore 9 = .ok (.aload_n 0, 1) := by decide +kernel
theorem dX3_restore_10 : decode cX3_restore 10 = .ok (.getfield 23, 3) := by decide +kernel
theorem dX3_restore_13 : decode cX3_restore 13 = .ok (.invokevirtual 35, 3) := by decide +kernel
theorem dX3_restore_16 : decode cX3_restore 16 = .ok (.return_, 1) := by decide +kernel
set_option maxRecDepth 100000 in
theorem ok_X3_restore {G : GX} (hAp : Ap G) : ∀ d, ∀ e ∈ tb_X3_restore, Snd G mts yX3_restore.cls cX3_restore 3 (none) d none e.1 e.2 := by
  intro d
  unfold tb_X3_restore
  refine fa_c (s_la_n dX3_restore_0 rfl) ?_
  refine fa_c (s_la_n dX3_restore_1 rfl) ?_
  refine fa_c (gf_X3_0 w_186 dX3_restore_2) ?_
  refine fa_c (s_cv mo_X2_copyFrom co_X2 (by decide) (fun _ _ => ⟨_, rfl⟩) dX3_restore_5 w_601 w_602 w_603 (by decide)) ?_
  refine fa_c (s_la_n dX3_restore_8 rfl) ?_
  refine fa_c (s_la_n dX3_restore_9 rfl) ?_
  refine fa_c (gf_X3_1 w_187 dX3_restore_10) ?_
  refine fa_c (s_cv mo_X0_copyFrom co_X0 (by decide) (fun _ _ => ⟨_, rfl⟩) dX3_restore_13 w_608 w_609 w_610 (by decide)) ?_
  refine fa_c (s_rv dX3_restore_16 rfl) ?_
  exact fun e he => absurd he List.not_mem_nil
theorem cl_X3_restore {G : GX} (hAp : Ap G) : Cl1 (Ct G mts) n_X3_restore tb_X3_restore := ct_cl (y := n_X3_restore) (yn := yX3_restore) rfl (by decide +kernel) (ok_X3_restore hAp)
theorem dX4_begin_0 : decode cX4_begin 0 = .ok (.aload_n 0, 1) := by decide +kernel
theorem dX4_begin_1 : decode cX4_begin 1 = .ok (.iload_n 1, 1) := by decide +kernel
theorem dX4_begin_2 : decode cX4_begin 2 = .ok (.i2l, 1) := by decide +kernel
theorem dX4_begin_3 : decode cX4_begin 3 = .ok (.putfield 7, 3) := by decide +kernel
theorem dX4_begin_6 : decode cX4_begin 6 = .ok (.return_, 1) := by decide +kernel
set_option maxRecDepth 100000 in
theorem ok_X4_begin {G : GX} (hAp : Ap G) : ∀ d, ∀ e ∈ tb_X4_begin, Snd G mts yX4_begin.cls cX4_begin 2 (none) d none e.1 e.2 := by
  intro d
  unfold tb_X4_begin
  refine fa_c (s_la_n dX4_begin_0 rfl) ?_
  refine fa_c (s_li_n dX4_begin_1 rfl) ?_
  refine fa_c (s_i_2l dX4_begin_2) ?_
  refine fa_c (pf_X4_0 hAp w_171 dX4_begin_3) ?_
  refine fa_c (s_rv dX4_begin_6 rfl) ?_
  exact fun e he => absurd he List.not_mem_nil
theorem cl_X4_begin {G : GX} (hAp : Ap G) : Cl1 (Ct G mts) n_X4_begin tb_X4_begin := ct_cl (y := n_X4_begin) (yn := yX4_begin) rfl (by decide +kernel) (ok_X4_begin hAp)
theorem dX4_draw_0 : decode cX4_draw 0 = .ok (.aload_n 0, 1) := by decide +kernel
theorem dX4_draw_1 : decode cX4_draw 1 = .ok (.aload_n 0, 1) := by decide +kernel
theorem dX4_draw_2 : decode cX4_draw 2 = .ok (.getfield 7, 3) := by decide +kernel
theorem dX4_draw_5 : decode cX4_draw 5 = .ok (.ldc2_w 13, 3) := by decide +kernel
theorem dX4_draw_8 : decode cX4_draw 8 = .ok (.lmul, 1) := by decide +kernel
theorem dX4_draw_9 : decode cX4_draw 9 = .ok (.ldc2_w 15, 3) := by decide +kernel
theorem dX4_draw_12 : decode cX4_draw 12 = .ok (.lrem, 1) := by decide +kernel
theorem dX4_draw_13 : decode cX4_draw 13 = .ok (.putfield 7, 3) := by decide +kernel
theorem dX4_draw_16 : decode cX4_draw 16 = .ok (.iload_n 1, 1) := by decide +kernel
theorem dX4_draw_17 : decode cX4_draw 17 = .ok (.iconst 1, 1) := by decide +kernel
theorem dX4_draw_18 : decode cX4_draw 18 = .ok (.if_icmp .ge 7, 3) := by decide +kernel
theorem dX4_draw_21 : decode cX4_draw 21 = .ok (.iconst 0, 1) := by decide +kernel
theorem dX4_draw_22 : decode cX4_draw 22 = .ok (.goto 11, 3) := by decide +kernel
theorem dX4_draw_25 : decode cX4_draw 25 = .ok (.aload_n 0, 1) := by decide +kernel
theorem dX4_draw_26 : decode cX4_draw 26 = .ok (.getfield 7, 3) := by decide +kernel
theorem dX4_draw_29 : decode cX4_draw 29 = .ok (.iload_n 1, 1) := by decide +kernel
theorem dX4_draw_30 : decode cX4_draw 30 = .ok (.i2l, 1) := by decide +kernel
theorem dX4_draw_31 : decode cX4_draw 31 = .ok (.lrem, 1) := by decide +kernel
theorem dX4_draw_32 : decode cX4_draw 32 = .ok (.l2i, 1) := by decide +kernel
theorem dX4_draw_33 : decode cX4_draw 33 = .ok (.ireturn, 1) := by decide +kernel
set_option maxRecDepth 100000 in
theorem ok_X4_draw {G : GX} (hAp : Ap G) : ∀ d, ∀ e ∈ tb_X4_draw, Snd G mts yX4_draw.cls cX4_draw 2 (some .int) d none e.1 e.2 := by
  intro d
  unfold tb_X4_draw
  refine fa_c (s_la_n dX4_draw_0 rfl) ?_
  refine fa_c (s_la_n dX4_draw_1 rfl) ?_
  refine fa_c (gf_X4_0 w_171 dX4_draw_2) ?_
  refine fa_c (s_ldc2 dX4_draw_5 w_362) ?_
  refine fa_c (s_l_mul dX4_draw_8) ?_
  refine fa_c (s_ldc2 dX4_draw_9 w_363) ?_
  refine fa_c (s_l_rem dX4_draw_12) ?_
  refine fa_c (pf_X4_0 hAp w_171 dX4_draw_13) ?_
  refine fa_c (s_li_n dX4_draw_16 rfl) ?_
  refine fa_c (s_iconst dX4_draw_17 (by decide)) ?_
  refine fa_c (s_ic_ge dX4_draw_18 (by decide)) ?_
  refine fa_c (s_iconst dX4_draw_21 (by decide)) ?_
  refine fa_c (s_go dX4_draw_22 (by decide)) ?_
  refine fa_c (s_la_n dX4_draw_25 rfl) ?_
  refine fa_c (gf_X4_0 w_171 dX4_draw_26) ?_
  refine fa_c (s_li_n dX4_draw_29 rfl) ?_
  refine fa_c (s_i_2l dX4_draw_30) ?_
  refine fa_c (s_l_rem dX4_draw_31) ?_
  refine fa_c (s_l_2i dX4_draw_32) ?_
  refine fa_c (s_ri dX4_draw_33 rfl) ?_
  exact fun e he => absurd he List.not_mem_nil
theorem cl_X4_draw {G : GX} (hAp : Ap G) : Cl1 (Ct G mts) n_X4_draw tb_X4_draw := ct_cl (y := n_X4_draw) (yn := yX4_draw) rfl (by decide +kernel) (ok_X4_draw hAp)
theorem dX5_layOut_0 : decode cX5_layOut 0 = .ok (.aload_n 0, 1) := by decide +kernel
theorem dX5_layOut_1 : decode cX5_layOut 1 = .ok (.iload_n 1, 1) := by decide +kernel
theorem dX5_layOut_2 : decode cX5_layOut 2 = .ok (.putfield 33, 3) := by decide +kernel
theorem dX5_layOut_5 : decode cX5_layOut 5 = .ok (.aload_n 0, 1) := by decide +kernel
theorem dX5_layOut_6 : decode cX5_layOut 6 = .ok (.iconst 0, 1) := by decide +kernel
theorem dX5_layOut_7 : decode cX5_layOut 7 = .ok (.putfield 37, 3) := by decide +kernel
theorem dX5_layOut_10 : decode cX5_layOut 10 = .ok (.return_, 1) := by decide +kernel
set_option maxRecDepth 100000 in
theorem ok_X5_layOut {G : GX} (hAp : Ap G) : ∀ d, ∀ e ∈ tb_X5_layOut, Snd G mts yX5_layOut.cls cX5_layOut 2 (none) d none e.1 e.2 := by
  intro d
  unfold tb_X5_layOut
  refine fa_c (s_la_n dX5_layOut_0 rfl) ?_
  refine fa_c (s_li_n dX5_layOut_1 rfl) ?_
  refine fa_c (pf_X5_5 hAp w_145 dX5_layOut_2) ?_
  refine fa_c (s_la_n dX5_layOut_5 rfl) ?_
  refine fa_c (s_iconst dX5_layOut_6 (by decide)) ?_
  refine fa_c (pf_X5_6 hAp w_146 dX5_layOut_7) ?_
  refine fa_c (s_rv dX5_layOut_10 rfl) ?_
  exact fun e he => absurd he List.not_mem_nil
theorem cl_X5_layOut {G : GX} (hAp : Ap G) : Cl1 (Ct G mts) n_X5_layOut tb_X5_layOut := ct_cl (y := n_X5_layOut) (yn := yX5_layOut) rfl (by decide +kernel) (ok_X5_layOut hAp)
theorem dX5_hasRoom_0 : decode cX5_hasRoom 0 = .ok (.aload_n 0, 1) := by decide +kernel
theorem dX5_hasRoom_1 : decode cX5_hasRoom 1 = .ok (.getfield 37, 3) := by decide +kernel
theorem dX5_hasRoom_4 : decode cX5_hasRoom 4 = .ok (.bipush 14, 2) := by decide +kernel
theorem dX5_hasRoom_6 : decode cX5_hasRoom 6 = .ok (.if_icmp .ge 7, 3) := by decide +kernel
theorem dX5_hasRoom_9 : decode cX5_hasRoom 9 = .ok (.iconst 1, 1) := by decide +kernel
theorem dX5_hasRoom_10 : decode cX5_hasRoom 10 = .ok (.goto 4, 3) := by decide +kernel
theorem dX5_hasRoom_13 : decode cX5_hasRoom 13 = .ok (.iconst 0, 1) := by decide +kernel
theorem dX5_hasRoom_14 : decode cX5_hasRoom 14 = .ok (.ireturn, 1) := by decide +kernel
set_option maxRecDepth 100000 in
theorem ok_X5_hasRoom {G : GX} (hAp : Ap G) : ∀ d, ∀ e ∈ tb_X5_hasRoom, Snd G mts yX5_hasRoom.cls cX5_hasRoom 1 (some .boolean) d none e.1 e.2 := by
  intro d
  unfold tb_X5_hasRoom
  refine fa_c (s_la_n dX5_hasRoom_0 rfl) ?_
  refine fa_c (gf_X5_6 w_146 dX5_hasRoom_1) ?_
  refine fa_c (s_bipush dX5_hasRoom_4 (by decide)) ?_
  refine fa_c (s_ic_ge dX5_hasRoom_6 (by decide)) ?_
  refine fa_c (s_iconst dX5_hasRoom_9 (by decide)) ?_
  refine fa_c (s_go dX5_hasRoom_10 (by decide)) ?_
  refine fa_c (s_iconst dX5_hasRoom_13 (by decide)) ?_
  refine fa_c (s_rz dX5_hasRoom_14 rfl) ?_
  exact fun e he => absurd he List.not_mem_nil
theorem cl_X5_hasRoom {G : GX} (hAp : Ap G) : Cl1 (Ct G mts) n_X5_hasRoom tb_X5_hasRoom := ct_cl (y := n_X5_hasRoom) (yn := yX5_hasRoom) rfl (by decide +kernel) (ok_X5_hasRoom hAp)
theorem dX5_hasPlace_0 : decode cX5_hasPlace 0 = .ok (.iload_n 1, 1) := by decide +kernel
theorem dX5_hasPlace_1 : decode cX5_hasPlace 1 = .ok (.ifCond .lt 15, 3) := by decide +kernel
theorem dX5_hasPlace_4 : decode cX5_hasPlace 4 = .ok (.iload_n 1, 1) := by decide +kernel
theorem dX5_hasPlace_5 : decode cX5_hasPlace 5 = .ok (.aload_n 0, 1) := by decide +kernel
theorem dX5_hasPlace_6 : decode cX5_hasPlace 6 = .ok (.getfield 33, 3) := by decide +kernel
theorem dX5_hasPlace_9 : decode cX5_hasPlace 9 = .ok (.if_icmp .ge 7, 3) := by decide +kernel
theorem dX5_hasPlace_12 : decode cX5_hasPlace 12 = .ok (.iconst 1, 1) := by decide +kernel
theorem dX5_hasPlace_13 : decode cX5_hasPlace 13 = .ok (.goto 4, 3) := by decide +kernel
theorem dX5_hasPlace_16 : decode cX5_hasPlace 16 = .ok (.iconst 0, 1) := by decide +kernel
theorem dX5_hasPlace_17 : decode cX5_hasPlace 17 = .ok (.ireturn, 1) := by decide +kernel
set_option maxRecDepth 100000 in
theorem ok_X5_hasPlace {G : GX} (hAp : Ap G) : ∀ d, ∀ e ∈ tb_X5_hasPlace, Snd G mts yX5_hasPlace.cls cX5_hasPlace 2 (some .boolean) d none e.1 e.2 := by
  intro d
  unfold tb_X5_hasPlace
  refine fa_c (s_li_n dX5_hasPlace_0 rfl) ?_
  refine fa_c (s_if_lt dX5_hasPlace_1 (by decide)) ?_
  refine fa_c (s_li_n dX5_hasPlace_4 rfl) ?_
  refine fa_c (s_la_n dX5_hasPlace_5 rfl) ?_
  refine fa_c (gf_X5_5 w_145 dX5_hasPlace_6) ?_
  refine fa_c (s_ic_ge dX5_hasPlace_9 (by decide)) ?_
  refine fa_c (s_iconst dX5_hasPlace_12 (by decide)) ?_
  refine fa_c (s_go dX5_hasPlace_13 (by decide)) ?_
  refine fa_c (s_iconst dX5_hasPlace_16 (by decide)) ?_
  refine fa_c (s_rz dX5_hasPlace_17 rfl) ?_
  exact fun e he => absurd he List.not_mem_nil
theorem cl_X5_hasPlace {G : GX} (hAp : Ap G) : Cl1 (Ct G mts) n_X5_hasPlace tb_X5_hasPlace := ct_cl (y := n_X5_hasPlace) (yn := yX5_hasPlace) rfl (by decide +kernel) (ok_X5_hasPlace hAp)
theorem dX5_add_0 : decode cX5_add 0 = .ok (.aload_n 0, 1) := by decide +kernel
theorem dX5_add_1 : decode cX5_add 1 = .ok (.invokevirtual 40, 3) := by decide +kernel
theorem dX5_add_4 : decode cX5_add 4 = .ok (.ifCond .ne 6, 3) := by decide +kernel
theorem dX5_add_7 : decode cX5_add 7 = .ok (.ldc 44, 2) := by decide +kernel
theorem dX5_add_9 : decode cX5_add 9 = .ok (.ireturn, 1) := by decide +kernel
theorem dX5_add_10 : decode cX5_add 10 = .ok (.aload_n 0, 1) := by decide +kernel
theorem dX5_add_11 : decode cX5_add 11 = .ok (.getfield 37, 3) := by decide +kernel
theorem dX5_add_14 : decode cX5_add 14 = .ok (.istore 4, 2) := by decide +kernel
theorem dX5_add_16 : decode cX5_add 16 = .ok (.aload_n 0, 1) := by decide +kernel
theorem dX5_add_17 : decode cX5_add 17 = .ok (.dup, 1) := by decide +kernel
theorem dX5_add_18 : decode cX5_add 18 = .ok (.getfield 37, 3) := by decide +kernel
theorem dX5_add_21 : decode cX5_add 21 = .ok (.iconst 1, 1) := by decide +kernel
theorem dX5_add_22 : decode cX5_add 22 = .ok (.iadd, 1) := by decide +kernel
theorem dX5_add_23 : decode cX5_add 23 = .ok (.putfield 37, 3) := by decide +kernel
theorem dX5_add_26 : decode cX5_add 26 = .ok (.aload_n 0, 1) := by decide +kernel
theorem dX5_add_27 : decode cX5_add 27 = .ok (.getfield 9, 3) := by decide +kernel
theorem dX5_add_30 : decode cX5_add 30 = .ok (.iload 4, 2) := by decide +kernel
theorem dX5_add_32 : decode cX5_add 32 = .ok (.iload_n 1, 1) := by decide +kernel
theorem dX5_add_33 : decode cX5_add 33 = .ok (.iastore, 1) := by decide +kernel
theorem dX5_add_34 : decode cX5_add 34 = .ok (.aload_n 0, 1) := by decide +kernel
theorem dX5_add_35 : decode cX5_add 35 = .ok (.getfield 15, 3) := by decide +kernel
theorem dX5_add_38 : decode cX5_add 38 = .ok (.iload 4, 2) := by decide +kernel
theorem dX5_add_40 : decode cX5_add 40 = .ok (.iload_n 2, 1) := by decide +kernel
theorem dX5_add_41 : decode cX5_add 41 = .ok (.iastore, 1) := by decide +kernel
theorem dX5_add_42 : decode cX5_add 42 = .ok (.aload_n 0, 1) := by decide +kernel
theorem dX5_add_43 : decode cX5_add 43 = .ok (.getfield 18, 3) := by decide +kernel
theorem dX5_add_46 : decode cX5_add 46 = .ok (.iload 4, 2) := by decide +kernel
theorem dX5_add_48 : decode cX5_add 48 = .ok (.iload_n 3, 1) := by decide +kernel
theorem dX5_add_49 : decode cX5_add 49 = .ok (.iastore, 1) := by decide +kernel
theorem dX5_add_50 : decode cX5_add 50 = .ok (.iload 4, 2) := by decide +kernel
theorem dX5_add_52 : decode cX5_add 52 = .ok (.ireturn, 1) := by decide +kernel
set_option maxRecDepth 100000 in
theorem ok_X5_add {G : GX} (hAp : Ap G) : ∀ d, ∀ e ∈ tb_X5_add, Snd G mts yX5_add.cls cX5_add 5 (some .int) d none e.1 e.2 := by
  intro d
  unfold tb_X5_add
  refine fa_c (s_la_n dX5_add_0 rfl) ?_
  refine fa_c (s_cv mo_X5_hasRoom co_X5 (by decide) (fun _ _ => ⟨_, rfl⟩) dX5_add_1 w_521 w_514 w_515 (by decide)) ?_
  refine fa_c (s_if_ne dX5_add_4 (by decide)) ?_
  refine fa_c (s_ldc dX5_add_7 w_522) ?_
  refine fa_c (s_ri dX5_add_9 rfl) ?_
  refine fa_c (s_la_n dX5_add_10 rfl) ?_
  refine fa_c (gf_X5_6 w_146 dX5_add_11) ?_
  refine fa_c (s_st dX5_add_14 (by decide)) ?_
  refine fa_c (s_la_n dX5_add_16 rfl) ?_
  refine fa_c (s_i_dup dX5_add_17) ?_
  refine fa_c (gf_X5_6 w_146 dX5_add_18) ?_
  refine fa_c (s_iconst dX5_add_21 (by decide)) ?_
  refine fa_c (s_i_add dX5_add_22) ?_
  refine fa_c (pf_X5_6 hAp w_146 dX5_add_23) ?_
  refine fa_c (s_la_n dX5_add_26 rfl) ?_
  refine fa_c (gf_X5_0 w_140 dX5_add_27) ?_
  refine fa_c (s_li dX5_add_30) ?_
  refine fa_c (s_li_n dX5_add_32 rfl) ?_
  refine fa_c (s_is hAp dX5_add_33) ?_
  refine fa_c (s_la_n dX5_add_34 rfl) ?_
  refine fa_c (gf_X5_1 w_141 dX5_add_35) ?_
  refine fa_c (s_li dX5_add_38) ?_
  refine fa_c (s_li_n dX5_add_40 rfl) ?_
  refine fa_c (s_is hAp dX5_add_41) ?_
  refine fa_c (s_la_n dX5_add_42 rfl) ?_
  refine fa_c (gf_X5_2 w_142 dX5_add_43) ?_
  refine fa_c (s_li dX5_add_46) ?_
  refine fa_c (s_li_n dX5_add_48 rfl) ?_
  refine fa_c (s_is hAp dX5_add_49) ?_
  refine fa_c (s_li dX5_add_50) ?_
  refine fa_c (s_ri dX5_add_52 rfl) ?_
  exact fun e he => absurd he List.not_mem_nil
theorem cl_X5_add {G : GX} (hAp : Ap G) : Cl1 (Ct G mts) n_X5_add tb_X5_add := ct_cl (y := n_X5_add) (yn := yX5_add) rfl (by decide +kernel) (ok_X5_add hAp)
theorem dX5_places_0 : decode cX5_places 0 = .ok (.aload_n 0, 1) := by decide +kernel
theorem dX5_places_1 : decode cX5_places 1 = .ok (.getfield 33, 3) := by decide +kernel
theorem dX5_places_4 : decode cX5_places 4 = .ok (.ireturn, 1) := by decide +kernel
set_option maxRecDepth 100000 in
theorem ok_X5_places {G : GX} (hAp : Ap G) : ∀ d, ∀ e ∈ tb_X5_places, Snd G mts yX5_places.cls cX5_places 1 (some .int) d none e.1 e.2 := by
  intro d
  unfold tb_X5_places
  refine fa_c (s_la_n dX5_places_0 rfl) ?_
  refine fa_c (gf_X5_5 w_145 dX5_places_1) ?_
  refine fa_c (s_ri dX5_places_4 rfl) ?_
  exact fun e he => absurd he List.not_mem_nil
theorem cl_X5_places {G : GX} (hAp : Ap G) : Cl1 (Ct G mts) n_X5_places tb_X5_places := ct_cl (y := n_X5_places) (yn := yX5_places) rfl (by decide +kernel) (ok_X5_places hAp)
theorem dX5_count_0 : decode cX5_count 0 = .ok (.aload_n 0, 1) := by decide +kernel
theorem dX5_count_1 : decode cX5_count 1 = .ok (.getfield 37, 3) := by decide +kernel
theorem dX5_count_4 : decode cX5_count 4 = .ok (.ireturn, 1) := by decide +kernel
set_option maxRecDepth 100000 in
theorem ok_X5_count {G : GX} (hAp : Ap G) : ∀ d, ∀ e ∈ tb_X5_count, Snd G mts yX5_count.cls cX5_count 1 (some .int) d none e.1 e.2 := by
  intro d
  unfold tb_X5_count
  refine fa_c (s_la_n dX5_count_0 rfl) ?_
  refine fa_c (gf_X5_6 w_146 dX5_count_1) ?_
  refine fa_c (s_ri dX5_count_4 rfl) ?_
  exact fun e he => absurd he List.not_mem_nil
theorem cl_X5_count {G : GX} (hAp : Ap G) : Cl1 (Ct G mts) n_X5_count tb_X5_count := ct_cl (y := n_X5_count) (yn := yX5_count) rfl (by decide +kernel) (ok_X5_count hAp)
theorem dX5_grow_0 : decode cX5_grow 0 = .ok (.aload_n 0, 1) := by decide +kernel
theorem dX5_grow_1 : decode cX5_grow 1 = .ok (.iload_n 1, 1) := by decide +kernel
theorem dX5_grow_2 : decode cX5_grow 2 = .ok (.invokevirtual 45, 3) := by decide +kernel
theorem dX5_grow_5 : decode cX5_grow 5 = .ok (.iconst 0, 1) := by decide +kernel
theorem dX5_grow_6 : decode cX5_grow 6 = .ok (.istore_n 3, 1) := by decide +kernel
theorem dX5_grow_7 : decode cX5_grow 7 = .ok (.iload_n 3, 1) := by decide +kernel
theorem dX5_grow_8 : decode cX5_grow 8 = .ok (.aload_n 0, 1) := by decide +kernel
theorem dX5_grow_9 : decode cX5_grow 9 = .ok (.getfield 33, 3) := by decide +kernel
theorem dX5_grow_12 : decode cX5_grow 12 = .ok (.if_icmp .ge 66, 3) := by decide +kernel
theorem dX5_grow_15 : decode cX5_grow 15 = .ok (.aload_n 0, 1) := by decide +kernel
theorem dX5_grow_16 : decode cX5_grow 16 = .ok (.getfield 29, 3) := by decide +kernel
theorem dX5_grow_19 : decode cX5_grow 19 = .ok (.invokevirtual 48, 3) := by decide +kernel
theorem dX5_grow_22 : decode cX5_grow 22 = .ok (.istore 4, 2) := by decide +kernel
theorem dX5_grow_24 : decode cX5_grow 24 = .ok (.iload 4, 2) := by decide +kernel
theorem dX5_grow_26 : decode cX5_grow 26 = .ok (.iconst (-1), 1) := by decide +kernel
theorem dX5_grow_27 : decode cX5_grow 27 = .ok (.if_icmp .ne 4, 3) := by decide +kernel
theorem dX5_grow_30 : decode cX5_grow 30 = .ok (.return_, 1) := by decide +kernel
theorem dX5_grow_31 : decode cX5_grow 31 = .ok (.aload_n 0, 1) := by decide +kernel
theorem dX5_grow_32 : decode cX5_grow 32 = .ok (.getfield 29, 3) := by decide +kernel
theorem dX5_grow_35 : decode cX5_grow 35 = .ok (.iload 4, 2) := by decide +kernel
theorem dX5_grow_37 : decode cX5_grow 37 = .ok (.invokevirtual 52, 3) := by decide +kernel
theorem dX5_grow_40 : decode cX5_grow 40 = .ok (.aload_n 0, 1) := by decide +kernel
theorem dX5_grow_41 : decode cX5_grow 41 = .ok (.iload 4, 2) := by decide +kernel
theorem dX5_grow_43 : decode cX5_grow 43 = .ok (.invokevirtual 55, 3) := by decide +kernel
theorem dX5_grow_46 : decode cX5_grow 46 = .ok (.ifCond .eq 26, 3) := by decide +kernel
theorem dX5_grow_49 : decode cX5_grow 49 = .ok (.aload_n 0, 1) := by decide +kernel
theorem dX5_grow_50 : decode cX5_grow 50 = .ok (.iload 4, 2) := by decide +kernel
theorem dX5_grow_52 : decode cX5_grow 52 = .ok (.iload_n 2, 1) := by decide +kernel
theorem dX5_grow_53 : decode cX5_grow 53 = .ok (.ifCond .eq 15, 3) := by decide +kernel
theorem dX5_grow_56 : decode cX5_grow 56 = .ok (.aload_n 0, 1) := by decide +kernel
theorem dX5_grow_57 : decode cX5_grow 57 = .ok (.getfield 29, 3) := by decide +kernel
theorem dX5_grow_60 : decode cX5_grow 60 = .ok (.iload 4, 2) := by decide +kernel
theorem dX5_grow_62 : decode cX5_grow 62 = .ok (.invokevirtual 59, 3) := by decide +kernel
theorem dX5_grow_65 : decode cX5_grow 65 = .ok (.goto 4, 3) := by decide +kernel
theorem dX5_grow_68 : decode cX5_grow 68 = .ok (.iconst 0, 1) := by decide +kernel
theorem dX5_grow_69 : decode cX5_grow 69 = .ok (.invokevirtual 63, 3) := by decide +kernel
theorem dX5_grow_72 : decode cX5_grow 72 = .ok (.iinc 3 1, 3) := by decide +kernel
theorem dX5_grow_75 : decode cX5_grow 75 = .ok (.goto (-68), 3) := by decide +kernel
theorem dX5_grow_78 : decode cX5_grow 78 = .ok (.return_, 1) := by decide +kernel
set_option maxRecDepth 100000 in
theorem ok_X5_grow {G : GX} (hAp : Ap G) : ∀ d, ∀ e ∈ tb_X5_grow, Snd G mts yX5_grow.cls cX5_grow 5 (none) d none e.1 e.2 := by
  intro d
  unfold tb_X5_grow
  refine fa_c (s_la_n dX5_grow_0 rfl) ?_
  refine fa_c (s_li_n dX5_grow_1 rfl) ?_
  refine fa_c (s_cv mo_X5_begin co_X5 (by decide) (fun _ _ => ⟨_, rfl⟩) dX5_grow_2 w_531 w_533 w_14 (by decide)) ?_
  refine fa_c (s_iconst dX5_grow_5 (by decide)) ?_
  refine fa_c (s_st_n dX5_grow_6 rfl (by decide)) ?_
  refine fa_c (s_li_n dX5_grow_7 rfl) ?_
  refine fa_c (s_la_n dX5_grow_8 rfl) ?_
  refine fa_c (gf_X5_5 w_145 dX5_grow_9) ?_
  refine fa_c (s_ic_ge dX5_grow_12 (by decide)) ?_
  refine fa_c (s_la_n dX5_grow_15 rfl) ?_
  refine fa_c (gf_X5_4 w_144 dX5_grow_16) ?_
  refine fa_c (s_cv mo_X2_soonest co_X2 (by decide) (fun _ _ => ⟨_, rfl⟩) dX5_grow_19 w_538 w_301 w_302 (by decide)) ?_
  refine fa_c (s_st dX5_grow_22 (by decide)) ?_
  refine fa_c (s_li dX5_grow_24) ?_
  refine fa_c (s_iconst dX5_grow_26 (by decide)) ?_
  refine fa_c (s_ic_ne dX5_grow_27 (by decide)) ?_
  refine fa_c (s_rv dX5_grow_30 rfl) ?_
  refine fa_c (s_la_n dX5_grow_31 rfl) ?_
  refine fa_c (gf_X5_4 w_144 dX5_grow_32) ?_
  refine fa_c (s_li dX5_grow_35) ?_
  refine fa_c (s_cv mo_X2_takeOut co_X2 (by decide) (fun _ _ => ⟨_, rfl⟩) dX5_grow_37 w_539 w_305 w_306 (by decide)) ?_
  refine fa_c (s_la_n dX5_grow_40 rfl) ?_
  refine fa_c (s_li dX5_grow_41) ?_
  refine fa_c (s_cv mo_X5_isReached co_X5 (by decide) (fun _ _ => ⟨_, rfl⟩) dX5_grow_43 w_540 w_542 w_15 (by decide)) ?_
  refine fa_c (s_if_eq dX5_grow_46 (by decide)) ?_
  refine fa_c (s_la_n dX5_grow_49 rfl) ?_
  refine fa_c (s_li dX5_grow_50) ?_
  refine fa_c (s_li_n dX5_grow_52 rfl) ?_
  refine fa_c (s_if_eq dX5_grow_53 (by decide)) ?_
  refine fa_c (s_la_n dX5_grow_56 rfl) ?_
  refine fa_c (gf_X5_4 w_144 dX5_grow_57) ?_
  refine fa_c (s_li dX5_grow_60) ?_
  refine fa_c (s_cv mo_X2_keyOf co_X2 (by decide) (fun _ _ => ⟨_, rfl⟩) dX5_grow_62 w_544 w_248 w_249 (by decide)) ?_
  refine fa_c (s_go dX5_grow_65 (by decide)) ?_
  refine fa_c (s_iconst dX5_grow_68 (by decide)) ?_
  refine fa_c (s_cv mo_X5_spread co_X5 (by decide) (fun _ _ => ⟨_, rfl⟩) dX5_grow_69 w_545 w_547 w_16 (by decide)) ?_
  refine fa_c (s_inc dX5_grow_72 (by decide) (by decide)) ?_
  refine fa_c (s_go dX5_grow_75 (by decide)) ?_
  refine fa_c (s_rv dX5_grow_78 rfl) ?_
  exact fun e he => absurd he List.not_mem_nil
theorem cl_X5_grow {G : GX} (hAp : Ap G) : Cl1 (Ct G mts) n_X5_grow tb_X5_grow := ct_cl (y := n_X5_grow) (yn := yX5_grow) rfl (by decide +kernel) (ok_X5_grow hAp)
theorem dX5_begin_0 : decode cX5_begin 0 = .ok (.aload_n 0, 1) := by decide +kernel
theorem dX5_begin_1 : decode cX5_begin 1 = .ok (.iconst 0, 1) := by decide +kernel
theorem dX5_begin_2 : decode cX5_begin 2 = .ok (.putfield 67, 3) := by decide +kernel
theorem dX5_begin_5 : decode cX5_begin 5 = .ok (.aload_n 0, 1) := by decide +kernel
theorem dX5_begin_6 : decode cX5_begin 6 = .ok (.getfield 29, 3) := by decide +kernel
theorem dX5_begin_9 : decode cX5_begin 9 = .ok (.invokevirtual 70, 3) := by decide +kernel
theorem dX5_begin_12 : decode cX5_begin 12 = .ok (.aload_n 0, 1) := by decide +kernel
theorem dX5_begin_13 : decode cX5_begin 13 = .ok (.getfield 21, 3) := by decide +kernel
theorem dX5_begin_16 : decode cX5_begin 16 = .ok (.iconst (-1), 1) := by decide +kernel
theorem dX5_begin_17 : decode cX5_begin 17 = .ok (.invokestatic 73, 3) := by decide +kernel
theorem dX5_begin_20 : decode cX5_begin 20 = .ok (.iconst 0, 1) := by decide +kernel
theorem dX5_begin_21 : decode cX5_begin 21 = .ok (.istore_n 2, 1) := by decide +kernel
theorem dX5_begin_22 : decode cX5_begin 22 = .ok (.iload_n 2, 1) := by decide +kernel
theorem dX5_begin_23 : decode cX5_begin 23 = .ok (.aload_n 0, 1) := by decide +kernel
theorem dX5_begin_24 : decode cX5_begin 24 = .ok (.getfield 33, 3) := by decide +kernel
theorem dX5_begin_27 : decode cX5_begin 27 = .ok (.if_icmp .ge 30, 3) := by decide +kernel
theorem dX5_begin_30 : decode cX5_begin 30 = .ok (.aload_n 0, 1) := by decide +kernel
theorem dX5_begin_31 : decode cX5_begin 31 = .ok (.getfield 29, 3) := by decide +kernel
theorem dX5_begin_34 : decode cX5_begin 34 = .ok (.iconst 0, 1) := by decide +kernel
theorem dX5_begin_35 : decode cX5_begin 35 = .ok (.iload_n 2, 1) := by decide +kernel
theorem dX5_begin_36 : decode cX5_begin 36 = .ok (.iload_n 1, 1) := by decide +kernel
theorem dX5_begin_37 : decode cX5_begin 37 = .ok (.if_icmp .ne 7, 3) := by decide +kernel
theorem dX5_begin_40 : decode cX5_begin 40 = .ok (.iconst 0, 1) := by decide +kernel
theorem dX5_begin_41 : decode cX5_begin 41 = .ok (.goto 6, 3) := by decide +kernel
theorem dX5_begin_44 : decode cX5_begin 44 = .ok (.sipush 9999, 3) := by decide +kernel
theorem dX5_begin_47 : decode cX5_begin 47 = .ok (.invokevirtual 79, 3) := by decide +kernel
theorem dX5_begin_50 : decode cX5_begin 50 = .ok (.pop, 1) := by decide +kernel
theorem dX5_begin_51 : decode cX5_begin 51 = .ok (.iinc 2 1, 3) := by decide +kernel
theorem dX5_begin_54 : decode cX5_begin 54 = .ok (.goto (-32), 3) := by decide +kernel
theorem dX5_begin_57 : decode cX5_begin 57 = .ok (.return_, 1) := by decide +kernel
set_option maxRecDepth 100000 in
theorem ok_X5_begin {G : GX} (hAp : Ap G) : ∀ d, ∀ e ∈ tb_X5_begin, Snd G mts yX5_begin.cls cX5_begin 3 (none) d none e.1 e.2 := by
  intro d
  unfold tb_X5_begin
  refine fa_c (s_la_n dX5_begin_0 rfl) ?_
  refine fa_c (s_iconst dX5_begin_1 (by decide)) ?_
  refine fa_c (pf_X5_7 hAp w_147 dX5_begin_2) ?_
  refine fa_c (s_la_n dX5_begin_5 rfl) ?_
  refine fa_c (gf_X5_4 w_144 dX5_begin_6) ?_
  refine fa_c (s_cv mo_X2_empty co_X2 (by decide) (fun _ _ => ⟨_, rfl⟩) dX5_begin_9 w_535 w_338 w_339 (by decide)) ?_
  refine fa_c (s_la_n dX5_begin_12 rfl) ?_
  refine fa_c (gf_X5_3 w_143 dX5_begin_13) ?_
  refine fa_c (s_iconst dX5_begin_16 (by decide)) ?_
  refine fa_c (s_cs mo_J7_fill_53178 dX5_begin_17 w_536 w_126 (by decide)) ?_
  refine fa_c (s_iconst dX5_begin_20 (by decide)) ?_
  refine fa_c (s_st_n dX5_begin_21 rfl (by decide)) ?_
  refine fa_c (s_li_n dX5_begin_22 rfl) ?_
  refine fa_c (s_la_n dX5_begin_23 rfl) ?_
  refine fa_c (gf_X5_5 w_145 dX5_begin_24) ?_
  refine fa_c (s_ic_ge dX5_begin_27 (by decide)) ?_
  refine fa_c (s_la_n dX5_begin_30 rfl) ?_
  refine fa_c (gf_X5_4 w_144 dX5_begin_31) ?_
  refine fa_c (s_iconst dX5_begin_34 (by decide)) ?_
  refine fa_c (s_li_n dX5_begin_35 rfl) ?_
  refine fa_c (s_li_n dX5_begin_36 rfl) ?_
  refine fa_c (s_ic_ne dX5_begin_37 (by decide)) ?_
  refine fa_c (s_iconst dX5_begin_40 (by decide)) ?_
  refine fa_c (s_go dX5_begin_41 (by decide)) ?_
  refine fa_c (s_sipush dX5_begin_44 (by decide)) ?_
  refine fa_c (s_cv mo_X2_add co_X2 (by decide) (fun _ _ => ⟨_, rfl⟩) dX5_begin_47 w_537 w_229 w_230 (by decide)) ?_
  refine fa_c (s_i_pop dX5_begin_50) ?_
  refine fa_c (s_inc dX5_begin_51 (by decide) (by decide)) ?_
  refine fa_c (s_go dX5_begin_54 (by decide)) ?_
  refine fa_c (s_rv dX5_begin_57 rfl) ?_
  exact fun e he => absurd he List.not_mem_nil
theorem cl_X5_begin {G : GX} (hAp : Ap G) : Cl1 (Ct G mts) n_X5_begin tb_X5_begin := ct_cl (y := n_X5_begin) (yn := yX5_begin) rfl (by decide +kernel) (ok_X5_begin hAp)
theorem dX5_spread_0 : decode cX5_spread 0 = .ok (.iconst 0, 1) := by decide +kernel
theorem dX5_spread_1 : decode cX5_spread 1 = .ok (.istore_n 3, 1) := by decide +kernel
theorem dX5_spread_2 : decode cX5_spread 2 = .ok (.iload_n 3, 1) := by decide +kernel
theorem dX5_spread_3 : decode cX5_spread 3 = .ok (.aload_n 0, 1) := by decide +kernel
theorem dX5_spread_4 : decode cX5_spread 4 = .ok (.getfield 37, 3) := by decide +kernel
theorem dX5_spread_7 : decode cX5_spread 7 = .ok (.if_icmp .ge 88, 3) := by decide +kernel
theorem dX5_spread_10 : decode cX5_spread 10 = .ok (.aload_n 0, 1) := by decide +kernel
theorem dX5_spread_11 : decode cX5_spread 11 = .ok (.iload_n 3, 1) := by decide +kernel
theorem dX5_spread_12 : decode cX5_spread 12 = .ok (.iload_n 1, 1) := by decide +kernel
theorem dX5_spread_13 : decode cX5_spread 13 = .ok (.invokevirtual 83, 3) := by decide +kernel
theorem dX5_spread_16 : decode cX5_spread 16 = .ok (.istore 4, 2) := by decide +kernel
theorem dX5_spread_18 : decode cX5_spread 18 = .ok (.iload_n 2, 1) := by decide +kernel
theorem dX5_spread_19 : decode cX5_spread 19 = .ok (.aload_n 0, 1) := by decide +kernel
theorem dX5_spread_20 : decode cX5_spread 20 = .ok (.getfield 18, 3) := by decide +kernel
theorem dX5_spread_23 : decode cX5_spread 23 = .ok (.iload_n 3, 1) := by decide +kernel
theorem dX5_spread_24 : decode cX5_spread 24 = .ok (.iaload, 1) := by decide +kernel
theorem dX5_spread_25 : decode cX5_spread 25 = .ok (.iadd, 1) := by decide +kernel
theorem dX5_spread_26 : decode cX5_spread 26 = .ok (.istore 5, 2) := by decide +kernel
theorem dX5_spread_28 : decode cX5_spread 28 = .ok (.iload 4, 2) := by decide +kernel
theorem dX5_spread_30 : decode cX5_spread 30 = .ok (.iconst (-1), 1) := by decide +kernel
theorem dX5_spread_31 : decode cX5_spread 31 = .ok (.if_icmp .eq 58, 3) := by decide +kernel
theorem dX5_spread_34 : decode cX5_spread 34 = .ok (.aload_n 0, 1) := by decide +kernel
theorem dX5_spread_35 : decode cX5_spread 35 = .ok (.getfield 29, 3) := by decide +kernel
theorem dX5_spread_38 : decode cX5_spread 38 = .ok (.iload 4, 2) := by decide +kernel
theorem dX5_spread_40 : decode cX5_spread 40 = .ok (.invokevirtual 86, 3) := by decide +kernel
theorem dX5_spread_43 : decode cX5_spread 43 = .ok (.ifCond .eq 46, 3) := by decide +kernel
theorem dX5_spread_46 : decode cX5_spread 46 = .ok (.iload 5, 2) := by decide +kernel
theorem dX5_spread_48 : decode cX5_spread 48 = .ok (.aload_n 0, 1) := by decide +kernel
theorem dX5_spread_49 : decode cX5_spread 49 = .ok (.getfield 29, 3) := by decide +kernel
theorem dX5_spread_52 : decode cX5_spread 52 = .ok (.iload 4, 2) := by decide +kernel
theorem dX5_spread_54 : decode cX5_spread 54 = .ok (.invokevirtual 59, 3) := by decide +kernel
theorem dX5_spread_57 : decode cX5_spread 57 = .ok (.if_icmp .ge 32, 3) := by decide +kernel
theorem dX5_spread_60 : decode cX5_spread 60 = .ok (.aload_n 0, 1) := by decide +kernel
theorem dX5_spread_61 : decode cX5_spread 61 = .ok (.getfield 29, 3) := by decide +kernel
theorem dX5_spread_64 : decode cX5_spread 64 = .ok (.iload 4, 2) := by decide +kernel
theorem dX5_spread_66 : decode cX5_spread 66 = .ok (.iload 5, 2) := by decide +kernel
theorem dX5_spread_68 : decode cX5_spread 68 = .ok (.invokevirtual 89, 3) := by decide +kernel
theorem dX5_spread_71 : decode cX5_spread 71 = .ok (.aload_n 0, 1) := by decide +kernel
theorem dX5_spread_72 : decode cX5_spread 72 = .ok (.getfield 21, 3) := by decide +kernel
theorem dX5_spread_75 : decode cX5_spread 75 = .ok (.iload 4, 2) := by decide +kernel
theorem dX5_spread_77 : decode cX5_spread 77 = .ok (.iload_n 3, 1) := by decide +kernel
theorem dX5_spread_78 : decode cX5_spread 78 = .ok (.iastore, 1) := by decide +kernel
theorem dX5_spread_79 : decode cX5_spread 79 = .ok (.aload_n 0, 1) := by decide +kernel
theorem dX5_spread_80 : decode cX5_spread 80 = .ok (.dup, 1) := by decide +kernel
theorem dX5_spread_81 : decode cX5_spread 81 = .ok (.getfield 67, 3) := by decide +kernel
theorem dX5_spread_84 : decode cX5_spread 84 = .ok (.iconst 1, 1) := by decide +kernel
theorem dX5_spread_85 : decode cX5_spread 85 = .ok (.iadd, 1) := by decide +kernel
theorem dX5_spread_86 : decode cX5_spread 86 = .ok (.putfield 67, 3) := by decide +kernel
theorem dX5_spread_89 : decode cX5_spread 89 = .ok (.iinc 3 1, 3) := by decide +kernel
theorem dX5_spread_92 : decode cX5_spread 92 = .ok (.goto (-90), 3) := by decide +kernel
theorem dX5_spread_95 : decode cX5_spread 95 = .ok (.return_, 1) := by decide +kernel
set_option maxRecDepth 100000 in
theorem ok_X5_spread {G : GX} (hAp : Ap G) : ∀ d, ∀ e ∈ tb_X5_spread, Snd G mts yX5_spread.cls cX5_spread 6 (none) d none e.1 e.2 := by
  intro d
  unfold tb_X5_spread
  refine fa_c (s_iconst dX5_spread_0 (by decide)) ?_
  refine fa_c (s_st_n dX5_spread_1 rfl (by decide)) ?_
  refine fa_c (s_li_n dX5_spread_2 rfl) ?_
  refine fa_c (s_la_n dX5_spread_3 rfl) ?_
  refine fa_c (gf_X5_6 w_146 dX5_spread_4) ?_
  refine fa_c (s_ic_ge dX5_spread_7 (by decide)) ?_
  refine fa_c (s_la_n dX5_spread_10 rfl) ?_
  refine fa_c (s_li_n dX5_spread_11 rfl) ?_
  refine fa_c (s_li_n dX5_spread_12 rfl) ?_
  refine fa_c (s_cv mo_X5_acrossFrom co_X5 (by decide) (fun _ _ => ⟨_, rfl⟩) dX5_spread_13 w_549 w_551 w_17 (by decide)) ?_
  refine fa_c (s_st dX5_spread_16 (by decide)) ?_
  refine fa_c (s_li_n dX5_spread_18 rfl) ?_
  refine fa_c (s_la_n dX5_spread_19 rfl) ?_
  refine fa_c (gf_X5_2 w_142 dX5_spread_20) ?_
  refine fa_c (s_li_n dX5_spread_23 rfl) ?_
  refine fa_c (s_ia dX5_spread_24) ?_
  refine fa_c (s_i_add dX5_spread_25) ?_
  refine fa_c (s_st dX5_spread_26 (by decide)) ?_
  refine fa_c (s_li dX5_spread_28) ?_
  refine fa_c (s_iconst dX5_spread_30 (by decide)) ?_
  refine fa_c (s_ic_eq dX5_spread_31 (by decide)) ?_
  refine fa_c (s_la_n dX5_spread_34 rfl) ?_
  refine fa_c (gf_X5_4 w_144 dX5_spread_35) ?_
  refine fa_c (s_li dX5_spread_38) ?_
  refine fa_c (s_cv mo_X2_isStanding co_X2 (by decide) (fun _ _ => ⟨_, rfl⟩) dX5_spread_40 w_553 w_244 w_245 (by decide)) ?_
  refine fa_c (s_if_eq dX5_spread_43 (by decide)) ?_
  refine fa_c (s_li dX5_spread_46) ?_
  refine fa_c (s_la_n dX5_spread_48 rfl) ?_
  refine fa_c (gf_X5_4 w_144 dX5_spread_49) ?_
  refine fa_c (s_li dX5_spread_52) ?_
  refine fa_c (s_cv mo_X2_keyOf co_X2 (by decide) (fun _ _ => ⟨_, rfl⟩) dX5_spread_54 w_544 w_248 w_249 (by decide)) ?_
  refine fa_c (s_ic_ge dX5_spread_57 (by decide)) ?_
  refine fa_c (s_la_n dX5_spread_60 rfl) ?_
  refine fa_c (gf_X5_4 w_144 dX5_spread_61) ?_
  refine fa_c (s_li dX5_spread_64) ?_
  refine fa_c (s_li dX5_spread_66) ?_
  refine fa_c (s_cv mo_X2_lowerTo co_X2 (by decide) (fun _ _ => ⟨_, rfl⟩) dX5_spread_68 w_554 w_253 w_254 (by decide)) ?_
  refine fa_c (s_la_n dX5_spread_71 rfl) ?_
  refine fa_c (gf_X5_3 w_143 dX5_spread_72) ?_
  refine fa_c (s_li dX5_spread_75) ?_
  refine fa_c (s_li_n dX5_spread_77 rfl) ?_
  refine fa_c (s_is hAp dX5_spread_78) ?_
  refine fa_c (s_la_n dX5_spread_79 rfl) ?_
  refine fa_c (s_i_dup dX5_spread_80) ?_
  refine fa_c (gf_X5_7 w_147 dX5_spread_81) ?_
  refine fa_c (s_iconst dX5_spread_84 (by decide)) ?_
  refine fa_c (s_i_add dX5_spread_85) ?_
  refine fa_c (pf_X5_7 hAp w_147 dX5_spread_86) ?_
  refine fa_c (s_inc dX5_spread_89 (by decide) (by decide)) ?_
  refine fa_c (s_go dX5_spread_92 (by decide)) ?_
  refine fa_c (s_rv dX5_spread_95 rfl) ?_
  exact fun e he => absurd he List.not_mem_nil
theorem cl_X5_spread {G : GX} (hAp : Ap G) : Cl1 (Ct G mts) n_X5_spread tb_X5_spread := ct_cl (y := n_X5_spread) (yn := yX5_spread) rfl (by decide +kernel) (ok_X5_spread hAp)
theorem dX5_acrossFrom_0 : decode cX5_acrossFrom 0 = .ok (.aload_n 0, 1) := by decide +kernel
theorem dX5_acrossFrom_1 : decode cX5_acrossFrom 1 = .ok (.getfield 9, 3) := by decide +kernel
theorem dX5_acrossFrom_4 : decode cX5_acrossFrom 4 = .ok (.iload_n 1, 1) := by decide +kernel
theorem dX5_acrossFrom_5 : decode cX5_acrossFrom 5 = .ok (.iaload, 1) := by decide +kernel
theorem dX5_acrossFrom_6 : decode cX5_acrossFrom 6 = .ok (.iload_n 2, 1) := by decide +kernel
theorem dX5_acrossFrom_7 : decode cX5_acrossFrom 7 = .ok (.if_icmp .ne 10, 3) := by decide +kernel
theorem dX5_acrossFrom_10 : decode cX5_acrossFrom 10 = .ok (.aload_n 0, 1) := by decide +kernel
theorem dX5_acrossFrom_11 : decode cX5_acrossFrom 11 = .ok (.getfield 15, 3) := by decide +kernel
theorem dX5_acrossFrom_14 : decode cX5_acrossFrom 14 = .ok (.iload_n 1, 1) := by decide +kernel
theorem dX5_acrossFrom_15 : decode cX5_acrossFrom 15 = .ok (.iaload, 1) := by decide +kernel
theorem dX5_acrossFrom_16 : decode cX5_acrossFrom 16 = .ok (.ireturn, 1) := by decide +kernel
theorem dX5_acrossFrom_17 : decode cX5_acrossFrom 17 = .ok (.aload_n 0, 1) := by decide +kernel
theorem dX5_acrossFrom_18 : decode cX5_acrossFrom 18 = .ok (.getfield 15, 3) := by decide +kernel
theorem dX5_acrossFrom_21 : decode cX5_acrossFrom 21 = .ok (.iload_n 1, 1) := by decide +kernel
theorem dX5_acrossFrom_22 : decode cX5_acrossFrom 22 = .ok (.iaload, 1) := by decide +kernel
theorem dX5_acrossFrom_23 : decode cX5_acrossFrom 23 = .ok (.iload_n 2, 1) := by decide +kernel
theorem dX5_acrossFrom_24 : decode cX5_acrossFrom 24 = .ok (.if_icmp .ne 12, 3) := by decide +kernel
theorem dX5_acrossFrom_27 : decode cX5_acrossFrom 27 = .ok (.aload_n 0, 1) := by decide +kernel
theorem dX5_acrossFrom_28 : decode cX5_acrossFrom 28 = .ok (.getfield 9, 3) := by decide +kernel
theorem dX5_acrossFrom_31 : decode cX5_acrossFrom 31 = .ok (.iload_n 1, 1) := by decide +kernel
theorem dX5_acrossFrom_32 : decode cX5_acrossFrom 32 = .ok (.iaload, 1) := by decide +kernel
theorem dX5_acrossFrom_33 : decode cX5_acrossFrom 33 = .ok (.goto 4, 3) := by decide +kernel
theorem dX5_acrossFrom_36 : decode cX5_acrossFrom 36 = .ok (.iconst (-1), 1) := by decide +kernel
theorem dX5_acrossFrom_37 : decode cX5_acrossFrom 37 = .ok (.ireturn, 1) := by decide +kernel
set_option maxRecDepth 100000 in
theorem ok_X5_acrossFrom {G : GX} (hAp : Ap G) : ∀ d, ∀ e ∈ tb_X5_acrossFrom, Snd G mts yX5_acrossFrom.cls cX5_acrossFrom 3 (some .int) d none e.1 e.2 := by
  intro d
  unfold tb_X5_acrossFrom
  refine fa_c (s_la_n dX5_acrossFrom_0 rfl) ?_
  refine fa_c (gf_X5_0 w_140 dX5_acrossFrom_1) ?_
  refine fa_c (s_li_n dX5_acrossFrom_4 rfl) ?_
  refine fa_c (s_ia dX5_acrossFrom_5) ?_
  refine fa_c (s_li_n dX5_acrossFrom_6 rfl) ?_
  refine fa_c (s_ic_ne dX5_acrossFrom_7 (by decide)) ?_
  refine fa_c (s_la_n dX5_acrossFrom_10 rfl) ?_
  refine fa_c (gf_X5_1 w_141 dX5_acrossFrom_11) ?_
  refine fa_c (s_li_n dX5_acrossFrom_14 rfl) ?_
  refine fa_c (s_ia dX5_acrossFrom_15) ?_
  refine fa_c (s_ri dX5_acrossFrom_16 rfl) ?_
  refine fa_c (s_la_n dX5_acrossFrom_17 rfl) ?_
  refine fa_c (gf_X5_1 w_141 dX5_acrossFrom_18) ?_
  refine fa_c (s_li_n dX5_acrossFrom_21 rfl) ?_
  refine fa_c (s_ia dX5_acrossFrom_22) ?_
  refine fa_c (s_li_n dX5_acrossFrom_23 rfl) ?_
  refine fa_c (s_ic_ne dX5_acrossFrom_24 (by decide)) ?_
  refine fa_c (s_la_n dX5_acrossFrom_27 rfl) ?_
  refine fa_c (gf_X5_0 w_140 dX5_acrossFrom_28) ?_
  refine fa_c (s_li_n dX5_acrossFrom_31 rfl) ?_
  refine fa_c (s_ia dX5_acrossFrom_32) ?_
  refine fa_c (s_go dX5_acrossFrom_33 (by decide)) ?_
  refine fa_c (s_iconst dX5_acrossFrom_36 (by decide)) ?_
  refine fa_c (s_ri dX5_acrossFrom_37 rfl) ?_
  exact fun e he => absurd he List.not_mem_nil
theorem cl_X5_acrossFrom {G : GX} (hAp : Ap G) : Cl1 (Ct G mts) n_X5_acrossFrom tb_X5_acrossFrom := ct_cl (y := n_X5_acrossFrom) (yn := yX5_acrossFrom) rfl (by decide +kernel) (ok_X5_acrossFrom hAp)
theorem dX5_isReached_0 : decode cX5_isReached 0 = .ok (.aload_n 0, 1) := by decide +kernel
theorem dX5_isReached_1 : decode cX5_isReached 1 = .ok (.getfield 29, 3) := by decide +kernel
theorem dX5_isReached_4 : decode cX5_isReached 4 = .ok (.iload_n 1, 1) := by decide +kernel
theorem dX5_isReached_5 : decode cX5_isReached 5 = .ok (.invokevirtual 59, 3) := by decide +kernel
theorem dX5_isReached_8 : decode cX5_isReached 8 = .ok (.sipush 9999, 3) := by decide +kernel
theorem dX5_isReached_11 : decode cX5_isReached 11 = .ok (.if_icmp .ge 7, 3) := by decide +kernel
theorem dX5_isReached_14 : decode cX5_isReached 14 = .ok (.iconst 1, 1) := by decide +kernel
theorem dX5_isReached_15 : decode cX5_isReached 15 = .ok (.goto 4, 3) := by decide +kernel
theorem dX5_isReached_18 : decode cX5_isReached 18 = .ok (.iconst 0, 1) := by decide +kernel
theorem dX5_isReached_19 : decode cX5_isReached 19 = .ok (.ireturn, 1) := by decide +kernel
set_option maxRecDepth 100000 in
theorem ok_X5_isReached {G : GX} (hAp : Ap G) : ∀ d, ∀ e ∈ tb_X5_isReached, Snd G mts yX5_isReached.cls cX5_isReached 2 (some .boolean) d none e.1 e.2 := by
  intro d
  unfold tb_X5_isReached
  refine fa_c (s_la_n dX5_isReached_0 rfl) ?_
  refine fa_c (gf_X5_4 w_144 dX5_isReached_1) ?_
  refine fa_c (s_li_n dX5_isReached_4 rfl) ?_
  refine fa_c (s_cv mo_X2_keyOf co_X2 (by decide) (fun _ _ => ⟨_, rfl⟩) dX5_isReached_5 w_544 w_248 w_249 (by decide)) ?_
  refine fa_c (s_sipush dX5_isReached_8 (by decide)) ?_
  refine fa_c (s_ic_ge dX5_isReached_11 (by decide)) ?_
  refine fa_c (s_iconst dX5_isReached_14 (by decide)) ?_
  refine fa_c (s_go dX5_isReached_15 (by decide)) ?_
  refine fa_c (s_iconst dX5_isReached_18 (by decide)) ?_
  refine fa_c (s_rz dX5_isReached_19 rfl) ?_
  exact fun e he => absurd he List.not_mem_nil
theorem cl_X5_isReached {G : GX} (hAp : Ap G) : Cl1 (Ct G mts) n_X5_isReached tb_X5_isReached := ct_cl (y := n_X5_isReached) (yn := yX5_isReached) rfl (by decide +kernel) (ok_X5_isReached hAp)
theorem dX5_weightOfTree_0 : decode cX5_weightOfTree 0 = .ok (.iconst 0, 1) := by decide +kernel
theorem dX5_weightOfTree_1 : decode cX5_weightOfTree 1 = .ok (.istore_n 1, 1) := by decide +kernel
theorem dX5_weightOfTree_2 : decode cX5_weightOfTree 2 = .ok (.iconst 0, 1) := by decide +kernel
theorem dX5_weightOfTree_3 : decode cX5_weightOfTree 3 = .ok (.istore_n 2, 1) := by decide +kernel
theorem dX5_weightOfTree_4 : decode cX5_weightOfTree 4 = .ok (.iload_n 2, 1) := by decide +kernel
theorem dX5_weightOfTree_5 : decode cX5_weightOfTree 5 = .ok (.aload_n 0, 1) := by decide +kernel
theorem dX5_weightOfTree_6 : decode cX5_weightOfTree 6 = .ok (.getfield 33, 3) := by decide +kernel
theorem dX5_weightOfTree_9 : decode cX5_weightOfTree 9 = .ok (.if_icmp .ge 33, 3) := by decide +kernel
theorem dX5_weightOfTree_12 : decode cX5_weightOfTree 12 = .ok (.aload_n 0, 1) := by decide +kernel
theorem dX5_weightOfTree_13 : decode cX5_weightOfTree 13 = .ok (.getfield 21, 3) := by decide +kernel
theorem dX5_weightOfTree_16 : decode cX5_weightOfTree 16 = .ok (.iload_n 2, 1) := by decide +kernel
theorem dX5_weightOfTree_17 : decode cX5_weightOfTree 17 = .ok (.iaload, 1) := by decide +kernel
theorem dX5_weightOfTree_18 : decode cX5_weightOfTree 18 = .ok (.iconst (-1), 1) := by decide +kernel
theorem dX5_weightOfTree_19 : decode cX5_weightOfTree 19 = .ok (.if_icmp .eq 17, 3) := by decide +kernel
theorem dX5_weightOfTree_22 : decode cX5_weightOfTree 22 = .ok (.iload_n 1, 1) := by decide +kernel
theorem dX5_weightOfTree_23 : decode cX5_weightOfTree 23 = .ok (.aload_n 0, 1) := by decide +kernel
theorem dX5_weightOfTree_24 : decode cX5_weightOfTree 24 = .ok (.getfield 18, 3) := by decide +kernel
theorem dX5_weightOfTree_27 : decode cX5_weightOfTree 27 = .ok (.aload_n 0, 1) := by decide +kernel
theorem dX5_weightOfTree_28 : decode cX5_weightOfTree 28 = .ok (.getfield 21, 3) := by decide +kernel
theorem dX5_weightOfTree_31 : decode cX5_weightOfTree 31 = .ok (.iload_n 2, 1) := by decide +kernel
theorem dX5_weightOfTree_32 : decode cX5_weightOfTree 32 = .ok (.iaload, 1) := by decide +kernel
theorem dX5_weightOfTree_33 : decode cX5_weightOfTree 33 = .ok (.iaload, 1) := by decide +kernel
theorem dX5_weightOfTree_34 : decode cX5_weightOfTree 34 = .ok (.iadd, 1) := by decide +kernel
theorem dX5_weightOfTree_35 : decode cX5_weightOfTree 35 = .ok (.istore_n 1, 1) := by decide +kernel
theorem dX5_weightOfTree_36 : decode cX5_weightOfTree 36 = .ok (.iinc 2 1, 3) := by decide +kernel
theorem dX5_weightOfTree_39 : decode cX5_weightOfTree 39 = .ok (.goto (-35), 3) := by decide +kernel
theorem dX5_weightOfTree_42 : decode cX5_weightOfTree 42 = .ok (.iload_n 1, 1) := by decide +kernel
theorem dX5_weightOfTree_43 : decode cX5_weightOfTree 43 = .ok (.ireturn, 1) := by decide +kernel
set_option maxRecDepth 100000 in
theorem ok_X5_weightOfTree {G : GX} (hAp : Ap G) : ∀ d, ∀ e ∈ tb_X5_weightOfTree, Snd G mts yX5_weightOfTree.cls cX5_weightOfTree 3 (some .int) d none e.1 e.2 := by
  intro d
  unfold tb_X5_weightOfTree
  refine fa_c (s_iconst dX5_weightOfTree_0 (by decide)) ?_
  refine fa_c (s_st_n dX5_weightOfTree_1 rfl (by decide)) ?_
  refine fa_c (s_iconst dX5_weightOfTree_2 (by decide)) ?_
  refine fa_c (s_st_n dX5_weightOfTree_3 rfl (by decide)) ?_
  refine fa_c (s_li_n dX5_weightOfTree_4 rfl) ?_
  refine fa_c (s_la_n dX5_weightOfTree_5 rfl) ?_
  refine fa_c (gf_X5_5 w_145 dX5_weightOfTree_6) ?_
  refine fa_c (s_ic_ge dX5_weightOfTree_9 (by decide)) ?_
  refine fa_c (s_la_n dX5_weightOfTree_12 rfl) ?_
  refine fa_c (gf_X5_3 w_143 dX5_weightOfTree_13) ?_
  refine fa_c (s_li_n dX5_weightOfTree_16 rfl) ?_
  refine fa_c (s_ia dX5_weightOfTree_17) ?_
  refine fa_c (s_iconst dX5_weightOfTree_18 (by decide)) ?_
  refine fa_c (s_ic_eq dX5_weightOfTree_19 (by decide)) ?_
  refine fa_c (s_li_n dX5_weightOfTree_22 rfl) ?_
  refine fa_c (s_la_n dX5_weightOfTree_23 rfl) ?_
  refine fa_c (gf_X5_2 w_142 dX5_weightOfTree_24) ?_
  refine fa_c (s_la_n dX5_weightOfTree_27 rfl) ?_
  refine fa_c (gf_X5_3 w_143 dX5_weightOfTree_28) ?_
  refine fa_c (s_li_n dX5_weightOfTree_31 rfl) ?_
  refine fa_c (s_ia dX5_weightOfTree_32) ?_
  refine fa_c (s_ia dX5_weightOfTree_33) ?_
  refine fa_c (s_i_add dX5_weightOfTree_34) ?_
  refine fa_c (s_st_n dX5_weightOfTree_35 rfl (by decide)) ?_
  refine fa_c (s_inc dX5_weightOfTree_36 (by decide) (by decide)) ?_
  refine fa_c (s_go dX5_weightOfTree_39 (by decide)) ?_
  refine fa_c (s_li_n dX5_weightOfTree_42 rfl) ?_
  refine fa_c (s_ri dX5_weightOfTree_43 rfl) ?_
  exact fun e he => absurd he List.not_mem_nil
theorem cl_X5_weightOfTree {G : GX} (hAp : Ap G) : Cl1 (Ct G mts) n_X5_weightOfTree tb_X5_weightOfTree := ct_cl (y := n_X5_weightOfTree) (yn := yX5_weightOfTree) rfl (by decide +kernel) (ok_X5_weightOfTree hAp)
theorem dX5_roadsOfTree_0 : decode cX5_roadsOfTree 0 = .ok (.iconst 0, 1) := by decide +kernel
theorem dX5_roadsOfTree_1 : decode cX5_roadsOfTree 1 = .ok (.istore_n 1, 1) := by decide +kernel
theorem dX5_roadsOfTree_2 : decode cX5_roadsOfTree 2 = .ok (.iconst 0, 1) := by decide +kernel
theorem dX5_roadsOfTree_3 : decode cX5_roadsOfTree 3 = .ok (.istore_n 2, 1) := by decide +kernel
theorem dX5_roadsOfTree_4 : decode cX5_roadsOfTree 4 = .ok (.iload_n 2, 1) := by decide +kernel
theorem dX5_roadsOfTree_5 : decode cX5_roadsOfTree 5 = .ok (.aload_n 0, 1) := by decide +kernel
theorem dX5_roadsOfTree_6 : decode cX5_roadsOfTree 6 = .ok (.getfield 33, 3) := by decide +kernel
theorem dX5_roadsOfTree_9 : decode cX5_roadsOfTree 9 = .ok (.if_icmp .ge 30, 3) := by decide +kernel
theorem dX5_roadsOfTree_12 : decode cX5_roadsOfTree 12 = .ok (.aload_n 0, 1) := by decide +kernel
theorem dX5_roadsOfTree_13 : decode cX5_roadsOfTree 13 = .ok (.getfield 21, 3) := by decide +kernel
theorem dX5_roadsOfTree_16 : decode cX5_roadsOfTree 16 = .ok (.iload_n 2, 1) := by decide +kernel
theorem dX5_roadsOfTree_17 : decode cX5_roadsOfTree 17 = .ok (.iaload, 1) := by decide +kernel
theorem dX5_roadsOfTree_18 : decode cX5_roadsOfTree 18 = .ok (.iconst (-1), 1) := by decide +kernel
theorem dX5_roadsOfTree_19 : decode cX5_roadsOfTree 19 = .ok (.if_icmp .eq 14, 3) := by decide +kernel
theorem dX5_roadsOfTree_22 : decode cX5_roadsOfTree 22 = .ok (.iload_n 1, 1) := by decide +kernel
theorem dX5_roadsOfTree_23 : decode cX5_roadsOfTree 23 = .ok (.iconst 1, 1) := by decide +kernel
theorem dX5_roadsOfTree_24 : decode cX5_roadsOfTree 24 = .ok (.aload_n 0, 1) := by decide +kernel
theorem dX5_roadsOfTree_25 : decode cX5_roadsOfTree 25 = .ok (.getfield 21, 3) := by decide +kernel
theorem dX5_roadsOfTree_28 : decode cX5_roadsOfTree 28 = .ok (.iload_n 2, 1) := by decide +kernel
theorem dX5_roadsOfTree_29 : decode cX5_roadsOfTree 29 = .ok (.iaload, 1) := by decide +kernel
theorem dX5_roadsOfTree_30 : decode cX5_roadsOfTree 30 = .ok (.ishl, 1) := by decide +kernel
theorem dX5_roadsOfTree_31 : decode cX5_roadsOfTree 31 = .ok (.ior, 1) := by decide +kernel
theorem dX5_roadsOfTree_32 : decode cX5_roadsOfTree 32 = .ok (.istore_n 1, 1) := by decide +kernel
theorem dX5_roadsOfTree_33 : decode cX5_roadsOfTree 33 = .ok (.iinc 2 1, 3) := by decide +kernel
theorem dX5_roadsOfTree_36 : decode cX5_roadsOfTree 36 = .ok (.goto (-32), 3) := by decide +kernel
theorem dX5_roadsOfTree_39 : decode cX5_roadsOfTree 39 = .ok (.iload_n 1, 1) := by decide +kernel
theorem dX5_roadsOfTree_40 : decode cX5_roadsOfTree 40 = .ok (.ireturn, 1) := by decide +kernel
set_option maxRecDepth 100000 in
theorem ok_X5_roadsOfTree {G : GX} (hAp : Ap G) : ∀ d, ∀ e ∈ tb_X5_roadsOfTree, Snd G mts yX5_roadsOfTree.cls cX5_roadsOfTree 3 (some .int) d none e.1 e.2 := by
  intro d
  unfold tb_X5_roadsOfTree
  refine fa_c (s_iconst dX5_roadsOfTree_0 (by decide)) ?_
  refine fa_c (s_st_n dX5_roadsOfTree_1 rfl (by decide)) ?_
  refine fa_c (s_iconst dX5_roadsOfTree_2 (by decide)) ?_
  refine fa_c (s_st_n dX5_roadsOfTree_3 rfl (by decide)) ?_
  refine fa_c (s_li_n dX5_roadsOfTree_4 rfl) ?_
  refine fa_c (s_la_n dX5_roadsOfTree_5 rfl) ?_
  refine fa_c (gf_X5_5 w_145 dX5_roadsOfTree_6) ?_
  refine fa_c (s_ic_ge dX5_roadsOfTree_9 (by decide)) ?_
  refine fa_c (s_la_n dX5_roadsOfTree_12 rfl) ?_
  refine fa_c (gf_X5_3 w_143 dX5_roadsOfTree_13) ?_
  refine fa_c (s_li_n dX5_roadsOfTree_16 rfl) ?_
  refine fa_c (s_ia dX5_roadsOfTree_17) ?_
  refine fa_c (s_iconst dX5_roadsOfTree_18 (by decide)) ?_
  refine fa_c (s_ic_eq dX5_roadsOfTree_19 (by decide)) ?_
  refine fa_c (s_li_n dX5_roadsOfTree_22 rfl) ?_
  refine fa_c (s_iconst dX5_roadsOfTree_23 (by decide)) ?_
  refine fa_c (s_la_n dX5_roadsOfTree_24 rfl) ?_
  refine fa_c (gf_X5_3 w_143 dX5_roadsOfTree_25) ?_
  refine fa_c (s_li_n dX5_roadsOfTree_28 rfl) ?_
  refine fa_c (s_ia dX5_roadsOfTree_29) ?_
  refine fa_c (s_i_shl dX5_roadsOfTree_30) ?_
  refine fa_c (s_i_or dX5_roadsOfTree_31) ?_
  refine fa_c (s_st_n dX5_roadsOfTree_32 rfl (by decide)) ?_
  refine fa_c (s_inc dX5_roadsOfTree_33 (by decide) (by decide)) ?_
  refine fa_c (s_go dX5_roadsOfTree_36 (by decide)) ?_
  refine fa_c (s_li_n dX5_roadsOfTree_39 rfl) ?_
  refine fa_c (s_ri dX5_roadsOfTree_40 rfl) ?_
  exact fun e he => absurd he List.not_mem_nil
theorem cl_X5_roadsOfTree {G : GX} (hAp : Ap G) : Cl1 (Ct G mts) n_X5_roadsOfTree tb_X5_roadsOfTree := ct_cl (y := n_X5_roadsOfTree) (yn := yX5_roadsOfTree) rfl (by decide +kernel) (ok_X5_roadsOfTree hAp)
theorem dX5_links_0 : decode cX5_links 0 = .ok (.aload_n 0, 1) := by decide +kernel
theorem dX5_links_1 : decode cX5_links 1 = .ok (.getfield 29, 3) := by decide +kernel
theorem dX5_links_4 : decode cX5_links 4 = .ok (.invokevirtual 92, 3) := by decide +kernel
theorem dX5_links_7 : decode cX5_links 7 = .ok (.ireturn, 1) := by decide +kernel
set_option maxRecDepth 100000 in
theorem ok_X5_links {G : GX} (hAp : Ap G) : ∀ d, ∀ e ∈ tb_X5_links, Snd G mts yX5_links.cls cX5_links 1 (some .int) d none e.1 e.2 := by
  intro d
  unfold tb_X5_links
  refine fa_c (s_la_n dX5_links_0 rfl) ?_
  refine fa_c (gf_X5_4 w_144 dX5_links_1) ?_
  refine fa_c (s_cv mo_X2_links co_X2 (by decide) (fun _ _ => ⟨_, rfl⟩) dX5_links_4 w_567 w_400 w_401 (by decide)) ?_
  refine fa_c (s_ri dX5_links_7 rfl) ?_
  exact fun e he => absurd he List.not_mem_nil
theorem cl_X5_links {G : GX} (hAp : Ap G) : Cl1 (Ct G mts) n_X5_links tb_X5_links := ct_cl (y := n_X5_links) (yn := yX5_links) rfl (by decide +kernel) (ok_X5_links hAp)
theorem dX5_cuts_0 : decode cX5_cuts 0 = .ok (.aload_n 0, 1) := by decide +kernel
theorem dX5_cuts_1 : decode cX5_cuts 1 = .ok (.getfield 29, 3) := by decide +kernel
theorem dX5_cuts_4 : decode cX5_cuts 4 = .ok (.invokevirtual 95, 3) := by decide +kernel
theorem dX5_cuts_7 : decode cX5_cuts 7 = .ok (.ireturn, 1) := by decide +kernel
set_option maxRecDepth 100000 in
theorem ok_X5_cuts {G : GX} (hAp : Ap G) : ∀ d, ∀ e ∈ tb_X5_cuts, Snd G mts yX5_cuts.cls cX5_cuts 1 (some .int) d none e.1 e.2 := by
  intro d
  unfold tb_X5_cuts
  refine fa_c (s_la_n dX5_cuts_0 rfl) ?_
  refine fa_c (gf_X5_4 w_144 dX5_cuts_1) ?_
  refine fa_c (s_cv mo_X2_cuts co_X2 (by decide) (fun _ _ => ⟨_, rfl⟩) dX5_cuts_4 w_572 w_404 w_405 (by decide)) ?_
  refine fa_c (s_ri dX5_cuts_7 rfl) ?_
  exact fun e he => absurd he List.not_mem_nil
theorem cl_X5_cuts {G : GX} (hAp : Ap G) : Cl1 (Ct G mts) n_X5_cuts tb_X5_cuts := ct_cl (y := n_X5_cuts) (yn := yX5_cuts) rfl (by decide +kernel) (ok_X5_cuts hAp)
theorem dX5_lowerings_0 : decode cX5_lowerings 0 = .ok (.aload_n 0, 1) := by decide +kernel
theorem dX5_lowerings_1 : decode cX5_lowerings 1 = .ok (.getfield 67, 3) := by decide +kernel
theorem dX5_lowerings_4 : decode cX5_lowerings 4 = .ok (.ireturn, 1) := by decide +kernel
set_option maxRecDepth 100000 in
theorem ok_X5_lowerings {G : GX} (hAp : Ap G) : ∀ d, ∀ e ∈ tb_X5_lowerings, Snd G mts yX5_lowerings.cls cX5_lowerings 1 (some .int) d none e.1 e.2 := by
  intro d
  unfold tb_X5_lowerings
  refine fa_c (s_la_n dX5_lowerings_0 rfl) ?_
  refine fa_c (gf_X5_7 w_147 dX5_lowerings_1) ?_
  refine fa_c (s_ri dX5_lowerings_4 rfl) ?_
  exact fun e he => absurd he List.not_mem_nil
theorem cl_X5_lowerings {G : GX} (hAp : Ap G) : Cl1 (Ct G mts) n_X5_lowerings tb_X5_lowerings := ct_cl (y := n_X5_lowerings) (yn := yX5_lowerings) rfl (by decide +kernel) (ok_X5_lowerings hAp)
theorem dX5_distanceTo_0 : decode cX5_distanceTo 0 = .ok (.aload_n 0, 1) := by decide +kernel
theorem dX5_distanceTo_1 : decode cX5_distanceTo 1 = .ok (.iload_n 1, 1) := by decide +kernel
theorem dX5_distanceTo_2 : decode cX5_distanceTo 2 = .ok (.invokevirtual 55, 3) := by decide +kernel
theorem dX5_distanceTo_5 : decode cX5_distanceTo 5 = .ok (.ifCond .eq 14, 3) := by decide +kernel
theorem dX5_distanceTo_8 : decode cX5_distanceTo 8 = .ok (.aload_n 0, 1) := by decide +kernel
theorem dX5_distanceTo_9 : decode cX5_distanceTo 9 = .ok (.getfield 29, 3) := by decide +kernel
theorem dX5_distanceTo_12 : decode cX5_distanceTo 12 = .ok (.iload_n 1, 1) := by decide +kernel
theorem dX5_distanceTo_13 : decode cX5_distanceTo 13 = .ok (.invokevirtual 59, 3) := by decide +kernel
theorem dX5_distanceTo_16 : decode cX5_distanceTo 16 = .ok (.goto 4, 3) := by decide +kernel
theorem dX5_distanceTo_19 : decode cX5_distanceTo 19 = .ok (.iconst (-1), 1) := by decide +kernel
theorem dX5_distanceTo_20 : decode cX5_distanceTo 20 = .ok (.ireturn, 1) := by decide +kernel
set_option maxRecDepth 100000 in
theorem ok_X5_distanceTo {G : GX} (hAp : Ap G) : ∀ d, ∀ e ∈ tb_X5_distanceTo, Snd G mts yX5_distanceTo.cls cX5_distanceTo 2 (some .int) d none e.1 e.2 := by
  intro d
  unfold tb_X5_distanceTo
  refine fa_c (s_la_n dX5_distanceTo_0 rfl) ?_
  refine fa_c (s_li_n dX5_distanceTo_1 rfl) ?_
  refine fa_c (s_cv mo_X5_isReached co_X5 (by decide) (fun _ _ => ⟨_, rfl⟩) dX5_distanceTo_2 w_540 w_542 w_15 (by decide)) ?_
  refine fa_c (s_if_eq dX5_distanceTo_5 (by decide)) ?_
  refine fa_c (s_la_n dX5_distanceTo_8 rfl) ?_
  refine fa_c (gf_X5_4 w_144 dX5_distanceTo_9) ?_
  refine fa_c (s_li_n dX5_distanceTo_12 rfl) ?_
  refine fa_c (s_cv mo_X2_keyOf co_X2 (by decide) (fun _ _ => ⟨_, rfl⟩) dX5_distanceTo_13 w_544 w_248 w_249 (by decide)) ?_
  refine fa_c (s_go dX5_distanceTo_16 (by decide)) ?_
  refine fa_c (s_iconst dX5_distanceTo_19 (by decide)) ?_
  refine fa_c (s_ri dX5_distanceTo_20 rfl) ?_
  exact fun e he => absurd he List.not_mem_nil
theorem cl_X5_distanceTo {G : GX} (hAp : Ap G) : Cl1 (Ct G mts) n_X5_distanceTo tb_X5_distanceTo := ct_cl (y := n_X5_distanceTo) (yn := yX5_distanceTo) rfl (by decide +kernel) (ok_X5_distanceTo hAp)
theorem dX5_reachedCount_0 : decode cX5_reachedCount 0 = .ok (.iconst 0, 1) := by decide +kernel
theorem dX5_reachedCount_1 : decode cX5_reachedCount 1 = .ok (.istore_n 1, 1) := by decide +kernel
theorem dX5_reachedCount_2 : decode cX5_reachedCount 2 = .ok (.iconst 0, 1) := by decide +kernel
theorem dX5_reachedCount_3 : decode cX5_reachedCount 3 = .ok (.istore_n 2, 1) := by decide +kernel
theorem dX5_reachedCount_4 : decode cX5_reachedCount 4 = .ok (.iload_n 2, 1) := by decide +kernel
theorem dX5_reachedCount_5 : decode cX5_reachedCount 5 = .ok (.aload_n 0, 1) := by decide +kernel
theorem dX5_reachedCount_6 : decode cX5_reachedCount 6 = .ok (.getfield 33, 3) := by decide +kernel
theorem dX5_reachedCount_9 : decode cX5_reachedCount 9 = .ok (.if_icmp .ge 20, 3) := by decide +kernel
theorem dX5_reachedCount_12 : decode cX5_reachedCount 12 = .ok (.aload_n 0, 1) := by decide +kernel
theorem dX5_reachedCount_13 : decode cX5_reachedCount 13 = .ok (.iload_n 2, 1) := by decide +kernel
theorem dX5_reachedCount_14 : decode cX5_reachedCount 14 = .ok (.invokevirtual 55, 3) := by decide +kernel
theorem dX5_reachedCount_17 : decode cX5_reachedCount 17 = .ok (.ifCond .eq 6, 3) := by decide +kernel
theorem dX5_reachedCount_20 : decode cX5_reachedCount 20 = .ok (.iinc 1 1, 3) := by decide +kernel
theorem dX5_reachedCount_23 : decode cX5_reachedCount 23 = .ok (.iinc 2 1, 3) := by decide +kernel
theorem dX5_reachedCount_26 : decode cX5_reachedCount 26 = .ok (.goto (-22), 3) := by decide +kernel
theorem dX5_reachedCount_29 : decode cX5_reachedCount 29 = .ok (.iload_n 1, 1) := by decide +kernel
theorem dX5_reachedCount_30 : decode cX5_reachedCount 30 = .ok (.ireturn, 1) := by decide +kernel
set_option maxRecDepth 100000 in
theorem ok_X5_reachedCount {G : GX} (hAp : Ap G) : ∀ d, ∀ e ∈ tb_X5_reachedCount, Snd G mts yX5_reachedCount.cls cX5_reachedCount 3 (some .int) d none e.1 e.2 := by
  intro d
  unfold tb_X5_reachedCount
  refine fa_c (s_iconst dX5_reachedCount_0 (by decide)) ?_
  refine fa_c (s_st_n dX5_reachedCount_1 rfl (by decide)) ?_
  refine fa_c (s_iconst dX5_reachedCount_2 (by decide)) ?_
  refine fa_c (s_st_n dX5_reachedCount_3 rfl (by decide)) ?_
  refine fa_c (s_li_n dX5_reachedCount_4 rfl) ?_
  refine fa_c (s_la_n dX5_reachedCount_5 rfl) ?_
  refine fa_c (gf_X5_5 w_145 dX5_reachedCount_6) ?_
  refine fa_c (s_ic_ge dX5_reachedCount_9 (by decide)) ?_
  refine fa_c (s_la_n dX5_reachedCount_12 rfl) ?_
  refine fa_c (s_li_n dX5_reachedCount_13 rfl) ?_
  refine fa_c (s_cv mo_X5_isReached co_X5 (by decide) (fun _ _ => ⟨_, rfl⟩) dX5_reachedCount_14 w_540 w_542 w_15 (by decide)) ?_
  refine fa_c (s_if_eq dX5_reachedCount_17 (by decide)) ?_
  refine fa_c (s_inc dX5_reachedCount_20 (by decide) (by decide)) ?_
  refine fa_c (s_inc dX5_reachedCount_23 (by decide) (by decide)) ?_
  refine fa_c (s_go dX5_reachedCount_26 (by decide)) ?_
  refine fa_c (s_li_n dX5_reachedCount_29 rfl) ?_
  refine fa_c (s_ri dX5_reachedCount_30 rfl) ?_
  exact fun e he => absurd he List.not_mem_nil
theorem cl_X5_reachedCount {G : GX} (hAp : Ap G) : Cl1 (Ct G mts) n_X5_reachedCount tb_X5_reachedCount := ct_cl (y := n_X5_reachedCount) (yn := yX5_reachedCount) rfl (by decide +kernel) (ok_X5_reachedCount hAp)
theorem dX6_put_0 : decode cX6_put 0 = .ok (.iload_n 1, 1) := by decide +kernel
theorem dX6_put_1 : decode cX6_put 1 = .ok (.iconst 0, 1) := by decide +kernel
theorem dX6_put_2 : decode cX6_put 2 = .ok (.iconst 1, 1) := by decide +kernel
theorem dX6_put_3 : decode cX6_put 3 = .ok (.invokestatic 46, 3) := by decide +kernel
theorem dX6_put_6 : decode cX6_put 6 = .ok (.ifCond .eq 10, 3) := by decide +kernel
theorem dX6_put_9 : decode cX6_put 9 = .ok (.iload_n 2, 1) := by decide +kernel
theorem dX6_put_10 : decode cX6_put 10 = .ok (.invokestatic 50, 3) := by decide +kernel
theorem dX6_put_13 : decode cX6_put 13 = .ok (.ifCond .ne 6, 3) := by decide +kernel
theorem dX6_put_16 : decode cX6_put 16 = .ok (.ldc 54, 2) := by decide +kernel
theorem dX6_put_18 : decode cX6_put 18 = .ok (.ireturn, 1) := by decide +kernel
theorem dX6_put_19 : decode cX6_put 19 = .ok (.aload_n 0, 1) := by decide +kernel
theorem dX6_put_20 : decode cX6_put 20 = .ok (.getfield 14, 3) := by decide +kernel
theorem dX6_put_23 : decode cX6_put 23 = .ok (.invokevirtual 55, 3) := by decide +kernel
theorem dX6_put_26 : decode cX6_put 26 = .ok (.ifCond .ne 6, 3) := by decide +kernel
theorem dX6_put_29 : decode cX6_put 29 = .ok (.ldc 59, 2) := by decide +kernel
theorem dX6_put_31 : decode cX6_put 31 = .ok (.ireturn, 1) := by decide +kernel
theorem dX6_put_32 : decode cX6_put 32 = .ok (.aload_n 0, 1) := by decide +kernel
theorem dX6_put_33 : decode cX6_put 33 = .ok (.getfield 14, 3) := by decide +kernel
theorem dX6_put_36 : decode cX6_put 36 = .ok (.iload_n 1, 1) := by decide +kernel
theorem dX6_put_37 : decode cX6_put 37 = .ok (.iload_n 2, 1) := by decide +kernel
theorem dX6_put_38 : decode cX6_put 38 = .ok (.invokevirtual 60, 3) := by decide +kernel
theorem dX6_put_41 : decode cX6_put 41 = .ok (.ireturn, 1) := by decide +kernel
set_option maxRecDepth 100000 in
theorem ok_X6_put {G : GX} (hAp : Ap G) : ∀ d, ∀ e ∈ tb_X6_put, Snd G mts yX6_put.cls cX6_put 3 (some .int) d none e.1 e.2 := by
  intro d
  unfold tb_X6_put
  refine fa_c (s_li_n dX6_put_0 rfl) ?_
  refine fa_c (s_iconst dX6_put_1 (by decide)) ?_
  refine fa_c (s_iconst dX6_put_2 (by decide)) ?_
  refine fa_c (s_cs mo_X6_between dX6_put_3 w_216 w_217 (by decide)) ?_
  refine fa_c (s_if_eq dX6_put_6 (by decide)) ?_
  refine fa_c (s_li_n dX6_put_9 rfl) ?_
  refine fa_c (s_cs mo_X6_isKey dX6_put_10 w_219 w_220 (by decide)) ?_
  refine fa_c (s_if_ne dX6_put_13 (by decide)) ?_
  refine fa_c (s_ldc dX6_put_16 w_222) ?_
  refine fa_c (s_ri dX6_put_18 rfl) ?_
  refine fa_c (s_la_n dX6_put_19 rfl) ?_
  refine fa_c (gf_X6_0 w_196 dX6_put_20) ?_
  refine fa_c (s_cv mo_X2_hasRoom co_X2 (by decide) (fun _ _ => ⟨_, rfl⟩) dX6_put_23 w_223 w_224 w_225 (by decide)) ?_
  refine fa_c (s_if_ne dX6_put_26 (by decide)) ?_
  refine fa_c (s_ldc dX6_put_29 w_227) ?_
  refine fa_c (s_ri dX6_put_31 rfl) ?_
  refine fa_c (s_la_n dX6_put_32 rfl) ?_
  refine fa_c (gf_X6_0 w_196 dX6_put_33) ?_
  refine fa_c (s_li_n dX6_put_36 rfl) ?_
  refine fa_c (s_li_n dX6_put_37 rfl) ?_
  refine fa_c (s_cv mo_X2_add co_X2 (by decide) (fun _ _ => ⟨_, rfl⟩) dX6_put_38 w_228 w_229 w_230 (by decide)) ?_
  refine fa_c (s_ri dX6_put_41 rfl) ?_
  exact fun e he => absurd he List.not_mem_nil
theorem cl_X6_put {G : GX} (hAp : Ap G) : Cl1 (Ct G mts) n_X6_put tb_X6_put := ct_cl (y := n_X6_put) (yn := yX6_put) rfl (by decide +kernel) (ok_X6_put hAp)
theorem dX6_lower_0 : decode cX6_lower 0 = .ok (.aload_n 0, 1) := by decide +kernel
theorem dX6_lower_1 : decode cX6_lower 1 = .ok (.getfield 14, 3) := by decide +kernel
theorem dX6_lower_4 : decode cX6_lower 4 = .ok (.iload_n 1, 1) := by decide +kernel
theorem dX6_lower_5 : decode cX6_lower 5 = .ok (.invokevirtual 64, 3) := by decide +kernel
theorem dX6_lower_8 : decode cX6_lower 8 = .ok (.ifCond .ne 6, 3) := by decide +kernel
theorem dX6_lower_11 : decode cX6_lower 11 = .ok (.ldc 67, 2) := by decide +kernel
theorem dX6_lower_13 : decode cX6_lower 13 = .ok (.ireturn, 1) := by decide +kernel
theorem dX6_lower_14 : decode cX6_lower 14 = .ok (.iload_n 2, 1) := by decide +kernel
theorem dX6_lower_15 : decode cX6_lower 15 = .ok (.invokestatic 50, 3) := by decide +kernel
theorem dX6_lower_18 : decode cX6_lower 18 = .ok (.ifCond .ne 6, 3) := by decide +kernel
theorem dX6_lower_21 : decode cX6_lower 21 = .ok (.ldc 54, 2) := by decide +kernel
theorem dX6_lower_23 : decode cX6_lower 23 = .ok (.ireturn, 1) := by decide +kernel
theorem dX6_lower_24 : decode cX6_lower 24 = .ok (.aload_n 0, 1) := by decide +kernel
theorem dX6_lower_25 : decode cX6_lower 25 = .ok (.getfield 14, 3) := by decide +kernel
theorem dX6_lower_28 : decode cX6_lower 28 = .ok (.iload_n 1, 1) := by decide +kernel
theorem dX6_lower_29 : decode cX6_lower 29 = .ok (.invokevirtual 68, 3) := by decide +kernel
theorem dX6_lower_32 : decode cX6_lower 32 = .ok (.ifCond .eq 15, 3) := by decide +kernel
theorem dX6_lower_35 : decode cX6_lower 35 = .ok (.iload_n 2, 1) := by decide +kernel
theorem dX6_lower_36 : decode cX6_lower 36 = .ok (.aload_n 0, 1) := by decide +kernel
theorem dX6_lower_37 : decode cX6_lower 37 = .ok (.getfield 14, 3) := by decide +kernel
theorem dX6_lower_40 : decode cX6_lower 40 = .ok (.iload_n 1, 1) := by decide +kernel
theorem dX6_lower_41 : decode cX6_lower 41 = .ok (.invokevirtual 71, 3) := by decide +kernel
theorem dX6_lower_44 : decode cX6_lower 44 = .ok (.if_icmp .lt 6, 3) := by decide +kernel
theorem dX6_lower_47 : decode cX6_lower 47 = .ok (.ldc 75, 2) := by decide +kernel
theorem dX6_lower_49 : decode cX6_lower 49 = .ok (.ireturn, 1) := by decide +kernel
theorem dX6_lower_50 : decode cX6_lower 50 = .ok (.aload_n 0, 1) := by decide +kernel
theorem dX6_lower_51 : decode cX6_lower 51 = .ok (.getfield 14, 3) := by decide +kernel
theorem dX6_lower_54 : decode cX6_lower 54 = .ok (.iload_n 1, 1) := by decide +kernel
theorem dX6_lower_55 : decode cX6_lower 55 = .ok (.iload_n 2, 1) := by decide +kernel
theorem dX6_lower_56 : decode cX6_lower 56 = .ok (.invokevirtual 76, 3) := by decide +kernel
theorem dX6_lower_59 : decode cX6_lower 59 = .ok (.aload_n 0, 1) := by decide +kernel
theorem dX6_lower_60 : decode cX6_lower 60 = .ok (.getfield 14, 3) := by decide +kernel
theorem dX6_lower_63 : decode cX6_lower 63 = .ok (.iload_n 1, 1) := by decide +kernel
theorem dX6_lower_64 : decode cX6_lower 64 = .ok (.invokevirtual 80, 3) := by decide +kernel
theorem dX6_lower_67 : decode cX6_lower 67 = .ok (.invokestatic 83, 3) := by decide +kernel
theorem dX6_lower_70 : decode cX6_lower 70 = .ok (.ireturn, 1) := by decide +kernel
set_option maxRecDepth 100000 in
theorem ok_X6_lower {G : GX} (hAp : Ap G) : ∀ d, ∀ e ∈ tb_X6_lower, Snd G mts yX6_lower.cls cX6_lower 3 (some .int) d none e.1 e.2 := by
  intro d
  unfold tb_X6_lower
  refine fa_c (s_la_n dX6_lower_0 rfl) ?_
  refine fa_c (gf_X6_0 w_196 dX6_lower_1) ?_
  refine fa_c (s_li_n dX6_lower_4 rfl) ?_
  refine fa_c (s_cv mo_X2_has co_X2 (by decide) (fun _ _ => ⟨_, rfl⟩) dX6_lower_5 w_238 w_239 w_240 (by decide)) ?_
  refine fa_c (s_if_ne dX6_lower_8 (by decide)) ?_
  refine fa_c (s_ldc dX6_lower_11 w_242) ?_
  refine fa_c (s_ri dX6_lower_13 rfl) ?_
  refine fa_c (s_li_n dX6_lower_14 rfl) ?_
  refine fa_c (s_cs mo_X6_isKey dX6_lower_15 w_219 w_220 (by decide)) ?_
  refine fa_c (s_if_ne dX6_lower_18 (by decide)) ?_
  refine fa_c (s_ldc dX6_lower_21 w_222) ?_
  refine fa_c (s_ri dX6_lower_23 rfl) ?_
  refine fa_c (s_la_n dX6_lower_24 rfl) ?_
  refine fa_c (gf_X6_0 w_196 dX6_lower_25) ?_
  refine fa_c (s_li_n dX6_lower_28 rfl) ?_
  refine fa_c (s_cv mo_X2_isStanding co_X2 (by decide) (fun _ _ => ⟨_, rfl⟩) dX6_lower_29 w_243 w_244 w_245 (by decide)) ?_
  refine fa_c (s_if_eq dX6_lower_32 (by decide)) ?_
  refine fa_c (s_li_n dX6_lower_35 rfl) ?_
  refine fa_c (s_la_n dX6_lower_36 rfl) ?_
  refine fa_c (gf_X6_0 w_196 dX6_lower_37) ?_
  refine fa_c (s_li_n dX6_lower_40 rfl) ?_
  refine fa_c (s_cv mo_X2_keyOf co_X2 (by decide) (fun _ _ => ⟨_, rfl⟩) dX6_lower_41 w_247 w_248 w_249 (by decide)) ?_
  refine fa_c (s_ic_lt dX6_lower_44 (by decide)) ?_
  refine fa_c (s_ldc dX6_lower_47 w_251) ?_
  refine fa_c (s_ri dX6_lower_49 rfl) ?_
  refine fa_c (s_la_n dX6_lower_50 rfl) ?_
  refine fa_c (gf_X6_0 w_196 dX6_lower_51) ?_
  refine fa_c (s_li_n dX6_lower_54 rfl) ?_
  refine fa_c (s_li_n dX6_lower_55 rfl) ?_
  refine fa_c (s_cv mo_X2_lowerTo co_X2 (by decide) (fun _ _ => ⟨_, rfl⟩) dX6_lower_56 w_252 w_253 w_254 (by decide)) ?_
  refine fa_c (s_la_n dX6_lower_59 rfl) ?_
  refine fa_c (gf_X6_0 w_196 dX6_lower_60) ?_
  refine fa_c (s_li_n dX6_lower_63 rfl) ?_
  refine fa_c (s_cv mo_X2_isLoose co_X2 (by decide) (fun _ _ => ⟨_, rfl⟩) dX6_lower_64 w_289 w_290 w_291 (by decide)) ?_
  refine fa_c (s_cs mo_X6_flag dX6_lower_67 w_293 w_294 (by decide)) ?_
  refine fa_c (s_ri dX6_lower_70 rfl) ?_
  exact fun e he => absurd he List.not_mem_nil
theorem cl_X6_lower {G : GX} (hAp : Ap G) : Cl1 (Ct G mts) n_X6_lower tb_X6_lower := ct_cl (y := n_X6_lower) (yn := yX6_lower) rfl (by decide +kernel) (ok_X6_lower hAp)
theorem dX6_take_0 : decode cX6_take 0 = .ok (.aload_n 0, 1) := by decide +kernel
theorem dX6_take_1 : decode cX6_take 1 = .ok (.getfield 14, 3) := by decide +kernel
theorem dX6_take_4 : decode cX6_take 4 = .ok (.invokevirtual 87, 3) := by decide +kernel
theorem dX6_take_7 : decode cX6_take 7 = .ok (.istore_n 1, 1) := by decide +kernel
theorem dX6_take_8 : decode cX6_take 8 = .ok (.iload_n 1, 1) := by decide +kernel
theorem dX6_take_9 : decode cX6_take 9 = .ok (.iconst (-1), 1) := by decide +kernel
theorem dX6_take_10 : decode cX6_take 10 = .ok (.if_icmp .ne 6, 3) := by decide +kernel
theorem dX6_take_13 : decode cX6_take 13 = .ok (.ldc 75, 2) := by decide +kernel
theorem dX6_take_15 : decode cX6_take 15 = .ok (.ireturn, 1) := by decide +kernel
theorem dX6_take_16 : decode cX6_take 16 = .ok (.aload_n 0, 1) := by decide +kernel
theorem dX6_take_17 : decode cX6_take 17 = .ok (.getfield 14, 3) := by decide +kernel
theorem dX6_take_20 : decode cX6_take 20 = .ok (.iload_n 1, 1) := by decide +kernel
theorem dX6_take_21 : decode cX6_take 21 = .ok (.invokevirtual 91, 3) := by decide +kernel
theorem dX6_take_24 : decode cX6_take 24 = .ok (.iload_n 1, 1) := by decide +kernel
theorem dX6_take_25 : decode cX6_take 25 = .ok (.ireturn, 1) := by decide +kernel
set_option maxRecDepth 100000 in
theorem ok_X6_take {G : GX} (hAp : Ap G) : ∀ d, ∀ e ∈ tb_X6_take, Snd G mts yX6_take.cls cX6_take 2 (some .int) d none e.1 e.2 := by
  intro d
  unfold tb_X6_take
  refine fa_c (s_la_n dX6_take_0 rfl) ?_
  refine fa_c (gf_X6_0 w_196 dX6_take_1) ?_
  refine fa_c (s_cv mo_X2_soonest co_X2 (by decide) (fun _ _ => ⟨_, rfl⟩) dX6_take_4 w_300 w_301 w_302 (by decide)) ?_
  refine fa_c (s_st_n dX6_take_7 rfl (by decide)) ?_
  refine fa_c (s_li_n dX6_take_8 rfl) ?_
  refine fa_c (s_iconst dX6_take_9 (by decide)) ?_
  refine fa_c (s_ic_ne dX6_take_10 (by decide)) ?_
  refine fa_c (s_ldc dX6_take_13 w_251) ?_
  refine fa_c (s_ri dX6_take_15 rfl) ?_
  refine fa_c (s_la_n dX6_take_16 rfl) ?_
  refine fa_c (gf_X6_0 w_196 dX6_take_17) ?_
  refine fa_c (s_li_n dX6_take_20 rfl) ?_
  refine fa_c (s_cv mo_X2_takeOut co_X2 (by decide) (fun _ _ => ⟨_, rfl⟩) dX6_take_21 w_304 w_305 w_306 (by decide)) ?_
  refine fa_c (s_li_n dX6_take_24 rfl) ?_
  refine fa_c (s_ri dX6_take_25 rfl) ?_
  exact fun e he => absurd he List.not_mem_nil
theorem cl_X6_take {G : GX} (hAp : Ap G) : Cl1 (Ct G mts) n_X6_take tb_X6_take := ct_cl (y := n_X6_take) (yn := yX6_take) rfl (by decide +kernel) (ok_X6_take hAp)
theorem dX6_drop_0 : decode cX6_drop 0 = .ok (.aload_n 0, 1) := by decide +kernel
theorem dX6_drop_1 : decode cX6_drop 1 = .ok (.getfield 14, 3) := by decide +kernel
theorem dX6_drop_4 : decode cX6_drop 4 = .ok (.iload_n 1, 1) := by decide +kernel
theorem dX6_drop_5 : decode cX6_drop 5 = .ok (.invokevirtual 64, 3) := by decide +kernel
theorem dX6_drop_8 : decode cX6_drop 8 = .ok (.ifCond .ne 6, 3) := by decide +kernel
theorem dX6_drop_11 : decode cX6_drop 11 = .ok (.ldc 67, 2) := by decide +kernel
theorem dX6_drop_13 : decode cX6_drop 13 = .ok (.ireturn, 1) := by decide +kernel
theorem dX6_drop_14 : decode cX6_drop 14 = .ok (.aload_n 0, 1) := by decide +kernel
theorem dX6_drop_15 : decode cX6_drop 15 = .ok (.getfield 14, 3) := by decide +kernel
theorem dX6_drop_18 : decode cX6_drop 18 = .ok (.iload_n 1, 1) := by decide +kernel
theorem dX6_drop_19 : decode cX6_drop 19 = .ok (.invokevirtual 68, 3) := by decide +kernel
theorem dX6_drop_22 : decode cX6_drop 22 = .ok (.ifCond .ne 6, 3) := by decide +kernel
theorem dX6_drop_25 : decode cX6_drop 25 = .ok (.ldc 75, 2) := by decide +kernel
theorem dX6_drop_27 : decode cX6_drop 27 = .ok (.ireturn, 1) := by decide +kernel
theorem dX6_drop_28 : decode cX6_drop 28 = .ok (.aload_n 0, 1) := by decide +kernel
theorem dX6_drop_29 : decode cX6_drop 29 = .ok (.getfield 14, 3) := by decide +kernel
theorem dX6_drop_32 : decode cX6_drop 32 = .ok (.iload_n 1, 1) := by decide +kernel
theorem dX6_drop_33 : decode cX6_drop 33 = .ok (.invokevirtual 91, 3) := by decide +kernel
theorem dX6_drop_36 : decode cX6_drop 36 = .ok (.aload_n 0, 1) := by decide +kernel
theorem dX6_drop_37 : decode cX6_drop 37 = .ok (.getfield 14, 3) := by decide +kernel
theorem dX6_drop_40 : decode cX6_drop 40 = .ok (.invokevirtual 94, 3) := by decide +kernel
theorem dX6_drop_43 : decode cX6_drop 43 = .ok (.ireturn, 1) := by decide +kernel
set_option maxRecDepth 100000 in
theorem ok_X6_drop {G : GX} (hAp : Ap G) : ∀ d, ∀ e ∈ tb_X6_drop, Snd G mts yX6_drop.cls cX6_drop 2 (some .int) d none e.1 e.2 := by
  intro d
  unfold tb_X6_drop
  refine fa_c (s_la_n dX6_drop_0 rfl) ?_
  refine fa_c (gf_X6_0 w_196 dX6_drop_1) ?_
  refine fa_c (s_li_n dX6_drop_4 rfl) ?_
  refine fa_c (s_cv mo_X2_has co_X2 (by decide) (fun _ _ => ⟨_, rfl⟩) dX6_drop_5 w_238 w_239 w_240 (by decide)) ?_
  refine fa_c (s_if_ne dX6_drop_8 (by decide)) ?_
  refine fa_c (s_ldc dX6_drop_11 w_242) ?_
  refine fa_c (s_ri dX6_drop_13 rfl) ?_
  refine fa_c (s_la_n dX6_drop_14 rfl) ?_
  refine fa_c (gf_X6_0 w_196 dX6_drop_15) ?_
  refine fa_c (s_li_n dX6_drop_18 rfl) ?_
  refine fa_c (s_cv mo_X2_isStanding co_X2 (by decide) (fun _ _ => ⟨_, rfl⟩) dX6_drop_19 w_243 w_244 w_245 (by decide)) ?_
  refine fa_c (s_if_ne dX6_drop_22 (by decide)) ?_
  refine fa_c (s_ldc dX6_drop_25 w_251) ?_
  refine fa_c (s_ri dX6_drop_27 rfl) ?_
  refine fa_c (s_la_n dX6_drop_28 rfl) ?_
  refine fa_c (gf_X6_0 w_196 dX6_drop_29) ?_
  refine fa_c (s_li_n dX6_drop_32 rfl) ?_
  refine fa_c (s_cv mo_X2_takeOut co_X2 (by decide) (fun _ _ => ⟨_, rfl⟩) dX6_drop_33 w_304 w_305 w_306 (by decide)) ?_
  refine fa_c (s_la_n dX6_drop_36 rfl) ?_
  refine fa_c (gf_X6_0 w_196 dX6_drop_37) ?_
  refine fa_c (s_cv mo_X2_standingCount co_X2 (by decide) (fun _ _ => ⟨_, rfl⟩) dX6_drop_40 w_320 w_321 w_322 (by decide)) ?_
  refine fa_c (s_ri dX6_drop_43 rfl) ?_
  exact fun e he => absurd he List.not_mem_nil
theorem cl_X6_drop {G : GX} (hAp : Ap G) : Cl1 (Ct G mts) n_X6_drop tb_X6_drop := ct_cl (y := n_X6_drop) (yn := yX6_drop) rfl (by decide +kernel) (ok_X6_drop hAp)
theorem dX6_join_0 : decode cX6_join 0 = .ok (.aload_n 0, 1) := by decide +kernel
theorem dX6_join_1 : decode cX6_join 1 = .ok (.getfield 14, 3) := by decide +kernel
theorem dX6_join_4 : decode cX6_join 4 = .ok (.invokevirtual 97, 3) := by decide +kernel
theorem dX6_join_7 : decode cX6_join 7 = .ok (.ireturn, 1) := by decide +kernel
set_option maxRecDepth 100000 in
theorem ok_X6_join {G : GX} (hAp : Ap G) : ∀ d, ∀ e ∈ tb_X6_join, Snd G mts yX6_join.cls cX6_join 1 (some .int) d none e.1 e.2 := by
  intro d
  unfold tb_X6_join
  refine fa_c (s_la_n dX6_join_0 rfl) ?_
  refine fa_c (gf_X6_0 w_196 dX6_join_1) ?_
  refine fa_c (s_cv mo_X2_joinAll co_X2 (by decide) (fun _ _ => ⟨_, rfl⟩) dX6_join_4 w_328 w_313 w_314 (by decide)) ?_
  refine fa_c (s_ri dX6_join_7 rfl) ?_
  exact fun e he => absurd he List.not_mem_nil
theorem cl_X6_join {G : GX} (hAp : Ap G) : Cl1 (Ct G mts) n_X6_join tb_X6_join := ct_cl (y := n_X6_join) (yn := yX6_join) rfl (by decide +kernel) (ok_X6_join hAp)
theorem dX6_clear_0 : decode cX6_clear 0 = .ok (.aload_n 0, 1) := by decide +kernel
theorem dX6_clear_1 : decode cX6_clear 1 = .ok (.getfield 14, 3) := by decide +kernel
theorem dX6_clear_4 : decode cX6_clear 4 = .ok (.invokevirtual 100, 3) := by decide +kernel
theorem dX6_clear_7 : decode cX6_clear 7 = .ok (.istore_n 1, 1) := by decide +kernel
theorem dX6_clear_8 : decode cX6_clear 8 = .ok (.aload_n 0, 1) := by decide +kernel
theorem dX6_clear_9 : decode cX6_clear 9 = .ok (.getfield 14, 3) := by decide +kernel
theorem dX6_clear_12 : decode cX6_clear 12 = .ok (.invokevirtual 103, 3) := by decide +kernel
theorem dX6_clear_15 : decode cX6_clear 15 = .ok (.aload_n 0, 1) := by decide +kernel
theorem dX6_clear_16 : decode cX6_clear 16 = .ok (.getfield 21, 3) := by decide +kernel
theorem dX6_clear_19 : decode cX6_clear 19 = .ok (.invokevirtual 106, 3) := by decide +kernel
theorem dX6_clear_22 : decode cX6_clear 22 = .ok (.iload_n 1, 1) := by decide +kernel
theorem dX6_clear_23 : decode cX6_clear 23 = .ok (.ireturn, 1) := by decide +kernel
set_option maxRecDepth 100000 in
theorem ok_X6_clear {G : GX} (hAp : Ap G) : ∀ d, ∀ e ∈ tb_X6_clear, Snd G mts yX6_clear.cls cX6_clear 2 (some .int) d none e.1 e.2 := by
  intro d
  unfold tb_X6_clear
  refine fa_c (s_la_n dX6_clear_0 rfl) ?_
  refine fa_c (gf_X6_0 w_196 dX6_clear_1) ?_
  refine fa_c (s_cv mo_X2_count co_X2 (by decide) (fun _ _ => ⟨_, rfl⟩) dX6_clear_4 w_333 w_334 w_335 (by decide)) ?_
  refine fa_c (s_st_n dX6_clear_7 rfl (by decide)) ?_
  refine fa_c (s_la_n dX6_clear_8 rfl) ?_
  refine fa_c (gf_X6_0 w_196 dX6_clear_9) ?_
  refine fa_c (s_cv mo_X2_empty co_X2 (by decide) (fun _ _ => ⟨_, rfl⟩) dX6_clear_12 w_337 w_338 w_339 (by decide)) ?_
  refine fa_c (s_la_n dX6_clear_15 rfl) ?_
  refine fa_c (gf_X6_1 w_197 dX6_clear_16) ?_
  refine fa_c (s_cv mo_X0_empty co_X0 (by decide) (fun _ _ => ⟨_, rfl⟩) dX6_clear_19 w_341 w_342 w_343 (by decide)) ?_
  refine fa_c (s_li_n dX6_clear_22 rfl) ?_
  refine fa_c (s_ri dX6_clear_23 rfl) ?_
  exact fun e he => absurd he List.not_mem_nil
theorem cl_X6_clear {G : GX} (hAp : Ap G) : Cl1 (Ct G mts) n_X6_clear tb_X6_clear := ct_cl (y := n_X6_clear) (yn := yX6_clear) rfl (by decide +kernel) (ok_X6_clear hAp)
theorem dX6_drift_0 : decode cX6_drift 0 = .ok (.iload_n 1, 1) := by decide +kernel
theorem dX6_drift_1 : decode cX6_drift 1 = .ok (.iconst 1, 1) := by decide +kernel
theorem dX6_drift_2 : decode cX6_drift 2 = .ok (.bipush 40, 2) := by decide +kernel
theorem dX6_drift_4 : decode cX6_drift 4 = .ok (.invokestatic 46, 3) := by decide +kernel
theorem dX6_drift_7 : decode cX6_drift 7 = .ok (.ifCond .eq 13, 3) := by decide +kernel
theorem dX6_drift_10 : decode cX6_drift 10 = .ok (.iload_n 2, 1) := by decide +kernel
theorem dX6_drift_11 : decode cX6_drift 11 = .ok (.iconst 1, 1) := by decide +kernel
theorem dX6_drift_12 : decode cX6_drift 12 = .ok (.ldc 107, 2) := by decide +kernel
theorem dX6_drift_14 : decode cX6_drift 14 = .ok (.invokestatic 46, 3) := by decide +kernel
theorem dX6_drift_17 : decode cX6_drift 17 = .ok (.ifCond .ne 6, 3) := by decide +kernel
theorem dX6_drift_20 : decode cX6_drift 20 = .ok (.ldc 54, 2) := by decide +kernel
theorem dX6_drift_22 : decode cX6_drift 22 = .ok (.ireturn, 1) := by decide +kernel
theorem dX6_drift_23 : decode cX6_drift 23 = .ok (.aload_n 0, 1) := by decide +kernel
theorem dX6_drift_24 : decode cX6_drift 24 = .ok (.getfield 35, 3) := by decide +kernel
theorem dX6_drift_27 : decode cX6_drift 27 = .ok (.iload_n 2, 1) := by decide +kernel
theorem dX6_drift_28 : decode cX6_drift 28 = .ok (.invokevirtual 108, 3) := by decide +kernel
theorem dX6_drift_31 : decode cX6_drift 31 = .ok (.iconst 0, 1) := by decide +kernel
theorem dX6_drift_32 : decode cX6_drift 32 = .ok (.istore_n 3, 1) := by decide +kernel
theorem dX6_drift_33 : decode cX6_drift 33 = .ok (.iload_n 3, 1) := by decide +kernel
theorem dX6_drift_34 : decode cX6_drift 34 = .ok (.iload_n 1, 1) := by decide +kernel
theorem dX6_drift_35 : decode cX6_drift 35 = .ok (.if_icmp .ge 13, 3) := by decide +kernel
theorem dX6_drift_38 : decode cX6_drift 38 = .ok (.aload_n 0, 1) := by decide +kernel
theorem dX6_drift_39 : decode cX6_drift 39 = .ok (.invokevirtual 111, 3) := by decide +kernel
theorem dX6_drift_42 : decode cX6_drift 42 = .ok (.iinc 3 1, 3) := by decide +kernel
theorem dX6_drift_45 : decode cX6_drift 45 = .ok (.goto (-12), 3) := by decide +kernel
theorem dX6_drift_48 : decode cX6_drift 48 = .ok (.aload_n 0, 1) := by decide +kernel
theorem dX6_drift_49 : decode cX6_drift 49 = .ok (.getfield 14, 3) := by decide +kernel
theorem dX6_drift_52 : decode cX6_drift 52 = .ok (.invokevirtual 94, 3) := by decide +kernel
theorem dX6_drift_55 : decode cX6_drift 55 = .ok (.ireturn, 1) := by decide +kernel
set_option maxRecDepth 100000 in
theorem ok_X6_drift {G : GX} (hAp : Ap G) : ∀ d, ∀ e ∈ tb_X6_drift, Snd G mts yX6_drift.cls cX6_drift 4 (some .int) d none e.1 e.2 := by
  intro d
  unfold tb_X6_drift
  refine fa_c (s_li_n dX6_drift_0 rfl) ?_
  refine fa_c (s_iconst dX6_drift_1 (by decide)) ?_
  refine fa_c (s_bipush dX6_drift_2 (by decide)) ?_
  refine fa_c (s_cs mo_X6_between dX6_drift_4 w_216 w_217 (by decide)) ?_
  refine fa_c (s_if_eq dX6_drift_7 (by decide)) ?_
  refine fa_c (s_li_n dX6_drift_10 rfl) ?_
  refine fa_c (s_iconst dX6_drift_11 (by decide)) ?_
  refine fa_c (s_ldc dX6_drift_12 w_349) ?_
  refine fa_c (s_cs mo_X6_between dX6_drift_14 w_216 w_217 (by decide)) ?_
  refine fa_c (s_if_ne dX6_drift_17 (by decide)) ?_
  refine fa_c (s_ldc dX6_drift_20 w_222) ?_
  refine fa_c (s_ri dX6_drift_22 rfl) ?_
  refine fa_c (s_la_n dX6_drift_23 rfl) ?_
  refine fa_c (gf_X6_3 w_199 dX6_drift_24) ?_
  refine fa_c (s_li_n dX6_drift_27 rfl) ?_
  refine fa_c (s_cv mo_X4_begin co_X4 (by decide) (fun _ _ => ⟨_, rfl⟩) dX6_drift_28 w_350 w_351 w_352 (by decide)) ?_
  refine fa_c (s_iconst dX6_drift_31 (by decide)) ?_
  refine fa_c (s_st_n dX6_drift_32 rfl (by decide)) ?_
  refine fa_c (s_li_n dX6_drift_33 rfl) ?_
  refine fa_c (s_li_n dX6_drift_34 rfl) ?_
  refine fa_c (s_ic_ge dX6_drift_35 (by decide)) ?_
  refine fa_c (s_la_n dX6_drift_38 rfl) ?_
  refine fa_c (s_cv mo_X6_driftOnce co_X6 (by decide) (fun _ _ => ⟨_, rfl⟩) dX6_drift_39 w_354 w_356 w_9 (by decide)) ?_
  refine fa_c (s_inc dX6_drift_42 (by decide) (by decide)) ?_
  refine fa_c (s_go dX6_drift_45 (by decide)) ?_
  refine fa_c (s_la_n dX6_drift_48 rfl) ?_
  refine fa_c (gf_X6_0 w_196 dX6_drift_49) ?_
  refine fa_c (s_cv mo_X2_standingCount co_X2 (by decide) (fun _ _ => ⟨_, rfl⟩) dX6_drift_52 w_320 w_321 w_322 (by decide)) ?_
  refine fa_c (s_ri dX6_drift_55 rfl) ?_
  exact fun e he => absurd he List.not_mem_nil
theorem cl_X6_drift {G : GX} (hAp : Ap G) : Cl1 (Ct G mts) n_X6_drift tb_X6_drift := ct_cl (y := n_X6_drift) (yn := yX6_drift) rfl (by decide +kernel) (ok_X6_drift hAp)
theorem dX6_told_0 : decode cX6_told 0 = .ok (.iload_n 1, 1) := by decide +kernel
theorem dX6_told_1 : decode cX6_told 1 = .ok (.tableswitch 147 0 10 #[59, 67, 75, 83, 91, 99, 107, 115, 123, 131, 139], 59) := by decide +kernel
theorem dX6_told_60 : decode cX6_told 60 = .ok (.aload_n 0, 1) := by decide +kernel
theorem dX6_told_61 : decode cX6_told 61 = .ok (.getfield 14, 3) := by decide +kernel
theorem dX6_told_64 : decode cX6_told 64 = .ok (.invokevirtual 100, 3) := by decide +kernel
theorem dX6_told_67 : decode cX6_told 67 = .ok (.ireturn, 1) := by decide +kernel
theorem dX6_told_68 : decode cX6_told 68 = .ok (.aload_n 0, 1) := by decide +kernel
theorem dX6_told_69 : decode cX6_told 69 = .ok (.getfield 14, 3) := by decide +kernel
theorem dX6_told_72 : decode cX6_told 72 = .ok (.invokevirtual 94, 3) := by decide +kernel
theorem dX6_told_75 : decode cX6_told 75 = .ok (.ireturn, 1) := by decide +kernel
theorem dX6_told_76 : decode cX6_told 76 = .ok (.aload_n 0, 1) := by decide +kernel
theorem dX6_told_77 : decode cX6_told 77 = .ok (.getfield 14, 3) := by decide +kernel
theorem dX6_told_80 : decode cX6_told 80 = .ok (.invokevirtual 87, 3) := by decide +kernel
theorem dX6_told_83 : decode cX6_told 83 = .ok (.ireturn, 1) := by decide +kernel
theorem dX6_told_84 : decode cX6_told 84 = .ok (.aload_n 0, 1) := by decide +kernel
theorem dX6_told_85 : decode cX6_told 85 = .ok (.getfield 14, 3) := by decide +kernel
theorem dX6_told_88 : decode cX6_told 88 = .ok (.invokevirtual 114, 3) := by decide +kernel
theorem dX6_told_91 : decode cX6_told 91 = .ok (.ireturn, 1) := by decide +kernel
theorem dX6_told_92 : decode cX6_told 92 = .ok (.aload_n 0, 1) := by decide +kernel
theorem dX6_told_93 : decode cX6_told 93 = .ok (.getfield 14, 3) := by decide +kernel
theorem dX6_told_96 : decode cX6_told 96 = .ok (.invokevirtual 117, 3) := by decide +kernel
theorem dX6_told_99 : decode cX6_told 99 = .ok (.ireturn, 1) := by decide +kernel
theorem dX6_told_100 : decode cX6_told 100 = .ok (.aload_n 0, 1) := by decide +kernel
theorem dX6_told_101 : decode cX6_told 101 = .ok (.getfield 14, 3) := by decide +kernel
theorem dX6_told_104 : decode cX6_told 104 = .ok (.invokevirtual 120, 3) := by decide +kernel
theorem dX6_told_107 : decode cX6_told 107 = .ok (.ireturn, 1) := by decide +kernel
theorem dX6_told_108 : decode cX6_told 108 = .ok (.aload_n 0, 1) := by decide +kernel
theorem dX6_told_109 : decode cX6_told 109 = .ok (.getfield 14, 3) := by decide +kernel
theorem dX6_told_112 : decode cX6_told 112 = .ok (.invokevirtual 123, 3) := by decide +kernel
theorem dX6_told_115 : decode cX6_told 115 = .ok (.ireturn, 1) := by decide +kernel
theorem dX6_told_116 : decode cX6_told 116 = .ok (.aload_n 0, 1) := by decide +kernel
theorem dX6_told_117 : decode cX6_told 117 = .ok (.getfield 14, 3) := by decide +kernel
theorem dX6_told_120 : decode cX6_told 120 = .ok (.invokevirtual 126, 3) := by decide +kernel
theorem dX6_told_123 : decode cX6_told 123 = .ok (.ireturn, 1) := by decide +kernel
theorem dX6_told_124 : decode cX6_told 124 = .ok (.aload_n 0, 1) := by decide +kernel
theorem dX6_told_125 : decode cX6_told 125 = .ok (.getfield 14, 3) := by decide +kernel
theorem dX6_told_128 : decode cX6_told 128 = .ok (.invokevirtual 129, 3) := by decide +kernel
theorem dX6_told_131 : decode cX6_told 131 = .ok (.ireturn, 1) := by decide +kernel
theorem dX6_told_132 : decode cX6_told 132 = .ok (.aload_n 0, 1) := by decide +kernel
theorem dX6_told_133 : decode cX6_told 133 = .ok (.getfield 28, 3) := by decide +kernel
theorem dX6_told_136 : decode cX6_told 136 = .ok (.invokevirtual 132, 3) := by decide +kernel
theorem dX6_told_139 : decode cX6_told 139 = .ok (.ireturn, 1) := by decide +kernel
theorem dX6_told_140 : decode cX6_told 140 = .ok (.aload_n 0, 1) := by decide +kernel
theorem dX6_told_141 : decode cX6_told 141 = .ok (.getfield 28, 3) := by decide +kernel
theorem dX6_told_144 : decode cX6_told 144 = .ok (.invokevirtual 135, 3) := by decide +kernel
theorem dX6_told_147 : decode cX6_told 147 = .ok (.ireturn, 1) := by decide +kernel
theorem dX6_told_148 : decode cX6_told 148 = .ok (.ldc 54, 2) := by decide +kernel
theorem dX6_told_150 : decode cX6_told 150 = .ok (.ireturn, 1) := by decide +kernel
set_option maxRecDepth 100000 in
theorem ok_X6_told {G : GX} (hAp : Ap G) : ∀ d, ∀ e ∈ tb_X6_told, Snd G mts yX6_told.cls cX6_told 2 (some .int) d none e.1 e.2 := by
  intro d
  unfold tb_X6_told
  refine fa_c (s_li_n dX6_told_0 rfl) ?_
  refine fa_c (s_sw (n := 11) dX6_told_1 (by decide) (by decide +kernel) (by decide) (by decide +kernel)) ?_
  refine fa_c (s_la_n dX6_told_60 rfl) ?_
  refine fa_c (gf_X6_0 w_196 dX6_told_61) ?_
  refine fa_c (s_cv mo_X2_count co_X2 (by decide) (fun _ _ => ⟨_, rfl⟩) dX6_told_64 w_333 w_334 w_335 (by decide)) ?_
  refine fa_c (s_ri dX6_told_67 rfl) ?_
  refine fa_c (s_la_n dX6_told_68 rfl) ?_
  refine fa_c (gf_X6_0 w_196 dX6_told_69) ?_
  refine fa_c (s_cv mo_X2_standingCount co_X2 (by decide) (fun _ _ => ⟨_, rfl⟩) dX6_told_72 w_320 w_321 w_322 (by decide)) ?_
  refine fa_c (s_ri dX6_told_75 rfl) ?_
  refine fa_c (s_la_n dX6_told_76 rfl) ?_
  refine fa_c (gf_X6_0 w_196 dX6_told_77) ?_
  refine fa_c (s_cv mo_X2_soonest co_X2 (by decide) (fun _ _ => ⟨_, rfl⟩) dX6_told_80 w_300 w_301 w_302 (by decide)) ?_
  refine fa_c (s_ri dX6_told_83 rfl) ?_
  refine fa_c (s_la_n dX6_told_84 rfl) ?_
  refine fa_c (gf_X6_0 w_196 dX6_told_85) ?_
  refine fa_c (s_cv mo_X2_rootCount co_X2 (by decide) (fun _ _ => ⟨_, rfl⟩) dX6_told_88 w_384 w_385 w_386 (by decide)) ?_
  refine fa_c (s_ri dX6_told_91 rfl) ?_
  refine fa_c (s_la_n dX6_told_92 rfl) ?_
  refine fa_c (gf_X6_0 w_196 dX6_told_93) ?_
  refine fa_c (s_cv mo_X2_looseCount co_X2 (by decide) (fun _ _ => ⟨_, rfl⟩) dX6_told_96 w_388 w_389 w_390 (by decide)) ?_
  refine fa_c (s_ri dX6_told_99 rfl) ?_
  refine fa_c (s_la_n dX6_told_100 rfl) ?_
  refine fa_c (gf_X6_0 w_196 dX6_told_101) ?_
  refine fa_c (s_cv mo_X2_greatestRank co_X2 (by decide) (fun _ _ => ⟨_, rfl⟩) dX6_told_104 w_392 w_393 w_394 (by decide)) ?_
  refine fa_c (s_ri dX6_told_107 rfl) ?_
  refine fa_c (s_la_n dX6_told_108 rfl) ?_
  refine fa_c (gf_X6_0 w_196 dX6_told_109) ?_
  refine fa_c (s_cv mo_X2_links co_X2 (by decide) (fun _ _ => ⟨_, rfl⟩) dX6_told_112 w_399 w_400 w_401 (by decide)) ?_
  refine fa_c (s_ri dX6_told_115 rfl) ?_
  refine fa_c (s_la_n dX6_told_116 rfl) ?_
  refine fa_c (gf_X6_0 w_196 dX6_told_117) ?_
  refine fa_c (s_cv mo_X2_cuts co_X2 (by decide) (fun _ _ => ⟨_, rfl⟩) dX6_told_120 w_403 w_404 w_405 (by decide)) ?_
  refine fa_c (s_ri dX6_told_123 rfl) ?_
  refine fa_c (s_la_n dX6_told_124 rfl) ?_
  refine fa_c (gf_X6_0 w_196 dX6_told_125) ?_
  refine fa_c (s_cv mo_X2_longestRow co_X2 (by decide) (fun _ _ => ⟨_, rfl⟩) dX6_told_128 w_407 w_408 w_409 (by decide)) ?_
  refine fa_c (s_ri dX6_told_131 rfl) ?_
  refine fa_c (s_la_n dX6_told_132 rfl) ?_
  refine fa_c (gf_X6_2 w_198 dX6_told_133) ?_
  refine fa_c (s_cv mo_X5_places co_X5 (by decide) (fun _ _ => ⟨_, rfl⟩) dX6_told_136 w_415 w_416 w_417 (by decide)) ?_
  refine fa_c (s_ri dX6_told_139 rfl) ?_
  refine fa_c (s_la_n dX6_told_140 rfl) ?_
  refine fa_c (gf_X6_2 w_198 dX6_told_141) ?_
  refine fa_c (s_cv mo_X5_count co_X5 (by decide) (fun _ _ => ⟨_, rfl⟩) dX6_told_144 w_419 w_420 w_421 (by decide)) ?_
  refine fa_c (s_ri dX6_told_147 rfl) ?_
  refine fa_c (s_ldc dX6_told_148 w_222) ?_
  refine fa_c (s_ri dX6_told_150 rfl) ?_
  exact fun e he => absurd he List.not_mem_nil
theorem cl_X6_told {G : GX} (hAp : Ap G) : Cl1 (Ct G mts) n_X6_told tb_X6_told := ct_cl (y := n_X6_told) (yn := yX6_told) rfl (by decide +kernel) (ok_X6_told hAp)
theorem dX6_job_0 : decode cX6_job 0 = .ok (.aload_n 0, 1) := by decide +kernel
theorem dX6_job_1 : decode cX6_job 1 = .ok (.getfield 14, 3) := by decide +kernel
theorem dX6_job_4 : decode cX6_job 4 = .ok (.iload_n 1, 1) := by decide +kernel
theorem dX6_job_5 : decode cX6_job 5 = .ok (.invokevirtual 64, 3) := by decide +kernel
theorem dX6_job_8 : decode cX6_job 8 = .ok (.ifCond .ne 6, 3) := by decide +kernel
theorem dX6_job_11 : decode cX6_job 11 = .ok (.ldc 67, 2) := by decide +kernel
theorem dX6_job_13 : decode cX6_job 13 = .ok (.ireturn, 1) := by decide +kernel
theorem dX6_job_14 : decode cX6_job 14 = .ok (.iload_n 2, 1) := by decide +kernel
theorem dX6_job_15 : decode cX6_job 15 = .ok (.tableswitch 144 0 8 #[49, 58, 67, 79, 88, 97, 109, 118, 127], 49) := by decide +kernel
theorem dX6_job_64 : decode cX6_job 64 = .ok (.aload_n 0, 1) := by decide +kernel
theorem dX6_job_65 : decode cX6_job 65 = .ok (.getfield 14, 3) := by decide +kernel
theorem dX6_job_68 : decode cX6_job 68 = .ok (.iload_n 1, 1) := by decide +kernel
theorem dX6_job_69 : decode cX6_job 69 = .ok (.invokevirtual 136, 3) := by decide +kernel
theorem dX6_job_72 : decode cX6_job 72 = .ok (.ireturn, 1) := by decide +kernel
theorem dX6_job_73 : decode cX6_job 73 = .ok (.aload_n 0, 1) := by decide +kernel
theorem dX6_job_74 : decode cX6_job 74 = .ok (.getfield 14, 3) := by decide +kernel
theorem dX6_job_77 : decode cX6_job 77 = .ok (.iload_n 1, 1) := by decide +kernel
theorem dX6_job_78 : decode cX6_job 78 = .ok (.invokevirtual 71, 3) := by decide +kernel
theorem dX6_job_81 : decode cX6_job 81 = .ok (.ireturn, 1) := by decide +kernel
theorem dX6_job_82 : decode cX6_job 82 = .ok (.aload_n 0, 1) := by decide +kernel
theorem dX6_job_83 : decode cX6_job 83 = .ok (.getfield 14, 3) := by decide +kernel
theorem dX6_job_86 : decode cX6_job 86 = .ok (.iload_n 1, 1) := by decide +kernel
theorem dX6_job_87 : decode cX6_job 87 = .ok (.invokevirtual 68, 3) := by decide +kernel
theorem dX6_job_90 : decode cX6_job 90 = .ok (.invokestatic 83, 3) := by decide +kernel
theorem dX6_job_93 : decode cX6_job 93 = .ok (.ireturn, 1) := by decide +kernel
theorem dX6_job_94 : decode cX6_job 94 = .ok (.aload_n 0, 1) := by decide +kernel
theorem dX6_job_95 : decode cX6_job 95 = .ok (.getfield 14, 3) := by decide +kernel
theorem dX6_job_98 : decode cX6_job 98 = .ok (.iload_n 1, 1) := by decide +kernel
theorem dX6_job_99 : decode cX6_job 99 = .ok (.invokevirtual 139, 3) := by decide +kernel
theorem dX6_job_102 : decode cX6_job 102 = .ok (.ireturn, 1) := by decide +kernel
theorem dX6_job_103 : decode cX6_job 103 = .ok (.aload_n 0, 1) := by decide +kernel
theorem dX6_job_104 : decode cX6_job 104 = .ok (.getfield 14, 3) := by decide +kernel
theorem dX6_job_107 : decode cX6_job 107 = .ok (.iload_n 1, 1) := by decide +kernel
theorem dX6_job_108 : decode cX6_job 108 = .ok (.invokevirtual 142, 3) := by decide +kernel
theorem dX6_job_111 : decode cX6_job 111 = .ok (.ireturn, 1) := by decide +kernel
theorem dX6_job_112 : decode cX6_job 112 = .ok (.aload_n 0, 1) := by decide +kernel
theorem dX6_job_113 : decode cX6_job 113 = .ok (.getfield 14, 3) := by decide +kernel
theorem dX6_job_116 : decode cX6_job 116 = .ok (.iload_n 1, 1) := by decide +kernel
theorem dX6_job_117 : decode cX6_job 117 = .ok (.invokevirtual 80, 3) := by decide +kernel
theorem dX6_job_120 : decode cX6_job 120 = .ok (.invokestatic 83, 3) := by decide +kernel
theorem dX6_job_123 : decode cX6_job 123 = .ok (.ireturn, 1) := by decide +kernel
theorem dX6_job_124 : decode cX6_job 124 = .ok (.aload_n 0, 1) := by decide +kernel
theorem dX6_job_125 : decode cX6_job 125 = .ok (.getfield 14, 3) := by decide +kernel
theorem dX6_job_128 : decode cX6_job 128 = .ok (.iload_n 1, 1) := by decide +kernel
theorem dX6_job_129 : decode cX6_job 129 = .ok (.invokevirtual 145, 3) := by decide +kernel
theorem dX6_job_132 : decode cX6_job 132 = .ok (.ireturn, 1) := by decide +kernel
theorem dX6_job_133 : decode cX6_job 133 = .ok (.aload_n 0, 1) := by decide +kernel
theorem dX6_job_134 : decode cX6_job 134 = .ok (.getfield 14, 3) := by decide +kernel
theorem dX6_job_137 : decode cX6_job 137 = .ok (.iload_n 1, 1) := by decide +kernel
theorem dX6_job_138 : decode cX6_job 138 = .ok (.invokevirtual 148, 3) := by decide +kernel
theorem dX6_job_141 : decode cX6_job 141 = .ok (.ireturn, 1) := by decide +kernel
theorem dX6_job_142 : decode cX6_job 142 = .ok (.aload_n 0, 1) := by decide +kernel
theorem dX6_job_143 : decode cX6_job 143 = .ok (.getfield 14, 3) := by decide +kernel
theorem dX6_job_146 : decode cX6_job 146 = .ok (.iload_n 1, 1) := by decide +kernel
theorem dX6_job_147 : decode cX6_job 147 = .ok (.invokevirtual 71, 3) := by decide +kernel
theorem dX6_job_150 : decode cX6_job 150 = .ok (.bipush 8, 2) := by decide +kernel
theorem dX6_job_152 : decode cX6_job 152 = .ok (.bipush 23, 2) := by decide +kernel
theorem dX6_job_154 : decode cX6_job 154 = .ok (.invokestatic 153, 3) := by decide +kernel
theorem dX6_job_157 : decode cX6_job 157 = .ok (.l2i, 1) := by decide +kernel
theorem dX6_job_158 : decode cX6_job 158 = .ok (.ireturn, 1) := by decide +kernel
theorem dX6_job_159 : decode cX6_job 159 = .ok (.ldc 54, 2) := by decide +kernel
theorem dX6_job_161 : decode cX6_job 161 = .ok (.ireturn, 1) := by decide +kernel
set_option maxRecDepth 100000 in
theorem ok_X6_job {G : GX} (hAp : Ap G) : ∀ d, ∀ e ∈ tb_X6_job, Snd G mts yX6_job.cls cX6_job 3 (some .int) d none e.1 e.2 := by
  intro d
  unfold tb_X6_job
  refine fa_c (s_la_n dX6_job_0 rfl) ?_
  refine fa_c (gf_X6_0 w_196 dX6_job_1) ?_
  refine fa_c (s_li_n dX6_job_4 rfl) ?_
  refine fa_c (s_cv mo_X2_has co_X2 (by decide) (fun _ _ => ⟨_, rfl⟩) dX6_job_5 w_238 w_239 w_240 (by decide)) ?_
  refine fa_c (s_if_ne dX6_job_8 (by decide)) ?_
  refine fa_c (s_ldc dX6_job_11 w_242) ?_
  refine fa_c (s_ri dX6_job_13 rfl) ?_
  refine fa_c (s_li_n dX6_job_14 rfl) ?_
  refine fa_c (s_sw (n := 9) dX6_job_15 (by decide) (by decide +kernel) (by decide) (by decide +kernel)) ?_
  refine fa_c (s_la_n dX6_job_64 rfl) ?_
  refine fa_c (gf_X6_0 w_196 dX6_job_65) ?_
  refine fa_c (s_li_n dX6_job_68 rfl) ?_
  refine fa_c (s_cv mo_X2_kindOf co_X2 (by decide) (fun _ _ => ⟨_, rfl⟩) dX6_job_69 w_427 w_428 w_429 (by decide)) ?_
  refine fa_c (s_ri dX6_job_72 rfl) ?_
  refine fa_c (s_la_n dX6_job_73 rfl) ?_
  refine fa_c (gf_X6_0 w_196 dX6_job_74) ?_
  refine fa_c (s_li_n dX6_job_77 rfl) ?_
  refine fa_c (s_cv mo_X2_keyOf co_X2 (by decide) (fun _ _ => ⟨_, rfl⟩) dX6_job_78 w_247 w_248 w_249 (by decide)) ?_
  refine fa_c (s_ri dX6_job_81 rfl) ?_
  refine fa_c (s_la_n dX6_job_82 rfl) ?_
  refine fa_c (gf_X6_0 w_196 dX6_job_83) ?_
  refine fa_c (s_li_n dX6_job_86 rfl) ?_
  refine fa_c (s_cv mo_X2_isStanding co_X2 (by decide) (fun _ _ => ⟨_, rfl⟩) dX6_job_87 w_243 w_244 w_245 (by decide)) ?_
  refine fa_c (s_cs mo_X6_flag dX6_job_90 w_293 w_294 (by decide)) ?_
  refine fa_c (s_ri dX6_job_93 rfl) ?_
  refine fa_c (s_la_n dX6_job_94 rfl) ?_
  refine fa_c (gf_X6_0 w_196 dX6_job_95) ?_
  refine fa_c (s_li_n dX6_job_98 rfl) ?_
  refine fa_c (s_cv mo_X2_aboveOf co_X2 (by decide) (fun _ _ => ⟨_, rfl⟩) dX6_job_99 w_431 w_432 w_433 (by decide)) ?_
  refine fa_c (s_ri dX6_job_102 rfl) ?_
  refine fa_c (s_la_n dX6_job_103 rfl) ?_
  refine fa_c (gf_X6_0 w_196 dX6_job_104) ?_
  refine fa_c (s_li_n dX6_job_107 rfl) ?_
  refine fa_c (s_cv mo_X2_rankOf co_X2 (by decide) (fun _ _ => ⟨_, rfl⟩) dX6_job_108 w_435 w_436 w_437 (by decide)) ?_
  refine fa_c (s_ri dX6_job_111 rfl) ?_
  refine fa_c (s_la_n dX6_job_112 rfl) ?_
  refine fa_c (gf_X6_0 w_196 dX6_job_113) ?_
  refine fa_c (s_li_n dX6_job_116 rfl) ?_
  refine fa_c (s_cv mo_X2_isLoose co_X2 (by decide) (fun _ _ => ⟨_, rfl⟩) dX6_job_117 w_289 w_290 w_291 (by decide)) ?_
  refine fa_c (s_cs mo_X6_flag dX6_job_120 w_293 w_294 (by decide)) ?_
  refine fa_c (s_ri dX6_job_123 rfl) ?_
  refine fa_c (s_la_n dX6_job_124 rfl) ?_
  refine fa_c (gf_X6_0 w_196 dX6_job_125) ?_
  refine fa_c (s_li_n dX6_job_128 rfl) ?_
  refine fa_c (s_cv mo_X2_depthOf co_X2 (by decide) (fun _ _ => ⟨_, rfl⟩) dX6_job_129 w_439 w_412 w_413 (by decide)) ?_
  refine fa_c (s_ri dX6_job_132 rfl) ?_
  refine fa_c (s_la_n dX6_job_133 rfl) ?_
  refine fa_c (gf_X6_0 w_196 dX6_job_134) ?_
  refine fa_c (s_li_n dX6_job_137 rfl) ?_
  refine fa_c (s_cv mo_X2_sizeOf co_X2 (by decide) (fun _ _ => ⟨_, rfl⟩) dX6_job_138 w_440 w_441 w_442 (by decide)) ?_
  refine fa_c (s_ri dX6_job_141 rfl) ?_
  refine fa_c (s_la_n dX6_job_142 rfl) ?_
  refine fa_c (gf_X6_0 w_196 dX6_job_143) ?_
  refine fa_c (s_li_n dX6_job_146 rfl) ?_
  refine fa_c (s_cv mo_X2_keyOf co_X2 (by decide) (fun _ _ => ⟨_, rfl⟩) dX6_job_147 w_247 w_248 w_249 (by decide)) ?_
  refine fa_c (s_bipush dX6_job_150 (by decide)) ?_
  refine fa_c (s_bipush dX6_job_152 (by decide)) ?_
  refine fa_c (s_cs mo_X1_bitsOf dX6_job_154 w_448 w_449 (by decide)) ?_
  refine fa_c (s_l_2i dX6_job_157) ?_
  refine fa_c (s_ri dX6_job_158 rfl) ?_
  refine fa_c (s_ldc dX6_job_159 w_222) ?_
  refine fa_c (s_ri dX6_job_161 rfl) ?_
  exact fun e he => absurd he List.not_mem_nil
theorem cl_X6_job {G : GX} (hAp : Ap G) : Cl1 (Ct G mts) n_X6_job tb_X6_job := ct_cl (y := n_X6_job) (yn := yX6_job) rfl (by decide +kernel) (ok_X6_job hAp)
theorem dX6_child_0 : decode cX6_child 0 = .ok (.aload_n 0, 1) := by decide +kernel
theorem dX6_child_1 : decode cX6_child 1 = .ok (.getfield 14, 3) := by decide +kernel
theorem dX6_child_4 : decode cX6_child 4 = .ok (.iload_n 1, 1) := by decide +kernel
theorem dX6_child_5 : decode cX6_child 5 = .ok (.invokevirtual 64, 3) := by decide +kernel
theorem dX6_child_8 : decode cX6_child 8 = .ok (.ifCond .ne 6, 3) := by decide +kernel
theorem dX6_child_11 : decode cX6_child 11 = .ok (.ldc 67, 2) := by decide +kernel
theorem dX6_child_13 : decode cX6_child 13 = .ok (.ireturn, 1) := by decide +kernel
theorem dX6_child_14 : decode cX6_child 14 = .ok (.iload_n 2, 1) := by decide +kernel
theorem dX6_child_15 : decode cX6_child 15 = .ok (.ifCond .ge 6, 3) := by decide +kernel
theorem dX6_child_18 : decode cX6_child 18 = .ok (.ldc 54, 2) := by decide +kernel
theorem dX6_child_20 : decode cX6_child 20 = .ok (.ireturn, 1) := by decide +kernel
theorem dX6_child_21 : decode cX6_child 21 = .ok (.aload_n 0, 1) := by decide +kernel
theorem dX6_child_22 : decode cX6_child 22 = .ok (.getfield 14, 3) := by decide +kernel
theorem dX6_child_25 : decode cX6_child 25 = .ok (.iload_n 1, 1) := by decide +kernel
theorem dX6_child_26 : decode cX6_child 26 = .ok (.iload_n 2, 1) := by decide +kernel
theorem dX6_child_27 : decode cX6_child 27 = .ok (.invokevirtual 157, 3) := by decide +kernel
theorem dX6_child_30 : decode cX6_child 30 = .ok (.ireturn, 1) := by decide +kernel
set_option maxRecDepth 100000 in
theorem ok_X6_child {G : GX} (hAp : Ap G) : ∀ d, ∀ e ∈ tb_X6_child, Snd G mts yX6_child.cls cX6_child 3 (some .int) d none e.1 e.2 := by
  intro d
  unfold tb_X6_child
  refine fa_c (s_la_n dX6_child_0 rfl) ?_
  refine fa_c (gf_X6_0 w_196 dX6_child_1) ?_
  refine fa_c (s_li_n dX6_child_4 rfl) ?_
  refine fa_c (s_cv mo_X2_has co_X2 (by decide) (fun _ _ => ⟨_, rfl⟩) dX6_child_5 w_238 w_239 w_240 (by decide)) ?_
  refine fa_c (s_if_ne dX6_child_8 (by decide)) ?_
  refine fa_c (s_ldc dX6_child_11 w_242) ?_
  refine fa_c (s_ri dX6_child_13 rfl) ?_
  refine fa_c (s_li_n dX6_child_14 rfl) ?_
  refine fa_c (s_if_ge dX6_child_15 (by decide)) ?_
  refine fa_c (s_ldc dX6_child_18 w_222) ?_
  refine fa_c (s_ri dX6_child_20 rfl) ?_
  refine fa_c (s_la_n dX6_child_21 rfl) ?_
  refine fa_c (gf_X6_0 w_196 dX6_child_22) ?_
  refine fa_c (s_li_n dX6_child_25 rfl) ?_
  refine fa_c (s_li_n dX6_child_26 rfl) ?_
  refine fa_c (s_cv mo_X2_childAt co_X2 (by decide) (fun _ _ => ⟨_, rfl⟩) dX6_child_27 w_458 w_459 w_460 (by decide)) ?_
  refine fa_c (s_ri dX6_child_30 rfl) ?_
  exact fun e he => absurd he List.not_mem_nil
theorem cl_X6_child {G : GX} (hAp : Ap G) : Cl1 (Ct G mts) n_X6_child tb_X6_child := ct_cl (y := n_X6_child) (yn := yX6_child) rfl (by decide +kernel) (ok_X6_child hAp)
theorem dX6_loose_0 : decode cX6_loose 0 = .ok (.iload_n 1, 1) := by decide +kernel
theorem dX6_loose_1 : decode cX6_loose 1 = .ok (.ifCond .ge 6, 3) := by decide +kernel
theorem dX6_loose_4 : decode cX6_loose 4 = .ok (.ldc 54, 2) := by decide +kernel
theorem dX6_loose_6 : decode cX6_loose 6 = .ok (.ireturn, 1) := by decide +kernel
theorem dX6_loose_7 : decode cX6_loose 7 = .ok (.aload_n 0, 1) := by decide +kernel
theorem dX6_loose_8 : decode cX6_loose 8 = .ok (.getfield 14, 3) := by decide +kernel
theorem dX6_loose_11 : decode cX6_loose 11 = .ok (.iload_n 1, 1) := by decide +kernel
theorem dX6_loose_12 : decode cX6_loose 12 = .ok (.invokevirtual 160, 3) := by decide +kernel
theorem dX6_loose_15 : decode cX6_loose 15 = .ok (.ireturn, 1) := by decide +kernel
set_option maxRecDepth 100000 in
theorem ok_X6_loose {G : GX} (hAp : Ap G) : ∀ d, ∀ e ∈ tb_X6_loose, Snd G mts yX6_loose.cls cX6_loose 2 (some .int) d none e.1 e.2 := by
  intro d
  unfold tb_X6_loose
  refine fa_c (s_li_n dX6_loose_0 rfl) ?_
  refine fa_c (s_if_ge dX6_loose_1 (by decide)) ?_
  refine fa_c (s_ldc dX6_loose_4 w_222) ?_
  refine fa_c (s_ri dX6_loose_6 rfl) ?_
  refine fa_c (s_la_n dX6_loose_7 rfl) ?_
  refine fa_c (gf_X6_0 w_196 dX6_loose_8) ?_
  refine fa_c (s_li_n dX6_loose_11 rfl) ?_
  refine fa_c (s_cv mo_X2_looseOfRank co_X2 (by decide) (fun _ _ => ⟨_, rfl⟩) dX6_loose_12 w_466 w_467 w_468 (by decide)) ?_
  refine fa_c (s_ri dX6_loose_15 rfl) ?_
  exact fun e he => absurd he List.not_mem_nil
theorem cl_X6_loose {G : GX} (hAp : Ap G) : Cl1 (Ct G mts) n_X6_loose tb_X6_loose := ct_cl (y := n_X6_loose) (yn := yX6_loose) rfl (by decide +kernel) (ok_X6_loose hAp)
theorem dX6_bits_0 : decode cX6_bits 0 = .ok (.aload_n 0, 1) := by decide +kernel
theorem dX6_bits_1 : decode cX6_bits 1 = .ok (.getfield 14, 3) := by decide +kernel
theorem dX6_bits_4 : decode cX6_bits 4 = .ok (.invokevirtual 163, 3) := by decide +kernel
theorem dX6_bits_7 : decode cX6_bits 7 = .ok (.bipush 11, 2) := by decide +kernel
theorem dX6_bits_9 : decode cX6_bits 9 = .ok (.bipush 52, 2) := by decide +kernel
theorem dX6_bits_11 : decode cX6_bits 11 = .ok (.invokestatic 153, 3) := by decide +kernel
theorem dX6_bits_14 : decode cX6_bits 14 = .ok (.lreturn, 1) := by decide +kernel
set_option maxRecDepth 100000 in
theorem ok_X6_bits {G : GX} (hAp : Ap G) : ∀ d, ∀ e ∈ tb_X6_bits, Snd G mts yX6_bits.cls cX6_bits 1 (some .long) d none e.1 e.2 := by
  intro d
  unfold tb_X6_bits
  refine fa_c (s_la_n dX6_bits_0 rfl) ?_
  refine fa_c (gf_X6_0 w_196 dX6_bits_1) ?_
  refine fa_c (s_cv mo_X2_sumOfKeys co_X2 (by decide) (fun _ _ => ⟨_, rfl⟩) dX6_bits_4 w_474 w_475 w_476 (by decide)) ?_
  refine fa_c (s_bipush dX6_bits_7 (by decide)) ?_
  refine fa_c (s_bipush dX6_bits_9 (by decide)) ?_
  refine fa_c (s_cs mo_X1_bitsOf dX6_bits_11 w_448 w_449 (by decide)) ?_
  refine fa_c (s_rl dX6_bits_14 rfl) ?_
  exact fun e he => absurd he List.not_mem_nil
theorem cl_X6_bits {G : GX} (hAp : Ap G) : Cl1 (Ct G mts) n_X6_bits tb_X6_bits := ct_cl (y := n_X6_bits) (yn := yX6_bits) rfl (by decide +kernel) (ok_X6_bits hAp)
theorem dX6_sit_0 : decode cX6_sit 0 = .ok (.iload_n 1, 1) := by decide +kernel
theorem dX6_sit_1 : decode cX6_sit 1 = .ok (.iconst 0, 1) := by decide +kernel
theorem dX6_sit_2 : decode cX6_sit 2 = .ok (.iconst 1, 1) := by decide +kernel
theorem dX6_sit_3 : decode cX6_sit 3 = .ok (.invokestatic 46, 3) := by decide +kernel
theorem dX6_sit_6 : decode cX6_sit 6 = .ok (.ifCond .eq 14, 3) := by decide +kernel
theorem dX6_sit_9 : decode cX6_sit 9 = .ok (.aload_n 0, 1) := by decide +kernel
theorem dX6_sit_10 : decode cX6_sit 10 = .ok (.getfield 14, 3) := by decide +kernel
theorem dX6_sit_13 : decode cX6_sit 13 = .ok (.iload_n 3, 1) := by decide +kernel
theorem dX6_sit_14 : decode cX6_sit 14 = .ok (.invokevirtual 64, 3) := by decide +kernel
theorem dX6_sit_17 : decode cX6_sit 17 = .ok (.ifCond .ne 6, 3) := by decide +kernel
theorem dX6_sit_20 : decode cX6_sit 20 = .ok (.ldc 67, 2) := by decide +kernel
theorem dX6_sit_22 : decode cX6_sit 22 = .ok (.ireturn, 1) := by decide +kernel
theorem dX6_sit_23 : decode cX6_sit 23 = .ok (.aload_n 0, 1) := by decide +kernel
theorem dX6_sit_24 : decode cX6_sit 24 = .ok (.getfield 14, 3) := by decide +kernel
theorem dX6_sit_27 : decode cX6_sit 27 = .ok (.iload_n 3, 1) := by decide +kernel
theorem dX6_sit_28 : decode cX6_sit 28 = .ok (.invokevirtual 68, 3) := by decide +kernel
theorem dX6_sit_31 : decode cX6_sit 31 = .ok (.ifCond .eq 6, 3) := by decide +kernel
theorem dX6_sit_34 : decode cX6_sit 34 = .ok (.ldc 75, 2) := by decide +kernel
theorem dX6_sit_36 : decode cX6_sit 36 = .ok (.ireturn, 1) := by decide +kernel
theorem dX6_sit_37 : decode cX6_sit 37 = .ok (.iload_n 2, 1) := by decide +kernel
theorem dX6_sit_38 : decode cX6_sit 38 = .ok (.iconst 0, 1) := by decide +kernel
theorem dX6_sit_39 : decode cX6_sit 39 = .ok (.bipush 7, 2) := by decide +kernel
theorem dX6_sit_41 : decode cX6_sit 41 = .ok (.invokestatic 46, 3) := by decide +kernel
theorem dX6_sit_44 : decode cX6_sit 44 = .ok (.ifCond .ne 6, 3) := by decide +kernel
theorem dX6_sit_47 : decode cX6_sit 47 = .ok (.ldc 166, 2) := by decide +kernel
theorem dX6_sit_49 : decode cX6_sit 49 = .ok (.ireturn, 1) := by decide +kernel
theorem dX6_sit_50 : decode cX6_sit 50 = .ok (.iload_n 1, 1) := by decide +kernel
theorem dX6_sit_51 : decode cX6_sit 51 = .ok (.iconst 1, 1) := by decide +kernel
theorem dX6_sit_52 : decode cX6_sit 52 = .ok (.if_icmp .ne 18, 3) := by decide +kernel
theorem dX6_sit_55 : decode cX6_sit 55 = .ok (.aload_n 0, 1) := by decide +kernel
theorem dX6_sit_56 : decode cX6_sit 56 = .ok (.getfield 14, 3) := by decide +kernel
theorem dX6_sit_59 : decode cX6_sit 59 = .ok (.iload_n 3, 1) := by decide +kernel
theorem dX6_sit_60 : decode cX6_sit 60 = .ok (.invokevirtual 136, 3) := by decide +kernel
theorem dX6_sit_63 : decode cX6_sit 63 = .ok (.iconst 1, 1) := by decide +kernel
theorem dX6_sit_64 : decode cX6_sit 64 = .ok (.if_icmp .eq 6, 3) := by decide +kernel
theorem dX6_sit_67 : decode cX6_sit 67 = .ok (.ldc 167, 2) := by decide +kernel
theorem dX6_sit_69 : decode cX6_sit 69 = .ok (.ireturn, 1) := by decide +kernel
theorem dX6_sit_70 : decode cX6_sit 70 = .ok (.aload_n 0, 1) := by decide +kernel
theorem dX6_sit_71 : decode cX6_sit 71 = .ok (.getfield 21, 3) := by decide +kernel
theorem dX6_sit_74 : decode cX6_sit 74 = .ok (.iload_n 1, 1) := by decide +kernel
theorem dX6_sit_75 : decode cX6_sit 75 = .ok (.iload_n 2, 1) := by decide +kernel
theorem dX6_sit_76 : decode cX6_sit 76 = .ok (.iload_n 3, 1) := by decide +kernel
theorem dX6_sit_77 : decode cX6_sit 77 = .ok (.invokevirtual 168, 3) := by decide +kernel
theorem dX6_sit_80 : decode cX6_sit 80 = .ok (.ireturn, 1) := by decide +kernel
set_option maxRecDepth 100000 in
theorem ok_X6_sit {G : GX} (hAp : Ap G) : ∀ d, ∀ e ∈ tb_X6_sit, Snd G mts yX6_sit.cls cX6_sit 4 (some .int) d none e.1 e.2 := by
  intro d
  unfold tb_X6_sit
  refine fa_c (s_li_n dX6_sit_0 rfl) ?_
  refine fa_c (s_iconst dX6_sit_1 (by decide)) ?_
  refine fa_c (s_iconst dX6_sit_2 (by decide)) ?_
  refine fa_c (s_cs mo_X6_between dX6_sit_3 w_216 w_217 (by decide)) ?_
  refine fa_c (s_if_eq dX6_sit_6 (by decide)) ?_
  refine fa_c (s_la_n dX6_sit_9 rfl) ?_
  refine fa_c (gf_X6_0 w_196 dX6_sit_10) ?_
  refine fa_c (s_li_n dX6_sit_13 rfl) ?_
  refine fa_c (s_cv mo_X2_has co_X2 (by decide) (fun _ _ => ⟨_, rfl⟩) dX6_sit_14 w_238 w_239 w_240 (by decide)) ?_
  refine fa_c (s_if_ne dX6_sit_17 (by decide)) ?_
  refine fa_c (s_ldc dX6_sit_20 w_242) ?_
  refine fa_c (s_ri dX6_sit_22 rfl) ?_
  refine fa_c (s_la_n dX6_sit_23 rfl) ?_
  refine fa_c (gf_X6_0 w_196 dX6_sit_24) ?_
  refine fa_c (s_li_n dX6_sit_27 rfl) ?_
  refine fa_c (s_cv mo_X2_isStanding co_X2 (by decide) (fun _ _ => ⟨_, rfl⟩) dX6_sit_28 w_243 w_244 w_245 (by decide)) ?_
  refine fa_c (s_if_eq dX6_sit_31 (by decide)) ?_
  refine fa_c (s_ldc dX6_sit_34 w_251) ?_
  refine fa_c (s_ri dX6_sit_36 rfl) ?_
  refine fa_c (s_li_n dX6_sit_37 rfl) ?_
  refine fa_c (s_iconst dX6_sit_38 (by decide)) ?_
  refine fa_c (s_bipush dX6_sit_39 (by decide)) ?_
  refine fa_c (s_cs mo_X6_between dX6_sit_41 w_216 w_217 (by decide)) ?_
  refine fa_c (s_if_ne dX6_sit_44 (by decide)) ?_
  refine fa_c (s_ldc dX6_sit_47 w_482) ?_
  refine fa_c (s_ri dX6_sit_49 rfl) ?_
  refine fa_c (s_li_n dX6_sit_50 rfl) ?_
  refine fa_c (s_iconst dX6_sit_51 (by decide)) ?_
  refine fa_c (s_ic_ne dX6_sit_52 (by decide)) ?_
  refine fa_c (s_la_n dX6_sit_55 rfl) ?_
  refine fa_c (gf_X6_0 w_196 dX6_sit_56) ?_
  refine fa_c (s_li_n dX6_sit_59 rfl) ?_
  refine fa_c (s_cv mo_X2_kindOf co_X2 (by decide) (fun _ _ => ⟨_, rfl⟩) dX6_sit_60 w_427 w_428 w_429 (by decide)) ?_
  refine fa_c (s_iconst dX6_sit_63 (by decide)) ?_
  refine fa_c (s_ic_eq dX6_sit_64 (by decide)) ?_
  refine fa_c (s_ldc dX6_sit_67 w_483) ?_
  refine fa_c (s_ri dX6_sit_69 rfl) ?_
  refine fa_c (s_la_n dX6_sit_70 rfl) ?_
  refine fa_c (gf_X6_1 w_197 dX6_sit_71) ?_
  refine fa_c (s_li_n dX6_sit_74 rfl) ?_
  refine fa_c (s_li_n dX6_sit_75 rfl) ?_
  refine fa_c (s_li_n dX6_sit_76 rfl) ?_
  refine fa_c (s_cv mo_X0_seat co_X0 (by decide) (fun _ _ => ⟨_, rfl⟩) dX6_sit_77 w_484 w_485 w_486 (by decide)) ?_
  refine fa_c (s_ri dX6_sit_80 rfl) ?_
  exact fun e he => absurd he List.not_mem_nil
theorem cl_X6_sit {G : GX} (hAp : Ap G) : Cl1 (Ct G mts) n_X6_sit tb_X6_sit := ct_cl (y := n_X6_sit) (yn := yX6_sit) rfl (by decide +kernel) (ok_X6_sit hAp)
theorem dX6_sits_0 : decode cX6_sits 0 = .ok (.iload_n 1, 1) := by decide +kernel
theorem dX6_sits_1 : decode cX6_sits 1 = .ok (.iconst 0, 1) := by decide +kernel
theorem dX6_sits_2 : decode cX6_sits 2 = .ok (.iconst 1, 1) := by decide +kernel
theorem dX6_sits_3 : decode cX6_sits 3 = .ok (.invokestatic 46, 3) := by decide +kernel
theorem dX6_sits_6 : decode cX6_sits 6 = .ok (.ifCond .ne 6, 3) := by decide +kernel
theorem dX6_sits_9 : decode cX6_sits 9 = .ok (.ldc 67, 2) := by decide +kernel
theorem dX6_sits_11 : decode cX6_sits 11 = .ok (.ireturn, 1) := by decide +kernel
theorem dX6_sits_12 : decode cX6_sits 12 = .ok (.iload_n 2, 1) := by decide +kernel
theorem dX6_sits_13 : decode cX6_sits 13 = .ok (.iconst 0, 1) := by decide +kernel
theorem dX6_sits_14 : decode cX6_sits 14 = .ok (.bipush 7, 2) := by decide +kernel
theorem dX6_sits_16 : decode cX6_sits 16 = .ok (.invokestatic 46, 3) := by decide +kernel
theorem dX6_sits_19 : decode cX6_sits 19 = .ok (.ifCond .ne 6, 3) := by decide +kernel
theorem dX6_sits_22 : decode cX6_sits 22 = .ok (.ldc 166, 2) := by decide +kernel
theorem dX6_sits_24 : decode cX6_sits 24 = .ok (.ireturn, 1) := by decide +kernel
theorem dX6_sits_25 : decode cX6_sits 25 = .ok (.aload_n 0, 1) := by decide +kernel
theorem dX6_sits_26 : decode cX6_sits 26 = .ok (.getfield 21, 3) := by decide +kernel
theorem dX6_sits_29 : decode cX6_sits 29 = .ok (.iload_n 1, 1) := by decide +kernel
theorem dX6_sits_30 : decode cX6_sits 30 = .ok (.iload_n 2, 1) := by decide +kernel
theorem dX6_sits_31 : decode cX6_sits 31 = .ok (.invokevirtual 172, 3) := by decide +kernel
theorem dX6_sits_34 : decode cX6_sits 34 = .ok (.ireturn, 1) := by decide +kernel
set_option maxRecDepth 100000 in
theorem ok_X6_sits {G : GX} (hAp : Ap G) : ∀ d, ∀ e ∈ tb_X6_sits, Snd G mts yX6_sits.cls cX6_sits 3 (some .int) d none e.1 e.2 := by
  intro d
  unfold tb_X6_sits
  refine fa_c (s_li_n dX6_sits_0 rfl) ?_
  refine fa_c (s_iconst dX6_sits_1 (by decide)) ?_
  refine fa_c (s_iconst dX6_sits_2 (by decide)) ?_
  refine fa_c (s_cs mo_X6_between dX6_sits_3 w_216 w_217 (by decide)) ?_
  refine fa_c (s_if_ne dX6_sits_6 (by decide)) ?_
  refine fa_c (s_ldc dX6_sits_9 w_242) ?_
  refine fa_c (s_ri dX6_sits_11 rfl) ?_
  refine fa_c (s_li_n dX6_sits_12 rfl) ?_
  refine fa_c (s_iconst dX6_sits_13 (by decide)) ?_
  refine fa_c (s_bipush dX6_sits_14 (by decide)) ?_
  refine fa_c (s_cs mo_X6_between dX6_sits_16 w_216 w_217 (by decide)) ?_
  refine fa_c (s_if_ne dX6_sits_19 (by decide)) ?_
  refine fa_c (s_ldc dX6_sits_22 w_482) ?_
  refine fa_c (s_ri dX6_sits_24 rfl) ?_
  refine fa_c (s_la_n dX6_sits_25 rfl) ?_
  refine fa_c (gf_X6_1 w_197 dX6_sits_26) ?_
  refine fa_c (s_li_n dX6_sits_29 rfl) ?_
  refine fa_c (s_li_n dX6_sits_30 rfl) ?_
  refine fa_c (s_cv mo_X0_sitter co_X0 (by decide) (fun _ _ => ⟨_, rfl⟩) dX6_sits_31 w_496 w_489 w_490 (by decide)) ?_
  refine fa_c (s_ri dX6_sits_34 rfl) ?_
  exact fun e he => absurd he List.not_mem_nil
theorem cl_X6_sits {G : GX} (hAp : Ap G) : Cl1 (Ct G mts) n_X6_sits tb_X6_sits := ct_cl (y := n_X6_sits) (yn := yX6_sits) rfl (by decide +kernel) (ok_X6_sits hAp)
theorem dX6_net_0 : decode cX6_net 0 = .ok (.iload_n 1, 1) := by decide +kernel
theorem dX6_net_1 : decode cX6_net 1 = .ok (.iconst 2, 1) := by decide +kernel
theorem dX6_net_2 : decode cX6_net 2 = .ok (.bipush 8, 2) := by decide +kernel
theorem dX6_net_4 : decode cX6_net 4 = .ok (.invokestatic 46, 3) := by decide +kernel
theorem dX6_net_7 : decode cX6_net 7 = .ok (.ifCond .ne 6, 3) := by decide +kernel
theorem dX6_net_10 : decode cX6_net 10 = .ok (.ldc 54, 2) := by decide +kernel
theorem dX6_net_12 : decode cX6_net 12 = .ok (.ireturn, 1) := by decide +kernel
theorem dX6_net_13 : decode cX6_net 13 = .ok (.aload_n 0, 1) := by decide +kernel
theorem dX6_net_14 : decode cX6_net 14 = .ok (.getfield 28, 3) := by decide +kernel
theorem dX6_net_17 : decode cX6_net 17 = .ok (.invokevirtual 135, 3) := by decide +kernel
theorem dX6_net_20 : decode cX6_net 20 = .ok (.istore_n 2, 1) := by decide +kernel
theorem dX6_net_21 : decode cX6_net 21 = .ok (.aload_n 0, 1) := by decide +kernel
theorem dX6_net_22 : decode cX6_net 22 = .ok (.getfield 28, 3) := by decide +kernel
theorem dX6_net_25 : decode cX6_net 25 = .ok (.iload_n 1, 1) := by decide +kernel
theorem dX6_net_26 : decode cX6_net 26 = .ok (.invokevirtual 175, 3) := by decide +kernel
theorem dX6_net_29 : decode cX6_net 29 = .ok (.iload_n 2, 1) := by decide +kernel
theorem dX6_net_30 : decode cX6_net 30 = .ok (.ireturn, 1) := by decide +kernel
set_option maxRecDepth 100000 in
theorem ok_X6_net {G : GX} (hAp : Ap G) : ∀ d, ∀ e ∈ tb_X6_net, Snd G mts yX6_net.cls cX6_net 3 (some .int) d none e.1 e.2 := by
  intro d
  unfold tb_X6_net
  refine fa_c (s_li_n dX6_net_0 rfl) ?_
  refine fa_c (s_iconst dX6_net_1 (by decide)) ?_
  refine fa_c (s_bipush dX6_net_2 (by decide)) ?_
  refine fa_c (s_cs mo_X6_between dX6_net_4 w_216 w_217 (by decide)) ?_
  refine fa_c (s_if_ne dX6_net_7 (by decide)) ?_
  refine fa_c (s_ldc dX6_net_10 w_222) ?_
  refine fa_c (s_ri dX6_net_12 rfl) ?_
  refine fa_c (s_la_n dX6_net_13 rfl) ?_
  refine fa_c (gf_X6_2 w_198 dX6_net_14) ?_
  refine fa_c (s_cv mo_X5_count co_X5 (by decide) (fun _ _ => ⟨_, rfl⟩) dX6_net_17 w_419 w_420 w_421 (by decide)) ?_
  refine fa_c (s_st_n dX6_net_20 rfl (by decide)) ?_
  refine fa_c (s_la_n dX6_net_21 rfl) ?_
  refine fa_c (gf_X6_2 w_198 dX6_net_22) ?_
  refine fa_c (s_li_n dX6_net_25 rfl) ?_
  refine fa_c (s_cv mo_X5_layOut co_X5 (by decide) (fun _ _ => ⟨_, rfl⟩) dX6_net_26 w_501 w_502 w_503 (by decide)) ?_
  refine fa_c (s_li_n dX6_net_29 rfl) ?_
  refine fa_c (s_ri dX6_net_30 rfl) ?_
  exact fun e he => absurd he List.not_mem_nil
theorem cl_X6_net {G : GX} (hAp : Ap G) : Cl1 (Ct G mts) n_X6_net tb_X6_net := ct_cl (y := n_X6_net) (yn := yX6_net) rfl (by decide +kernel) (ok_X6_net hAp)

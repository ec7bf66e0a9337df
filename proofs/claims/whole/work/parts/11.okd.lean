-- written by wip/whole/gen2.py
theorem dX7_join_0 : decode cX7_join 0 = .ok (.aload_n 0, 1) := by decide +kernel
theorem dX7_join_1 : decode cX7_join 1 = .ok (.invokevirtual 103, 3) := by decide +kernel
theorem dX7_join_4 : decode cX7_join 4 = .ok (.aload_n 0, 1) := by decide +kernel
theorem dX7_join_5 : decode cX7_join 5 = .ok (.getfield 67, 3) := by decide +kernel
theorem dX7_join_8 : decode cX7_join 8 = .ok (.istore_n 1, 1) := by decide +kernel
theorem dX7_join_9 : decode cX7_join 9 = .ok (.aload_n 0, 1) := by decide +kernel
theorem dX7_join_10 : decode cX7_join 10 = .ok (.invokevirtual 100, 3) := by decide +kernel
theorem dX7_join_13 : decode cX7_join 13 = .ok (.aload_n 0, 1) := by decide +kernel
theorem dX7_join_14 : decode cX7_join 14 = .ok (.getfield 67, 3) := by decide +kernel
theorem dX7_join_17 : decode cX7_join 17 = .ok (.iload_n 1, 1) := by decide +kernel
theorem dX7_join_18 : decode cX7_join 18 = .ok (.isub, 1) := by decide +kernel
theorem dX7_join_19 : decode cX7_join 19 = .ok (.ireturn, 1) := by decide +kernel
set_option maxRecDepth 100000 in
theorem ok_X7_join {G : GX} (hAp : Ap G) : ∀ d, ∀ e ∈ tb_X7_join, Snd G mts yX7_join.cls cX7_join 2 (some .int) d none e.1 e.2 := by
  intro d
  unfold tb_X7_join
  refine fa_c (s_la_n dX7_join_0 rfl) ?_
  refine fa_c (s_cv mo_X7_own co_X7 (by decide) (fun _ _ => ⟨_, rfl⟩) dX7_join_1 w_713 w_715 w_18 (by decide)) ?_
  refine fa_c (s_la_n dX7_join_4 rfl) ?_
  refine fa_c (gf_X7_8 w_641 dX7_join_5) ?_
  refine fa_c (s_st_n dX7_join_8 rfl (by decide)) ?_
  refine fa_c (s_la_n dX7_join_9 rfl) ?_
  refine fa_c (s_cv mo_X7_joinAll co_X7 (by decide) (fun _ _ => ⟨_, rfl⟩) dX7_join_10 w_784 w_786 w_32 (by decide)) ?_
  refine fa_c (s_la_n dX7_join_13 rfl) ?_
  refine fa_c (gf_X7_8 w_641 dX7_join_14) ?_
  refine fa_c (s_li_n dX7_join_17 rfl) ?_
  refine fa_c (s_i_sub dX7_join_18) ?_
  refine fa_c (s_ri dX7_join_19 rfl) ?_
  exact fun e he => absurd he List.not_mem_nil
theorem cl_X7_join {G : GX} (hAp : Ap G) : Cl1 (Ct G mts) n_X7_join tb_X7_join := ct_cl (y := n_X7_join) (yn := yX7_join) rfl (by decide +kernel) (ok_X7_join hAp)
theorem dX7_clear_0 : decode cX7_clear 0 = .ok (.aload_n 0, 1) := by decide +kernel
theorem dX7_clear_1 : decode cX7_clear 1 = .ok (.getfield 54, 3) := by decide +kernel
theorem dX7_clear_4 : decode cX7_clear 4 = .ok (.istore_n 1, 1) := by decide +kernel
theorem dX7_clear_5 : decode cX7_clear 5 = .ok (.aload_n 0, 1) := by decide +kernel
theorem dX7_clear_6 : decode cX7_clear 6 = .ok (.iconst 0, 1) := by decide +kernel
theorem dX7_clear_7 : decode cX7_clear 7 = .ok (.putfield 54, 3) := by decide +kernel
theorem dX7_clear_10 : decode cX7_clear 10 = .ok (.aload_n 0, 1) := by decide +kernel
theorem dX7_clear_11 : decode cX7_clear 11 = .ok (.iconst 0, 1) := by decide +kernel
theorem dX7_clear_12 : decode cX7_clear 12 = .ok (.putfield 64, 3) := by decide +kernel
theorem dX7_clear_15 : decode cX7_clear 15 = .ok (.aload_n 0, 1) := by decide +kernel
theorem dX7_clear_16 : decode cX7_clear 16 = .ok (.iconst 0, 1) := by decide +kernel
theorem dX7_clear_17 : decode cX7_clear 17 = .ok (.putfield 67, 3) := by decide +kernel
theorem dX7_clear_20 : decode cX7_clear 20 = .ok (.aload_n 0, 1) := by decide +kernel
theorem dX7_clear_21 : decode cX7_clear 21 = .ok (.iconst 0, 1) := by decide +kernel
theorem dX7_clear_22 : decode cX7_clear 22 = .ok (.putfield 70, 3) := by decide +kernel
theorem dX7_clear_25 : decode cX7_clear 25 = .ok (.iconst 0, 1) := by decide +kernel
theorem dX7_clear_26 : decode cX7_clear 26 = .ok (.istore_n 2, 1) := by decide +kernel
theorem dX7_clear_27 : decode cX7_clear 27 = .ok (.iload_n 2, 1) := by decide +kernel
theorem dX7_clear_28 : decode cX7_clear 28 = .ok (.bipush 16, 2) := by decide +kernel
theorem dX7_clear_30 : decode cX7_clear 30 = .ok (.if_icmp .ge 16, 3) := by decide +kernel
theorem dX7_clear_33 : decode cX7_clear 33 = .ok (.aload_n 0, 1) := by decide +kernel
theorem dX7_clear_34 : decode cX7_clear 34 = .ok (.getfield 29, 3) := by decide +kernel
theorem dX7_clear_37 : decode cX7_clear 37 = .ok (.iload_n 2, 1) := by decide +kernel
theorem dX7_clear_38 : decode cX7_clear 38 = .ok (.iconst (-1), 1) := by decide +kernel
theorem dX7_clear_39 : decode cX7_clear 39 = .ok (.iastore, 1) := by decide +kernel
theorem dX7_clear_40 : decode cX7_clear 40 = .ok (.iinc 2 1, 3) := by decide +kernel
theorem dX7_clear_43 : decode cX7_clear 43 = .ok (.goto (-16), 3) := by decide +kernel
theorem dX7_clear_46 : decode cX7_clear 46 = .ok (.iload_n 1, 1) := by decide +kernel
theorem dX7_clear_47 : decode cX7_clear 47 = .ok (.ireturn, 1) := by decide +kernel
set_option maxRecDepth 100000 in
theorem ok_X7_clear {G : GX} (hAp : Ap G) : ∀ d, ∀ e ∈ tb_X7_clear, Snd G mts yX7_clear.cls cX7_clear 3 (some .int) d none e.1 e.2 := by
  intro d
  unfold tb_X7_clear
  refine fa_c (s_la_n dX7_clear_0 rfl) ?_
  refine fa_c (gf_X7_0 w_633 dX7_clear_1) ?_
  refine fa_c (s_st_n dX7_clear_4 rfl (by decide)) ?_
  refine fa_c (s_la_n dX7_clear_5 rfl) ?_
  refine fa_c (s_iconst dX7_clear_6 (by decide)) ?_
  refine fa_c (pf_X7_0 hAp w_633 dX7_clear_7) ?_
  refine fa_c (s_la_n dX7_clear_10 rfl) ?_
  refine fa_c (s_iconst dX7_clear_11 (by decide)) ?_
  refine fa_c (pf_X7_7 hAp w_640 dX7_clear_12) ?_
  refine fa_c (s_la_n dX7_clear_15 rfl) ?_
  refine fa_c (s_iconst dX7_clear_16 (by decide)) ?_
  refine fa_c (pf_X7_8 hAp w_641 dX7_clear_17) ?_
  refine fa_c (s_la_n dX7_clear_20 rfl) ?_
  refine fa_c (s_iconst dX7_clear_21 (by decide)) ?_
  refine fa_c (pf_X7_9 hAp w_642 dX7_clear_22) ?_
  refine fa_c (s_iconst dX7_clear_25 (by decide)) ?_
  refine fa_c (s_st_n dX7_clear_26 rfl (by decide)) ?_
  refine fa_c (s_li_n dX7_clear_27 rfl) ?_
  refine fa_c (s_bipush dX7_clear_28 (by decide)) ?_
  refine fa_c (s_ic_ge dX7_clear_30 (by decide)) ?_
  refine fa_c (s_la_n dX7_clear_33 rfl) ?_
  refine fa_c (gf_X7_12 w_645 dX7_clear_34) ?_
  refine fa_c (s_li_n dX7_clear_37 rfl) ?_
  refine fa_c (s_iconst dX7_clear_38 (by decide)) ?_
  refine fa_c (s_is hAp dX7_clear_39) ?_
  refine fa_c (s_inc dX7_clear_40 (by decide) (by decide)) ?_
  refine fa_c (s_go dX7_clear_43 (by decide)) ?_
  refine fa_c (s_li_n dX7_clear_46 rfl) ?_
  refine fa_c (s_ri dX7_clear_47 rfl) ?_
  exact fun e he => absurd he List.not_mem_nil
theorem cl_X7_clear {G : GX} (hAp : Ap G) : Cl1 (Ct G mts) n_X7_clear tb_X7_clear := ct_cl (y := n_X7_clear) (yn := yX7_clear) rfl (by decide +kernel) (ok_X7_clear hAp)
theorem dX7_standingAt_0 : decode cX7_standingAt 0 = .ok (.iload_n 1, 1) := by decide +kernel
theorem dX7_standingAt_1 : decode cX7_standingAt 1 = .ok (.istore_n 2, 1) := by decide +kernel
theorem dX7_standingAt_2 : decode cX7_standingAt 2 = .ok (.aload_n 0, 1) := by decide +kernel
theorem dX7_standingAt_3 : decode cX7_standingAt 3 = .ok (.getfield 50, 3) := by decide +kernel
theorem dX7_standingAt_6 : decode cX7_standingAt 6 = .ok (.istore_n 3, 1) := by decide +kernel
theorem dX7_standingAt_7 : decode cX7_standingAt 7 = .ok (.aload_n 0, 1) := by decide +kernel
theorem dX7_standingAt_8 : decode cX7_standingAt 8 = .ok (.getfield 16, 3) := by decide +kernel
theorem dX7_standingAt_11 : decode cX7_standingAt 11 = .ok (.iload_n 3, 1) := by decide +kernel
theorem dX7_standingAt_12 : decode cX7_standingAt 12 = .ok (.baload, 1) := by decide +kernel
theorem dX7_standingAt_13 : decode cX7_standingAt 13 = .ok (.ifCond .eq 7, 3) := by decide +kernel
theorem dX7_standingAt_16 : decode cX7_standingAt 16 = .ok (.iload_n 2, 1) := by decide +kernel
theorem dX7_standingAt_17 : decode cX7_standingAt 17 = .ok (.ifCond .le 26, 3) := by decide +kernel
theorem dX7_standingAt_20 : decode cX7_standingAt 20 = .ok (.iload_n 2, 1) := by decide +kernel
theorem dX7_standingAt_21 : decode cX7_standingAt 21 = .ok (.aload_n 0, 1) := by decide +kernel
theorem dX7_standingAt_22 : decode cX7_standingAt 22 = .ok (.getfield 16, 3) := by decide +kernel
theorem dX7_standingAt_25 : decode cX7_standingAt 25 = .ok (.iload_n 3, 1) := by decide +kernel
theorem dX7_standingAt_26 : decode cX7_standingAt 26 = .ok (.baload, 1) := by decide +kernel
theorem dX7_standingAt_27 : decode cX7_standingAt 27 = .ok (.ifCond .eq 7, 3) := by decide +kernel
theorem dX7_standingAt_30 : decode cX7_standingAt 30 = .ok (.iconst 1, 1) := by decide +kernel
theorem dX7_standingAt_31 : decode cX7_standingAt 31 = .ok (.goto 4, 3) := by decide +kernel
theorem dX7_standingAt_34 : decode cX7_standingAt 34 = .ok (.iconst 0, 1) := by decide +kernel
theorem dX7_standingAt_35 : decode cX7_standingAt 35 = .ok (.isub, 1) := by decide +kernel
theorem dX7_standingAt_36 : decode cX7_standingAt 36 = .ok (.istore_n 2, 1) := by decide +kernel
theorem dX7_standingAt_37 : decode cX7_standingAt 37 = .ok (.iinc 3 1, 3) := by decide +kernel
theorem dX7_standingAt_40 : decode cX7_standingAt 40 = .ok (.goto (-33), 3) := by decide +kernel
theorem dX7_standingAt_43 : decode cX7_standingAt 43 = .ok (.iload_n 3, 1) := by decide +kernel
theorem dX7_standingAt_44 : decode cX7_standingAt 44 = .ok (.ireturn, 1) := by decide +kernel
set_option maxRecDepth 100000 in
theorem ok_X7_standingAt {G : GX} (hAp : Ap G) : ∀ d, ∀ e ∈ tb_X7_standingAt, Snd G mts yX7_standingAt.cls cX7_standingAt 4 (some .int) d none e.1 e.2 := by
  intro d
  unfold tb_X7_standingAt
  refine fa_c (s_li_n dX7_standingAt_0 rfl) ?_
  refine fa_c (s_st_n dX7_standingAt_1 rfl (by decide)) ?_
  refine fa_c (s_la_n dX7_standingAt_2 rfl) ?_
  refine fa_c (gf_X7_10 w_643 dX7_standingAt_3) ?_
  refine fa_c (s_st_n dX7_standingAt_6 rfl (by decide)) ?_
  refine fa_c (s_la_n dX7_standingAt_7 rfl) ?_
  refine fa_c (gf_X7_3 w_636 dX7_standingAt_8) ?_
  refine fa_c (s_li_n dX7_standingAt_11 rfl) ?_
  refine fa_c (s_ba dX7_standingAt_12) ?_
  refine fa_c (s_if_eq dX7_standingAt_13 (by decide)) ?_
  refine fa_c (s_li_n dX7_standingAt_16 rfl) ?_
  refine fa_c (s_if_le dX7_standingAt_17 (by decide)) ?_
  refine fa_c (s_li_n dX7_standingAt_20 rfl) ?_
  refine fa_c (s_la_n dX7_standingAt_21 rfl) ?_
  refine fa_c (gf_X7_3 w_636 dX7_standingAt_22) ?_
  refine fa_c (s_li_n dX7_standingAt_25 rfl) ?_
  refine fa_c (s_ba dX7_standingAt_26) ?_
  refine fa_c (s_if_eq dX7_standingAt_27 (by decide)) ?_
  refine fa_c (s_iconst dX7_standingAt_30 (by decide)) ?_
  refine fa_c (s_go dX7_standingAt_31 (by decide)) ?_
  refine fa_c (s_iconst dX7_standingAt_34 (by decide)) ?_
  refine fa_c (s_i_sub dX7_standingAt_35) ?_
  refine fa_c (s_st_n dX7_standingAt_36 rfl (by decide)) ?_
  refine fa_c (s_inc dX7_standingAt_37 (by decide) (by decide)) ?_
  refine fa_c (s_go dX7_standingAt_40 (by decide)) ?_
  refine fa_c (s_li_n dX7_standingAt_43 rfl) ?_
  refine fa_c (s_ri dX7_standingAt_44 rfl) ?_
  exact fun e he => absurd he List.not_mem_nil
theorem cl_X7_standingAt {G : GX} (hAp : Ap G) : Cl1 (Ct G mts) n_X7_standingAt tb_X7_standingAt := ct_cl (y := n_X7_standingAt) (yn := yX7_standingAt) rfl (by decide +kernel) (ok_X7_standingAt hAp)
theorem dX7_drawn_0 : decode cX7_drawn 0 = .ok (.aload_n 0, 1) := by decide +kernel
theorem dX7_drawn_1 : decode cX7_drawn 1 = .ok (.aload_n 0, 1) := by decide +kernel
theorem dX7_drawn_2 : decode cX7_drawn 2 = .ok (.getfield 135, 3) := by decide +kernel
theorem dX7_drawn_5 : decode cX7_drawn 5 = .ok (.ldc2_w 139, 3) := by decide +kernel
theorem dX7_drawn_8 : decode cX7_drawn 8 = .ok (.lmul, 1) := by decide +kernel
theorem dX7_drawn_9 : decode cX7_drawn 9 = .ok (.ldc2_w 141, 3) := by decide +kernel
theorem dX7_drawn_12 : decode cX7_drawn 12 = .ok (.lrem, 1) := by decide +kernel
theorem dX7_drawn_13 : decode cX7_drawn 13 = .ok (.putfield 135, 3) := by decide +kernel
theorem dX7_drawn_16 : decode cX7_drawn 16 = .ok (.aload_n 0, 1) := by decide +kernel
theorem dX7_drawn_17 : decode cX7_drawn 17 = .ok (.getfield 135, 3) := by decide +kernel
theorem dX7_drawn_20 : decode cX7_drawn 20 = .ok (.iload_n 1, 1) := by decide +kernel
theorem dX7_drawn_21 : decode cX7_drawn 21 = .ok (.i2l, 1) := by decide +kernel
theorem dX7_drawn_22 : decode cX7_drawn 22 = .ok (.lrem, 1) := by decide +kernel
theorem dX7_drawn_23 : decode cX7_drawn 23 = .ok (.l2i, 1) := by decide +kernel
theorem dX7_drawn_24 : decode cX7_drawn 24 = .ok (.ireturn, 1) := by decide +kernel
set_option maxRecDepth 100000 in
theorem ok_X7_drawn {G : GX} (hAp : Ap G) : ∀ d, ∀ e ∈ tb_X7_drawn, Snd G mts yX7_drawn.cls cX7_drawn 2 (some .int) d none e.1 e.2 := by
  intro d
  unfold tb_X7_drawn
  refine fa_c (s_la_n dX7_drawn_0 rfl) ?_
  refine fa_c (s_la_n dX7_drawn_1 rfl) ?_
  refine fa_c (gf_X7_24 w_657 dX7_drawn_2) ?_
  refine fa_c (s_ldc2 dX7_drawn_5 w_817) ?_
  refine fa_c (s_l_mul dX7_drawn_8) ?_
  refine fa_c (s_ldc2 dX7_drawn_9 w_818) ?_
  refine fa_c (s_l_rem dX7_drawn_12) ?_
  refine fa_c (pf_X7_24 hAp w_657 dX7_drawn_13) ?_
  refine fa_c (s_la_n dX7_drawn_16 rfl) ?_
  refine fa_c (gf_X7_24 w_657 dX7_drawn_17) ?_
  refine fa_c (s_li_n dX7_drawn_20 rfl) ?_
  refine fa_c (s_i_2l dX7_drawn_21) ?_
  refine fa_c (s_l_rem dX7_drawn_22) ?_
  refine fa_c (s_l_2i dX7_drawn_23) ?_
  refine fa_c (s_ri dX7_drawn_24 rfl) ?_
  exact fun e he => absurd he List.not_mem_nil
theorem cl_X7_drawn {G : GX} (hAp : Ap G) : Cl1 (Ct G mts) n_X7_drawn tb_X7_drawn := ct_cl (y := n_X7_drawn) (yn := yX7_drawn) rfl (by decide +kernel) (ok_X7_drawn hAp)
theorem dX7_lot_0 : decode cX7_lot 0 = .ok (.aload_n 0, 1) := by decide +kernel
theorem dX7_lot_1 : decode cX7_lot 1 = .ok (.invokevirtual 103, 3) := by decide +kernel
theorem dX7_lot_4 : decode cX7_lot 4 = .ok (.aload_n 0, 1) := by decide +kernel
theorem dX7_lot_5 : decode cX7_lot 5 = .ok (.iconst 4, 1) := by decide +kernel
theorem dX7_lot_6 : decode cX7_lot 6 = .ok (.invokevirtual 143, 3) := by decide +kernel
theorem dX7_lot_9 : decode cX7_lot 9 = .ok (.istore_n 1, 1) := by decide +kernel
theorem dX7_lot_10 : decode cX7_lot 10 = .ok (.iload_n 1, 1) := by decide +kernel
theorem dX7_lot_11 : decode cX7_lot 11 = .ok (.iconst 2, 1) := by decide +kernel
theorem dX7_lot_12 : decode cX7_lot 12 = .ok (.if_icmp .ge 44, 3) := by decide +kernel
theorem dX7_lot_15 : decode cX7_lot 15 = .ok (.aload_n 0, 1) := by decide +kernel
theorem dX7_lot_16 : decode cX7_lot 16 = .ok (.getfield 54, 3) := by decide +kernel
theorem dX7_lot_19 : decode cX7_lot 19 = .ok (.bipush 40, 2) := by decide +kernel
theorem dX7_lot_21 : decode cX7_lot 21 = .ok (.if_icmp .ge 35, 3) := by decide +kernel
theorem dX7_lot_24 : decode cX7_lot 24 = .ok (.aload_n 0, 1) := by decide +kernel
theorem dX7_lot_25 : decode cX7_lot 25 = .ok (.iconst 2, 1) := by decide +kernel
theorem dX7_lot_26 : decode cX7_lot 26 = .ok (.invokevirtual 143, 3) := by decide +kernel
theorem dX7_lot_29 : decode cX7_lot 29 = .ok (.istore_n 2, 1) := by decide +kernel
theorem dX7_lot_30 : decode cX7_lot 30 = .ok (.aload_n 0, 1) := by decide +kernel
theorem dX7_lot_31 : decode cX7_lot 31 = .ok (.aload_n 0, 1) := by decide +kernel
theorem dX7_lot_32 : decode cX7_lot 32 = .ok (.getfield 54, 3) := by decide +kernel
theorem dX7_lot_35 : decode cX7_lot 35 = .ok (.iload_n 2, 1) := by decide +kernel
theorem dX7_lot_36 : decode cX7_lot 36 = .ok (.aload_n 0, 1) := by decide +kernel
theorem dX7_lot_37 : decode cX7_lot 37 = .ok (.sipush 1000, 3) := by decide +kernel
theorem dX7_lot_40 : decode cX7_lot 40 = .ok (.invokevirtual 143, 3) := by decide +kernel
theorem dX7_lot_43 : decode cX7_lot 43 = .ok (.invokevirtual 112, 3) := by decide +kernel
theorem dX7_lot_46 : decode cX7_lot 46 = .ok (.aload_n 0, 1) := by decide +kernel
theorem dX7_lot_47 : decode cX7_lot 47 = .ok (.dup, 1) := by decide +kernel
theorem dX7_lot_48 : decode cX7_lot 48 = .ok (.getfield 54, 3) := by decide +kernel
theorem dX7_lot_51 : decode cX7_lot 51 = .ok (.iconst 1, 1) := by decide +kernel
theorem dX7_lot_52 : decode cX7_lot 52 = .ok (.iadd, 1) := by decide +kernel
theorem dX7_lot_53 : decode cX7_lot 53 = .ok (.putfield 54, 3) := by decide +kernel
theorem dX7_lot_56 : decode cX7_lot 56 = .ok (.iload_n 1, 1) := by decide +kernel
theorem dX7_lot_57 : decode cX7_lot 57 = .ok (.iconst 2, 1) := by decide +kernel
theorem dX7_lot_58 : decode cX7_lot 58 = .ok (.if_icmp .ne 61, 3) := by decide +kernel
theorem dX7_lot_61 : decode cX7_lot 61 = .ok (.aload_n 0, 1) := by decide +kernel
theorem dX7_lot_62 : decode cX7_lot 62 = .ok (.invokevirtual 132, 3) := by decide +kernel
theorem dX7_lot_65 : decode cX7_lot 65 = .ok (.ifCond .le 54, 3) := by decide +kernel
theorem dX7_lot_68 : decode cX7_lot 68 = .ok (.aload_n 0, 1) := by decide +kernel
theorem dX7_lot_69 : decode cX7_lot 69 = .ok (.aload_n 0, 1) := by decide +kernel
theorem dX7_lot_70 : decode cX7_lot 70 = .ok (.aload_n 0, 1) := by decide +kernel
theorem dX7_lot_71 : decode cX7_lot 71 = .ok (.invokevirtual 132, 3) := by decide +kernel
theorem dX7_lot_74 : decode cX7_lot 74 = .ok (.invokevirtual 143, 3) := by decide +kernel
theorem dX7_lot_77 : decode cX7_lot 77 = .ok (.invokevirtual 146, 3) := by decide +kernel
theorem dX7_lot_80 : decode cX7_lot 80 = .ok (.istore_n 2, 1) := by decide +kernel
theorem dX7_lot_81 : decode cX7_lot 81 = .ok (.aload_n 0, 1) := by decide +kernel
theorem dX7_lot_82 : decode cX7_lot 82 = .ok (.bipush 100, 2) := by decide +kernel
theorem dX7_lot_84 : decode cX7_lot 84 = .ok (.invokevirtual 143, 3) := by decide +kernel
theorem dX7_lot_87 : decode cX7_lot 87 = .ok (.istore_n 3, 1) := by decide +kernel
theorem dX7_lot_88 : decode cX7_lot 88 = .ok (.iload_n 3, 1) := by decide +kernel
theorem dX7_lot_89 : decode cX7_lot 89 = .ok (.ifCond .le 30, 3) := by decide +kernel
theorem dX7_lot_92 : decode cX7_lot 92 = .ok (.aload_n 0, 1) := by decide +kernel
theorem dX7_lot_93 : decode cX7_lot 93 = .ok (.getfield 13, 3) := by decide +kernel
theorem dX7_lot_96 : decode cX7_lot 96 = .ok (.iload_n 2, 1) := by decide +kernel
theorem dX7_lot_97 : decode cX7_lot 97 = .ok (.iaload, 1) := by decide +kernel
theorem dX7_lot_98 : decode cX7_lot 98 = .ok (.iload_n 3, 1) := by decide +kernel
theorem dX7_lot_99 : decode cX7_lot 99 = .ok (.isub, 1) := by decide +kernel
theorem dX7_lot_100 : decode cX7_lot 100 = .ok (.sipush (-9999), 3) := by decide +kernel
theorem dX7_lot_103 : decode cX7_lot 103 = .ok (.if_icmp .lt 16, 3) := by decide +kernel
theorem dX7_lot_106 : decode cX7_lot 106 = .ok (.aload_n 0, 1) := by decide +kernel
theorem dX7_lot_107 : decode cX7_lot 107 = .ok (.iload_n 2, 1) := by decide +kernel
theorem dX7_lot_108 : decode cX7_lot 108 = .ok (.aload_n 0, 1) := by decide +kernel
theorem dX7_lot_109 : decode cX7_lot 109 = .ok (.getfield 13, 3) := by decide +kernel
theorem dX7_lot_112 : decode cX7_lot 112 = .ok (.iload_n 2, 1) := by decide +kernel
theorem dX7_lot_113 : decode cX7_lot 113 = .ok (.iaload, 1) := by decide +kernel
theorem dX7_lot_114 : decode cX7_lot 114 = .ok (.iload_n 3, 1) := by decide +kernel
theorem dX7_lot_115 : decode cX7_lot 115 = .ok (.isub, 1) := by decide +kernel
theorem dX7_lot_116 : decode cX7_lot 116 = .ok (.invokevirtual 122, 3) := by decide +kernel
theorem dX7_lot_119 : decode cX7_lot 119 = .ok (.iload_n 1, 1) := by decide +kernel
theorem dX7_lot_120 : decode cX7_lot 120 = .ok (.iconst 3, 1) := by decide +kernel
theorem dX7_lot_121 : decode cX7_lot 121 = .ok (.if_icmp .ne 18, 3) := by decide +kernel
theorem dX7_lot_124 : decode cX7_lot 124 = .ok (.aload_n 0, 1) := by decide +kernel
theorem dX7_lot_125 : decode cX7_lot 125 = .ok (.invokevirtual 132, 3) := by decide +kernel
theorem dX7_lot_128 : decode cX7_lot 128 = .ok (.ifCond .le 11, 3) := by decide +kernel
theorem dX7_lot_131 : decode cX7_lot 131 = .ok (.aload_n 0, 1) := by decide +kernel
theorem dX7_lot_132 : decode cX7_lot 132 = .ok (.aload_n 0, 1) := by decide +kernel
theorem dX7_lot_133 : decode cX7_lot 133 = .ok (.invokevirtual 125, 3) := by decide +kernel
theorem dX7_lot_136 : decode cX7_lot 136 = .ok (.invokevirtual 129, 3) := by decide +kernel
theorem dX7_lot_139 : decode cX7_lot 139 = .ok (.return_, 1) := by decide +kernel
set_option maxRecDepth 100000 in
theorem ok_X7_lot {G : GX} (hAp : Ap G) : ∀ d, ∀ e ∈ tb_X7_lot, Snd G mts yX7_lot.cls cX7_lot 4 (none) d none e.1 e.2 := by
  intro d
  unfold tb_X7_lot
  refine fa_c (s_la_n dX7_lot_0 rfl) ?_
  refine fa_c (s_cv mo_X7_own co_X7 (by decide) (fun _ _ => ⟨_, rfl⟩) dX7_lot_1 w_713 w_715 w_18 (by decide)) ?_
  refine fa_c (s_la_n dX7_lot_4 rfl) ?_
  refine fa_c (s_iconst dX7_lot_5 (by decide)) ?_
  refine fa_c (s_cv mo_X7_drawn co_X7 (by decide) (fun _ _ => ⟨_, rfl⟩) dX7_lot_6 w_813 w_815 w_35 (by decide)) ?_
  refine fa_c (s_st_n dX7_lot_9 rfl (by decide)) ?_
  refine fa_c (s_li_n dX7_lot_10 rfl) ?_
  refine fa_c (s_iconst dX7_lot_11 (by decide)) ?_
  refine fa_c (s_ic_ge dX7_lot_12 (by decide)) ?_
  refine fa_c (s_la_n dX7_lot_15 rfl) ?_
  refine fa_c (gf_X7_0 w_633 dX7_lot_16) ?_
  refine fa_c (s_bipush dX7_lot_19 (by decide)) ?_
  refine fa_c (s_ic_ge dX7_lot_21 (by decide)) ?_
  refine fa_c (s_la_n dX7_lot_24 rfl) ?_
  refine fa_c (s_iconst dX7_lot_25 (by decide)) ?_
  refine fa_c (s_cv mo_X7_drawn co_X7 (by decide) (fun _ _ => ⟨_, rfl⟩) dX7_lot_26 w_813 w_815 w_35 (by decide)) ?_
  refine fa_c (s_st_n dX7_lot_29 rfl (by decide)) ?_
  refine fa_c (s_la_n dX7_lot_30 rfl) ?_
  refine fa_c (s_la_n dX7_lot_31 rfl) ?_
  refine fa_c (gf_X7_0 w_633 dX7_lot_32) ?_
  refine fa_c (s_li_n dX7_lot_35 rfl) ?_
  refine fa_c (s_la_n dX7_lot_36 rfl) ?_
  refine fa_c (s_sipush dX7_lot_37 (by decide)) ?_
  refine fa_c (s_cv mo_X7_drawn co_X7 (by decide) (fun _ _ => ⟨_, rfl⟩) dX7_lot_40 w_813 w_815 w_35 (by decide)) ?_
  refine fa_c (s_cv mo_X7_add co_X7 (by decide) (fun _ _ => ⟨_, rfl⟩) dX7_lot_43 w_722 w_724 w_19 (by decide)) ?_
  refine fa_c (s_la_n dX7_lot_46 rfl) ?_
  refine fa_c (s_i_dup dX7_lot_47) ?_
  refine fa_c (gf_X7_0 w_633 dX7_lot_48) ?_
  refine fa_c (s_iconst dX7_lot_51 (by decide)) ?_
  refine fa_c (s_i_add dX7_lot_52) ?_
  refine fa_c (pf_X7_0 hAp w_633 dX7_lot_53) ?_
  refine fa_c (s_li_n dX7_lot_56 rfl) ?_
  refine fa_c (s_iconst dX7_lot_57 (by decide)) ?_
  refine fa_c (s_ic_ne dX7_lot_58 (by decide)) ?_
  refine fa_c (s_la_n dX7_lot_61 rfl) ?_
  refine fa_c (s_cv mo_X7_standing co_X7 (by decide) (fun _ _ => ⟨_, rfl⟩) dX7_lot_62 w_792 w_794 w_33 (by decide)) ?_
  refine fa_c (s_if_le dX7_lot_65 (by decide)) ?_
  refine fa_c (s_la_n dX7_lot_68 rfl) ?_
  refine fa_c (s_la_n dX7_lot_69 rfl) ?_
  refine fa_c (s_la_n dX7_lot_70 rfl) ?_
  refine fa_c (s_cv mo_X7_standing co_X7 (by decide) (fun _ _ => ⟨_, rfl⟩) dX7_lot_71 w_792 w_794 w_33 (by decide)) ?_
  refine fa_c (s_cv mo_X7_drawn co_X7 (by decide) (fun _ _ => ⟨_, rfl⟩) dX7_lot_74 w_813 w_815 w_35 (by decide)) ?_
  refine fa_c (s_cv mo_X7_standingAt co_X7 (by decide) (fun _ _ => ⟨_, rfl⟩) dX7_lot_77 w_819 w_821 w_36 (by decide)) ?_
  refine fa_c (s_st_n dX7_lot_80 rfl (by decide)) ?_
  refine fa_c (s_la_n dX7_lot_81 rfl) ?_
  refine fa_c (s_bipush dX7_lot_82 (by decide)) ?_
  refine fa_c (s_cv mo_X7_drawn co_X7 (by decide) (fun _ _ => ⟨_, rfl⟩) dX7_lot_84 w_813 w_815 w_35 (by decide)) ?_
  refine fa_c (s_st_n dX7_lot_87 rfl (by decide)) ?_
  refine fa_c (s_li_n dX7_lot_88 rfl) ?_
  refine fa_c (s_if_le dX7_lot_89 (by decide)) ?_
  refine fa_c (s_la_n dX7_lot_92 rfl) ?_
  refine fa_c (gf_X7_2 w_635 dX7_lot_93) ?_
  refine fa_c (s_li_n dX7_lot_96 rfl) ?_
  refine fa_c (s_ia dX7_lot_97) ?_
  refine fa_c (s_li_n dX7_lot_98 rfl) ?_
  refine fa_c (s_i_sub dX7_lot_99) ?_
  refine fa_c (s_sipush dX7_lot_100 (by decide)) ?_
  refine fa_c (s_ic_lt dX7_lot_103 (by decide)) ?_
  refine fa_c (s_la_n dX7_lot_106 rfl) ?_
  refine fa_c (s_li_n dX7_lot_107 rfl) ?_
  refine fa_c (s_la_n dX7_lot_108 rfl) ?_
  refine fa_c (gf_X7_2 w_635 dX7_lot_109) ?_
  refine fa_c (s_li_n dX7_lot_112 rfl) ?_
  refine fa_c (s_ia dX7_lot_113) ?_
  refine fa_c (s_li_n dX7_lot_114 rfl) ?_
  refine fa_c (s_i_sub dX7_lot_115) ?_
  refine fa_c (s_cv mo_X7_lowerTo co_X7 (by decide) (fun _ _ => ⟨_, rfl⟩) dX7_lot_116 w_736 w_738 w_21 (by decide)) ?_
  refine fa_c (s_li_n dX7_lot_119 rfl) ?_
  refine fa_c (s_iconst dX7_lot_120 (by decide)) ?_
  refine fa_c (s_ic_ne dX7_lot_121 (by decide)) ?_
  refine fa_c (s_la_n dX7_lot_124 rfl) ?_
  refine fa_c (s_cv mo_X7_standing co_X7 (by decide) (fun _ _ => ⟨_, rfl⟩) dX7_lot_125 w_792 w_794 w_33 (by decide)) ?_
  refine fa_c (s_if_le dX7_lot_128 (by decide)) ?_
  refine fa_c (s_la_n dX7_lot_131 rfl) ?_
  refine fa_c (s_la_n dX7_lot_132 rfl) ?_
  refine fa_c (s_cv mo_X7_soonest co_X7 (by decide) (fun _ _ => ⟨_, rfl⟩) dX7_lot_133 w_776 w_778 w_30 (by decide)) ?_
  refine fa_c (s_cv mo_X7_remove co_X7 (by decide) (fun _ _ => ⟨_, rfl⟩) dX7_lot_136 w_780 w_782 w_31 (by decide)) ?_
  refine fa_c (s_rv dX7_lot_139 rfl) ?_
  exact fun e he => absurd he List.not_mem_nil
theorem cl_X7_lot {G : GX} (hAp : Ap G) : Cl1 (Ct G mts) n_X7_lot tb_X7_lot := ct_cl (y := n_X7_lot) (yn := yX7_lot) rfl (by decide +kernel) (ok_X7_lot hAp)
theorem dX7_drift_0 : decode cX7_drift 0 = .ok (.iload_n 1, 1) := by decide +kernel
theorem dX7_drift_1 : decode cX7_drift 1 = .ok (.iconst 1, 1) := by decide +kernel
theorem dX7_drift_2 : decode cX7_drift 2 = .ok (.bipush 40, 2) := by decide +kernel
theorem dX7_drift_4 : decode cX7_drift 4 = .ok (.invokestatic 106, 3) := by decide +kernel
theorem dX7_drift_7 : decode cX7_drift 7 = .ok (.ifCond .eq 13, 3) := by decide +kernel
theorem dX7_drift_10 : decode cX7_drift 10 = .ok (.iload_n 2, 1) := by decide +kernel
theorem dX7_drift_11 : decode cX7_drift 11 = .ok (.iconst 1, 1) := by decide +kernel
theorem dX7_drift_12 : decode cX7_drift 12 = .ok (.ldc 149, 2) := by decide +kernel
theorem dX7_drift_14 : decode cX7_drift 14 = .ok (.invokestatic 106, 3) := by decide +kernel
theorem dX7_drift_17 : decode cX7_drift 17 = .ok (.ifCond .ne 6, 3) := by decide +kernel
theorem dX7_drift_20 : decode cX7_drift 20 = .ok (.ldc 110, 2) := by decide +kernel
theorem dX7_drift_22 : decode cX7_drift 22 = .ok (.ireturn, 1) := by decide +kernel
theorem dX7_drift_23 : decode cX7_drift 23 = .ok (.aload_n 0, 1) := by decide +kernel
theorem dX7_drift_24 : decode cX7_drift 24 = .ok (.iload_n 2, 1) := by decide +kernel
theorem dX7_drift_25 : decode cX7_drift 25 = .ok (.i2l, 1) := by decide +kernel
theorem dX7_drift_26 : decode cX7_drift 26 = .ok (.putfield 135, 3) := by decide +kernel
theorem dX7_drift_29 : decode cX7_drift 29 = .ok (.iconst 0, 1) := by decide +kernel
theorem dX7_drift_30 : decode cX7_drift 30 = .ok (.istore_n 3, 1) := by decide +kernel
theorem dX7_drift_31 : decode cX7_drift 31 = .ok (.iload_n 3, 1) := by decide +kernel
theorem dX7_drift_32 : decode cX7_drift 32 = .ok (.iload_n 1, 1) := by decide +kernel
theorem dX7_drift_33 : decode cX7_drift 33 = .ok (.if_icmp .ge 13, 3) := by decide +kernel
theorem dX7_drift_36 : decode cX7_drift 36 = .ok (.aload_n 0, 1) := by decide +kernel
theorem dX7_drift_37 : decode cX7_drift 37 = .ok (.invokevirtual 150, 3) := by decide +kernel
theorem dX7_drift_40 : decode cX7_drift 40 = .ok (.iinc 3 1, 3) := by decide +kernel
theorem dX7_drift_43 : decode cX7_drift 43 = .ok (.goto (-12), 3) := by decide +kernel
theorem dX7_drift_46 : decode cX7_drift 46 = .ok (.aload_n 0, 1) := by decide +kernel
theorem dX7_drift_47 : decode cX7_drift 47 = .ok (.invokevirtual 103, 3) := by decide +kernel
theorem dX7_drift_50 : decode cX7_drift 50 = .ok (.aload_n 0, 1) := by decide +kernel
theorem dX7_drift_51 : decode cX7_drift 51 = .ok (.invokevirtual 132, 3) := by decide +kernel
theorem dX7_drift_54 : decode cX7_drift 54 = .ok (.ireturn, 1) := by decide +kernel
set_option maxRecDepth 100000 in
theorem ok_X7_drift {G : GX} (hAp : Ap G) : ∀ d, ∀ e ∈ tb_X7_drift, Snd G mts yX7_drift.cls cX7_drift 4 (some .int) d none e.1 e.2 := by
  intro d
  unfold tb_X7_drift
  refine fa_c (s_li_n dX7_drift_0 rfl) ?_
  refine fa_c (s_iconst dX7_drift_1 (by decide)) ?_
  refine fa_c (s_bipush dX7_drift_2 (by decide)) ?_
  refine fa_c (s_cs mo_X7_in dX7_drift_4 w_717 w_718 (by decide)) ?_
  refine fa_c (s_if_eq dX7_drift_7 (by decide)) ?_
  refine fa_c (s_li_n dX7_drift_10 rfl) ?_
  refine fa_c (s_iconst dX7_drift_11 (by decide)) ?_
  refine fa_c (s_ldc dX7_drift_12 w_808) ?_
  refine fa_c (s_cs mo_X7_in dX7_drift_14 w_717 w_718 (by decide)) ?_
  refine fa_c (s_if_ne dX7_drift_17 (by decide)) ?_
  refine fa_c (s_ldc dX7_drift_20 w_720) ?_
  refine fa_c (s_ri dX7_drift_22 rfl) ?_
  refine fa_c (s_la_n dX7_drift_23 rfl) ?_
  refine fa_c (s_li_n dX7_drift_24 rfl) ?_
  refine fa_c (s_i_2l dX7_drift_25) ?_
  refine fa_c (pf_X7_24 hAp w_657 dX7_drift_26) ?_
  refine fa_c (s_iconst dX7_drift_29 (by decide)) ?_
  refine fa_c (s_st_n dX7_drift_30 rfl (by decide)) ?_
  refine fa_c (s_li_n dX7_drift_31 rfl) ?_
  refine fa_c (s_li_n dX7_drift_32 rfl) ?_
  refine fa_c (s_ic_ge dX7_drift_33 (by decide)) ?_
  refine fa_c (s_la_n dX7_drift_36 rfl) ?_
  refine fa_c (s_cv mo_X7_lot co_X7 (by decide) (fun _ _ => ⟨_, rfl⟩) dX7_drift_37 w_809 w_811 w_34 (by decide)) ?_
  refine fa_c (s_inc dX7_drift_40 (by decide) (by decide)) ?_
  refine fa_c (s_go dX7_drift_43 (by decide)) ?_
  refine fa_c (s_la_n dX7_drift_46 rfl) ?_
  refine fa_c (s_cv mo_X7_own co_X7 (by decide) (fun _ _ => ⟨_, rfl⟩) dX7_drift_47 w_713 w_715 w_18 (by decide)) ?_
  refine fa_c (s_la_n dX7_drift_50 rfl) ?_
  refine fa_c (s_cv mo_X7_standing co_X7 (by decide) (fun _ _ => ⟨_, rfl⟩) dX7_drift_51 w_792 w_794 w_33 (by decide)) ?_
  refine fa_c (s_ri dX7_drift_54 rfl) ?_
  exact fun e he => absurd he List.not_mem_nil
theorem cl_X7_drift {G : GX} (hAp : Ap G) : Cl1 (Ct G mts) n_X7_drift tb_X7_drift := ct_cl (y := n_X7_drift) (yn := yX7_drift) rfl (by decide +kernel) (ok_X7_drift hAp)
theorem dX7_depth_0 : decode cX7_depth 0 = .ok (.iconst 0, 1) := by decide +kernel
theorem dX7_depth_1 : decode cX7_depth 1 = .ok (.istore_n 2, 1) := by decide +kernel
theorem dX7_depth_2 : decode cX7_depth 2 = .ok (.aload_n 0, 1) := by decide +kernel
theorem dX7_depth_3 : decode cX7_depth 3 = .ok (.getfield 20, 3) := by decide +kernel
theorem dX7_depth_6 : decode cX7_depth 6 = .ok (.iload_n 1, 1) := by decide +kernel
theorem dX7_depth_7 : decode cX7_depth 7 = .ok (.iaload, 1) := by decide +kernel
theorem dX7_depth_8 : decode cX7_depth 8 = .ok (.istore_n 3, 1) := by decide +kernel
theorem dX7_depth_9 : decode cX7_depth 9 = .ok (.iload_n 3, 1) := by decide +kernel
theorem dX7_depth_10 : decode cX7_depth 10 = .ok (.iconst (-1), 1) := by decide +kernel
theorem dX7_depth_11 : decode cX7_depth 11 = .ok (.if_icmp .eq 16, 3) := by decide +kernel
theorem dX7_depth_14 : decode cX7_depth 14 = .ok (.iinc 2 1, 3) := by decide +kernel
theorem dX7_depth_17 : decode cX7_depth 17 = .ok (.aload_n 0, 1) := by decide +kernel
theorem dX7_depth_18 : decode cX7_depth 18 = .ok (.getfield 20, 3) := by decide +kernel
theorem dX7_depth_21 : decode cX7_depth 21 = .ok (.iload_n 3, 1) := by decide +kernel
theorem dX7_depth_22 : decode cX7_depth 22 = .ok (.iaload, 1) := by decide +kernel
theorem dX7_depth_23 : decode cX7_depth 23 = .ok (.istore_n 3, 1) := by decide +kernel
theorem dX7_depth_24 : decode cX7_depth 24 = .ok (.goto (-15), 3) := by decide +kernel
theorem dX7_depth_27 : decode cX7_depth 27 = .ok (.iload_n 2, 1) := by decide +kernel
theorem dX7_depth_28 : decode cX7_depth 28 = .ok (.ireturn, 1) := by decide +kernel
set_option maxRecDepth 100000 in
theorem ok_X7_depth {G : GX} (hAp : Ap G) : ∀ d, ∀ e ∈ tb_X7_depth, Snd G mts yX7_depth.cls cX7_depth 4 (some .int) d none e.1 e.2 := by
  intro d
  unfold tb_X7_depth
  refine fa_c (s_iconst dX7_depth_0 (by decide)) ?_
  refine fa_c (s_st_n dX7_depth_1 rfl (by decide)) ?_
  refine fa_c (s_la_n dX7_depth_2 rfl) ?_
  refine fa_c (gf_X7_4 w_637 dX7_depth_3) ?_
  refine fa_c (s_li_n dX7_depth_6 rfl) ?_
  refine fa_c (s_ia dX7_depth_7) ?_
  refine fa_c (s_st_n dX7_depth_8 rfl (by decide)) ?_
  refine fa_c (s_li_n dX7_depth_9 rfl) ?_
  refine fa_c (s_iconst dX7_depth_10 (by decide)) ?_
  refine fa_c (s_ic_eq dX7_depth_11 (by decide)) ?_
  refine fa_c (s_inc dX7_depth_14 (by decide) (by decide)) ?_
  refine fa_c (s_la_n dX7_depth_17 rfl) ?_
  refine fa_c (gf_X7_4 w_637 dX7_depth_18) ?_
  refine fa_c (s_li_n dX7_depth_21 rfl) ?_
  refine fa_c (s_ia dX7_depth_22) ?_
  refine fa_c (s_st_n dX7_depth_23 rfl (by decide)) ?_
  refine fa_c (s_go dX7_depth_24 (by decide)) ?_
  refine fa_c (s_li_n dX7_depth_27 rfl) ?_
  refine fa_c (s_ri dX7_depth_28 rfl) ?_
  exact fun e he => absurd he List.not_mem_nil
theorem cl_X7_depth {G : GX} (hAp : Ap G) : Cl1 (Ct G mts) n_X7_depth tb_X7_depth := ct_cl (y := n_X7_depth) (yn := yX7_depth) rfl (by decide +kernel) (ok_X7_depth hAp)
theorem dX7_isUnder_0 : decode cX7_isUnder 0 = .ok (.iload_n 1, 1) := by decide +kernel
theorem dX7_isUnder_1 : decode cX7_isUnder 1 = .ok (.istore_n 3, 1) := by decide +kernel
theorem dX7_isUnder_2 : decode cX7_isUnder 2 = .ok (.iload_n 3, 1) := by decide +kernel
theorem dX7_isUnder_3 : decode cX7_isUnder 3 = .ok (.iconst (-1), 1) := by decide +kernel
theorem dX7_isUnder_4 : decode cX7_isUnder 4 = .ok (.if_icmp .eq 18, 3) := by decide +kernel
theorem dX7_isUnder_7 : decode cX7_isUnder 7 = .ok (.iload_n 3, 1) := by decide +kernel
theorem dX7_isUnder_8 : decode cX7_isUnder 8 = .ok (.iload_n 2, 1) := by decide +kernel
theorem dX7_isUnder_9 : decode cX7_isUnder 9 = .ok (.if_icmp .eq 13, 3) := by decide +kernel
theorem dX7_isUnder_12 : decode cX7_isUnder 12 = .ok (.aload_n 0, 1) := by decide +kernel
theorem dX7_isUnder_13 : decode cX7_isUnder 13 = .ok (.getfield 20, 3) := by decide +kernel
theorem dX7_isUnder_16 : decode cX7_isUnder 16 = .ok (.iload_n 3, 1) := by decide +kernel
theorem dX7_isUnder_17 : decode cX7_isUnder 17 = .ok (.iaload, 1) := by decide +kernel
theorem dX7_isUnder_18 : decode cX7_isUnder 18 = .ok (.istore_n 3, 1) := by decide +kernel
theorem dX7_isUnder_19 : decode cX7_isUnder 19 = .ok (.goto (-17), 3) := by decide +kernel
theorem dX7_isUnder_22 : decode cX7_isUnder 22 = .ok (.iload_n 3, 1) := by decide +kernel
theorem dX7_isUnder_23 : decode cX7_isUnder 23 = .ok (.iload_n 2, 1) := by decide +kernel
theorem dX7_isUnder_24 : decode cX7_isUnder 24 = .ok (.if_icmp .ne 7, 3) := by decide +kernel
theorem dX7_isUnder_27 : decode cX7_isUnder 27 = .ok (.iconst 1, 1) := by decide +kernel
theorem dX7_isUnder_28 : decode cX7_isUnder 28 = .ok (.goto 4, 3) := by decide +kernel
theorem dX7_isUnder_31 : decode cX7_isUnder 31 = .ok (.iconst 0, 1) := by decide +kernel
theorem dX7_isUnder_32 : decode cX7_isUnder 32 = .ok (.ireturn, 1) := by decide +kernel
set_option maxRecDepth 100000 in
theorem ok_X7_isUnder {G : GX} (hAp : Ap G) : ∀ d, ∀ e ∈ tb_X7_isUnder, Snd G mts yX7_isUnder.cls cX7_isUnder 4 (some .boolean) d none e.1 e.2 := by
  intro d
  unfold tb_X7_isUnder
  refine fa_c (s_li_n dX7_isUnder_0 rfl) ?_
  refine fa_c (s_st_n dX7_isUnder_1 rfl (by decide)) ?_
  refine fa_c (s_li_n dX7_isUnder_2 rfl) ?_
  refine fa_c (s_iconst dX7_isUnder_3 (by decide)) ?_
  refine fa_c (s_ic_eq dX7_isUnder_4 (by decide)) ?_
  refine fa_c (s_li_n dX7_isUnder_7 rfl) ?_
  refine fa_c (s_li_n dX7_isUnder_8 rfl) ?_
  refine fa_c (s_ic_eq dX7_isUnder_9 (by decide)) ?_
  refine fa_c (s_la_n dX7_isUnder_12 rfl) ?_
  refine fa_c (gf_X7_4 w_637 dX7_isUnder_13) ?_
  refine fa_c (s_li_n dX7_isUnder_16 rfl) ?_
  refine fa_c (s_ia dX7_isUnder_17) ?_
  refine fa_c (s_st_n dX7_isUnder_18 rfl (by decide)) ?_
  refine fa_c (s_go dX7_isUnder_19 (by decide)) ?_
  refine fa_c (s_li_n dX7_isUnder_22 rfl) ?_
  refine fa_c (s_li_n dX7_isUnder_23 rfl) ?_
  refine fa_c (s_ic_ne dX7_isUnder_24 (by decide)) ?_
  refine fa_c (s_iconst dX7_isUnder_27 (by decide)) ?_
  refine fa_c (s_go dX7_isUnder_28 (by decide)) ?_
  refine fa_c (s_iconst dX7_isUnder_31 (by decide)) ?_
  refine fa_c (s_rz dX7_isUnder_32 rfl) ?_
  exact fun e he => absurd he List.not_mem_nil
theorem cl_X7_isUnder {G : GX} (hAp : Ap G) : Cl1 (Ct G mts) n_X7_isUnder tb_X7_isUnder := ct_cl (y := n_X7_isUnder) (yn := yX7_isUnder) rfl (by decide +kernel) (ok_X7_isUnder hAp)
theorem dX7_many_0 : decode cX7_many 0 = .ok (.iconst 0, 1) := by decide +kernel
theorem dX7_many_1 : decode cX7_many 1 = .ok (.istore_n 2, 1) := by decide +kernel
theorem dX7_many_2 : decode cX7_many 2 = .ok (.iload_n 1, 1) := by decide +kernel
theorem dX7_many_3 : decode cX7_many 3 = .ok (.iconst 5, 1) := by decide +kernel
theorem dX7_many_4 : decode cX7_many 4 = .ok (.if_icmp .ne 7, 3) := by decide +kernel
theorem dX7_many_7 : decode cX7_many 7 = .ok (.iconst (-1), 1) := by decide +kernel
theorem dX7_many_8 : decode cX7_many 8 = .ok (.goto 4, 3) := by decide +kernel
theorem dX7_many_11 : decode cX7_many 11 = .ok (.iconst 0, 1) := by decide +kernel
theorem dX7_many_12 : decode cX7_many 12 = .ok (.istore_n 3, 1) := by decide +kernel
theorem dX7_many_13 : decode cX7_many 13 = .ok (.iconst 0, 1) := by decide +kernel
theorem dX7_many_14 : decode cX7_many 14 = .ok (.istore 4, 2) := by decide +kernel
theorem dX7_many_16 : decode cX7_many 16 = .ok (.iload 4, 2) := by decide +kernel
theorem dX7_many_18 : decode cX7_many 18 = .ok (.aload_n 0, 1) := by decide +kernel
theorem dX7_many_19 : decode cX7_many 19 = .ok (.getfield 54, 3) := by decide +kernel
theorem dX7_many_22 : decode cX7_many 22 = .ok (.if_icmp .ge 98, 3) := by decide +kernel
theorem dX7_many_25 : decode cX7_many 25 = .ok (.aload_n 0, 1) := by decide +kernel
theorem dX7_many_26 : decode cX7_many 26 = .ok (.getfield 16, 3) := by decide +kernel
theorem dX7_many_29 : decode cX7_many 29 = .ok (.iload 4, 2) := by decide +kernel
theorem dX7_many_31 : decode cX7_many 31 = .ok (.baload, 1) := by decide +kernel
theorem dX7_many_32 : decode cX7_many 32 = .ok (.ifCond .eq 82, 3) := by decide +kernel
theorem dX7_many_35 : decode cX7_many 35 = .ok (.iload_n 2, 1) := by decide +kernel
theorem dX7_many_36 : decode cX7_many 36 = .ok (.iload_n 1, 1) := by decide +kernel
theorem dX7_many_37 : decode cX7_many 37 = .ok (.iconst 3, 1) := by decide +kernel
theorem dX7_many_38 : decode cX7_many 38 = .ok (.if_icmp .ne 22, 3) := by decide +kernel
theorem dX7_many_41 : decode cX7_many 41 = .ok (.aload_n 0, 1) := by decide +kernel
theorem dX7_many_42 : decode cX7_many 42 = .ok (.getfield 20, 3) := by decide +kernel
theorem dX7_many_45 : decode cX7_many 45 = .ok (.iload 4, 2) := by decide +kernel
theorem dX7_many_47 : decode cX7_many 47 = .ok (.iaload, 1) := by decide +kernel
theorem dX7_many_48 : decode cX7_many 48 = .ok (.iconst (-1), 1) := by decide +kernel
theorem dX7_many_49 : decode cX7_many 49 = .ok (.if_icmp .ne 7, 3) := by decide +kernel
theorem dX7_many_52 : decode cX7_many 52 = .ok (.iconst 1, 1) := by decide +kernel
theorem dX7_many_53 : decode cX7_many 53 = .ok (.goto 22, 3) := by decide +kernel
theorem dX7_many_56 : decode cX7_many 56 = .ok (.iconst 0, 1) := by decide +kernel
theorem dX7_many_57 : decode cX7_many 57 = .ok (.goto 18, 3) := by decide +kernel
theorem dX7_many_60 : decode cX7_many 60 = .ok (.aload_n 0, 1) := by decide +kernel
theorem dX7_many_61 : decode cX7_many 61 = .ok (.getfield 23, 3) := by decide +kernel
theorem dX7_many_64 : decode cX7_many 64 = .ok (.iload 4, 2) := by decide +kernel
theorem dX7_many_66 : decode cX7_many 66 = .ok (.baload, 1) := by decide +kernel
theorem dX7_many_67 : decode cX7_many 67 = .ok (.ifCond .eq 7, 3) := by decide +kernel
theorem dX7_many_70 : decode cX7_many 70 = .ok (.iconst 1, 1) := by decide +kernel
theorem dX7_many_71 : decode cX7_many 71 = .ok (.goto 4, 3) := by decide +kernel
theorem dX7_many_74 : decode cX7_many 74 = .ok (.iconst 0, 1) := by decide +kernel
theorem dX7_many_75 : decode cX7_many 75 = .ok (.iadd, 1) := by decide +kernel
theorem dX7_many_76 : decode cX7_many 76 = .ok (.istore_n 2, 1) := by decide +kernel
theorem dX7_many_77 : decode cX7_many 77 = .ok (.iload_n 1, 1) := by decide +kernel
theorem dX7_many_78 : decode cX7_many 78 = .ok (.iconst 5, 1) := by decide +kernel
theorem dX7_many_79 : decode cX7_many 79 = .ok (.if_icmp .ne 12, 3) := by decide +kernel
theorem dX7_many_82 : decode cX7_many 82 = .ok (.aload_n 0, 1) := by decide +kernel
theorem dX7_many_83 : decode cX7_many 83 = .ok (.iload 4, 2) := by decide +kernel
theorem dX7_many_85 : decode cX7_many 85 = .ok (.invokevirtual 77, 3) := by decide +kernel
theorem dX7_many_88 : decode cX7_many 88 = .ok (.goto 11, 3) := by decide +kernel
theorem dX7_many_91 : decode cX7_many 91 = .ok (.aload_n 0, 1) := by decide +kernel
theorem dX7_many_92 : decode cX7_many 92 = .ok (.iload 4, 2) := by decide +kernel
theorem dX7_many_94 : decode cX7_many 94 = .ok (.invokevirtual 153, 3) := by decide +kernel
theorem dX7_many_97 : decode cX7_many 97 = .ok (.iconst 1, 1) := by decide +kernel
theorem dX7_many_98 : decode cX7_many 98 = .ok (.iadd, 1) := by decide +kernel
theorem dX7_many_99 : decode cX7_many 99 = .ok (.istore 5, 2) := by decide +kernel
theorem dX7_many_101 : decode cX7_many 101 = .ok (.iload 5, 2) := by decide +kernel
theorem dX7_many_103 : decode cX7_many 103 = .ok (.iload_n 3, 1) := by decide +kernel
theorem dX7_many_104 : decode cX7_many 104 = .ok (.if_icmp .le 8, 3) := by decide +kernel
theorem dX7_many_107 : decode cX7_many 107 = .ok (.iload 5, 2) := by decide +kernel
theorem dX7_many_109 : decode cX7_many 109 = .ok (.goto 4, 3) := by decide +kernel
theorem dX7_many_112 : decode cX7_many 112 = .ok (.iload_n 3, 1) := by decide +kernel
theorem dX7_many_113 : decode cX7_many 113 = .ok (.istore_n 3, 1) := by decide +kernel
theorem dX7_many_114 : decode cX7_many 114 = .ok (.iinc 4 1, 3) := by decide +kernel
theorem dX7_many_117 : decode cX7_many 117 = .ok (.goto (-101), 3) := by decide +kernel
theorem dX7_many_120 : decode cX7_many 120 = .ok (.iload_n 1, 1) := by decide +kernel
theorem dX7_many_121 : decode cX7_many 121 = .ok (.iconst 5, 1) := by decide +kernel
theorem dX7_many_122 : decode cX7_many 122 = .ok (.if_icmp .ge 7, 3) := by decide +kernel
theorem dX7_many_125 : decode cX7_many 125 = .ok (.iload_n 2, 1) := by decide +kernel
theorem dX7_many_126 : decode cX7_many 126 = .ok (.goto 4, 3) := by decide +kernel
theorem dX7_many_129 : decode cX7_many 129 = .ok (.iload_n 3, 1) := by decide +kernel
theorem dX7_many_130 : decode cX7_many 130 = .ok (.ireturn, 1) := by decide +kernel
set_option maxRecDepth 100000 in
theorem ok_X7_many {G : GX} (hAp : Ap G) : ∀ d, ∀ e ∈ tb_X7_many, Snd G mts yX7_many.cls cX7_many 6 (some .int) d none e.1 e.2 := by
  intro d
  unfold tb_X7_many
  refine fa_c (s_iconst dX7_many_0 (by decide)) ?_
  refine fa_c (s_st_n dX7_many_1 rfl (by decide)) ?_
  refine fa_c (s_li_n dX7_many_2 rfl) ?_
  refine fa_c (s_iconst dX7_many_3 (by decide)) ?_
  refine fa_c (s_ic_ne dX7_many_4 (by decide)) ?_
  refine fa_c (s_iconst dX7_many_7 (by decide)) ?_
  refine fa_c (s_go dX7_many_8 (by decide)) ?_
  refine fa_c (s_iconst dX7_many_11 (by decide)) ?_
  refine fa_c (s_st_n dX7_many_12 rfl (by decide)) ?_
  refine fa_c (s_iconst dX7_many_13 (by decide)) ?_
  refine fa_c (s_st dX7_many_14 (by decide)) ?_
  refine fa_c (s_li dX7_many_16) ?_
  refine fa_c (s_la_n dX7_many_18 rfl) ?_
  refine fa_c (gf_X7_0 w_633 dX7_many_19) ?_
  refine fa_c (s_ic_ge dX7_many_22 (by decide)) ?_
  refine fa_c (s_la_n dX7_many_25 rfl) ?_
  refine fa_c (gf_X7_3 w_636 dX7_many_26) ?_
  refine fa_c (s_li dX7_many_29) ?_
  refine fa_c (s_ba dX7_many_31) ?_
  refine fa_c (s_if_eq dX7_many_32 (by decide)) ?_
  refine fa_c (s_li_n dX7_many_35 rfl) ?_
  refine fa_c (s_li_n dX7_many_36 rfl) ?_
  refine fa_c (s_iconst dX7_many_37 (by decide)) ?_
  refine fa_c (s_ic_ne dX7_many_38 (by decide)) ?_
  refine fa_c (s_la_n dX7_many_41 rfl) ?_
  refine fa_c (gf_X7_4 w_637 dX7_many_42) ?_
  refine fa_c (s_li dX7_many_45) ?_
  refine fa_c (s_ia dX7_many_47) ?_
  refine fa_c (s_iconst dX7_many_48 (by decide)) ?_
  refine fa_c (s_ic_ne dX7_many_49 (by decide)) ?_
  refine fa_c (s_iconst dX7_many_52 (by decide)) ?_
  refine fa_c (s_go dX7_many_53 (by decide)) ?_
  refine fa_c (s_iconst dX7_many_56 (by decide)) ?_
  refine fa_c (s_go dX7_many_57 (by decide)) ?_
  refine fa_c (s_la_n dX7_many_60 rfl) ?_
  refine fa_c (gf_X7_5 w_638 dX7_many_61) ?_
  refine fa_c (s_li dX7_many_64) ?_
  refine fa_c (s_ba dX7_many_66) ?_
  refine fa_c (s_if_eq dX7_many_67 (by decide)) ?_
  refine fa_c (s_iconst dX7_many_70 (by decide)) ?_
  refine fa_c (s_go dX7_many_71 (by decide)) ?_
  refine fa_c (s_iconst dX7_many_74 (by decide)) ?_
  refine fa_c (s_i_add dX7_many_75) ?_
  refine fa_c (s_st_n dX7_many_76 rfl (by decide)) ?_
  refine fa_c (s_li_n dX7_many_77 rfl) ?_
  refine fa_c (s_iconst dX7_many_78 (by decide)) ?_
  refine fa_c (s_ic_ne dX7_many_79 (by decide)) ?_
  refine fa_c (s_la_n dX7_many_82 rfl) ?_
  refine fa_c (s_li dX7_many_83) ?_
  refine fa_c (s_cv mo_X7_rank co_X7 (by decide) (fun _ _ => ⟨_, rfl⟩) dX7_many_85 w_760 w_762 w_27 (by decide)) ?_
  refine fa_c (s_go dX7_many_88 (by decide)) ?_
  refine fa_c (s_la_n dX7_many_91 rfl) ?_
  refine fa_c (s_li dX7_many_92) ?_
  refine fa_c (s_cv mo_X7_depth co_X7 (by decide) (fun _ _ => ⟨_, rfl⟩) dX7_many_94 w_831 w_833 w_38 (by decide)) ?_
  refine fa_c (s_iconst dX7_many_97 (by decide)) ?_
  refine fa_c (s_i_add dX7_many_98) ?_
  refine fa_c (s_st dX7_many_99 (by decide)) ?_
  refine fa_c (s_li dX7_many_101) ?_
  refine fa_c (s_li_n dX7_many_103 rfl) ?_
  refine fa_c (s_ic_le dX7_many_104 (by decide)) ?_
  refine fa_c (s_li dX7_many_107) ?_
  refine fa_c (s_go dX7_many_109 (by decide)) ?_
  refine fa_c (s_li_n dX7_many_112 rfl) ?_
  refine fa_c (s_st_n dX7_many_113 rfl (by decide)) ?_
  refine fa_c (s_inc dX7_many_114 (by decide) (by decide)) ?_
  refine fa_c (s_go dX7_many_117 (by decide)) ?_
  refine fa_c (s_li_n dX7_many_120 rfl) ?_
  refine fa_c (s_iconst dX7_many_121 (by decide)) ?_
  refine fa_c (s_ic_ge dX7_many_122 (by decide)) ?_
  refine fa_c (s_li_n dX7_many_125 rfl) ?_
  refine fa_c (s_go dX7_many_126 (by decide)) ?_
  refine fa_c (s_li_n dX7_many_129 rfl) ?_
  refine fa_c (s_ri dX7_many_130 rfl) ?_
  exact fun e he => absurd he List.not_mem_nil
theorem cl_X7_many {G : GX} (hAp : Ap G) : Cl1 (Ct G mts) n_X7_many tb_X7_many := ct_cl (y := n_X7_many) (yn := yX7_many) rfl (by decide +kernel) (ok_X7_many hAp)
theorem dX7_told_0 : decode cX7_told 0 = .ok (.aload_n 0, 1) := by decide +kernel
theorem dX7_told_1 : decode cX7_told 1 = .ok (.invokevirtual 103, 3) := by decide +kernel
theorem dX7_told_4 : decode cX7_told 4 = .ok (.iload_n 1, 1) := by decide +kernel
theorem dX7_told_5 : decode cX7_told 5 = .ok (.tableswitch 100 0 10 #[59, 64, 69, 74, 74, 74, 80, 85, 74, 90, 95], 59) := by decide +kernel
theorem dX7_told_64 : decode cX7_told 64 = .ok (.aload_n 0, 1) := by decide +kernel
theorem dX7_told_65 : decode cX7_told 65 = .ok (.getfield 54, 3) := by decide +kernel
theorem dX7_told_68 : decode cX7_told 68 = .ok (.ireturn, 1) := by decide +kernel
theorem dX7_told_69 : decode cX7_told 69 = .ok (.aload_n 0, 1) := by decide +kernel
theorem dX7_told_70 : decode cX7_told 70 = .ok (.invokevirtual 132, 3) := by decide +kernel
theorem dX7_told_73 : decode cX7_told 73 = .ok (.ireturn, 1) := by decide +kernel
theorem dX7_told_74 : decode cX7_told 74 = .ok (.aload_n 0, 1) := by decide +kernel
theorem dX7_told_75 : decode cX7_told 75 = .ok (.invokevirtual 125, 3) := by decide +kernel
theorem dX7_told_78 : decode cX7_told 78 = .ok (.ireturn, 1) := by decide +kernel
theorem dX7_told_79 : decode cX7_told 79 = .ok (.aload_n 0, 1) := by decide +kernel
theorem dX7_told_80 : decode cX7_told 80 = .ok (.iload_n 1, 1) := by decide +kernel
theorem dX7_told_81 : decode cX7_told 81 = .ok (.invokevirtual 156, 3) := by decide +kernel
theorem dX7_told_84 : decode cX7_told 84 = .ok (.ireturn, 1) := by decide +kernel
theorem dX7_told_85 : decode cX7_told 85 = .ok (.aload_n 0, 1) := by decide +kernel
theorem dX7_told_86 : decode cX7_told 86 = .ok (.getfield 67, 3) := by decide +kernel
theorem dX7_told_89 : decode cX7_told 89 = .ok (.ireturn, 1) := by decide +kernel
theorem dX7_told_90 : decode cX7_told 90 = .ok (.aload_n 0, 1) := by decide +kernel
theorem dX7_told_91 : decode cX7_told 91 = .ok (.getfield 70, 3) := by decide +kernel
theorem dX7_told_94 : decode cX7_told 94 = .ok (.ireturn, 1) := by decide +kernel
theorem dX7_told_95 : decode cX7_told 95 = .ok (.aload_n 0, 1) := by decide +kernel
theorem dX7_told_96 : decode cX7_told 96 = .ok (.getfield 159, 3) := by decide +kernel
theorem dX7_told_99 : decode cX7_told 99 = .ok (.ireturn, 1) := by decide +kernel
theorem dX7_told_100 : decode cX7_told 100 = .ok (.aload_n 0, 1) := by decide +kernel
theorem dX7_told_101 : decode cX7_told 101 = .ok (.getfield 162, 3) := by decide +kernel
theorem dX7_told_104 : decode cX7_told 104 = .ok (.ireturn, 1) := by decide +kernel
theorem dX7_told_105 : decode cX7_told 105 = .ok (.ldc 110, 2) := by decide +kernel
theorem dX7_told_107 : decode cX7_told 107 = .ok (.ireturn, 1) := by decide +kernel
set_option maxRecDepth 100000 in
theorem ok_X7_told {G : GX} (hAp : Ap G) : ∀ d, ∀ e ∈ tb_X7_told, Snd G mts yX7_told.cls cX7_told 2 (some .int) d none e.1 e.2 := by
  intro d
  unfold tb_X7_told
  refine fa_c (s_la_n dX7_told_0 rfl) ?_
  refine fa_c (s_cv mo_X7_own co_X7 (by decide) (fun _ _ => ⟨_, rfl⟩) dX7_told_1 w_713 w_715 w_18 (by decide)) ?_
  refine fa_c (s_li_n dX7_told_4 rfl) ?_
  refine fa_c (s_sw (n := 11) dX7_told_5 (by decide) (by decide +kernel) (by decide) (by decide +kernel)) ?_
  refine fa_c (s_la_n dX7_told_64 rfl) ?_
  refine fa_c (gf_X7_0 w_633 dX7_told_65) ?_
  refine fa_c (s_ri dX7_told_68 rfl) ?_
  refine fa_c (s_la_n dX7_told_69 rfl) ?_
  refine fa_c (s_cv mo_X7_standing co_X7 (by decide) (fun _ _ => ⟨_, rfl⟩) dX7_told_70 w_792 w_794 w_33 (by decide)) ?_
  refine fa_c (s_ri dX7_told_73 rfl) ?_
  refine fa_c (s_la_n dX7_told_74 rfl) ?_
  refine fa_c (s_cv mo_X7_soonest co_X7 (by decide) (fun _ _ => ⟨_, rfl⟩) dX7_told_75 w_776 w_778 w_30 (by decide)) ?_
  refine fa_c (s_ri dX7_told_78 rfl) ?_
  refine fa_c (s_la_n dX7_told_79 rfl) ?_
  refine fa_c (s_li_n dX7_told_80 rfl) ?_
  refine fa_c (s_cv mo_X7_many co_X7 (by decide) (fun _ _ => ⟨_, rfl⟩) dX7_told_81 w_827 w_829 w_37 (by decide)) ?_
  refine fa_c (s_ri dX7_told_84 rfl) ?_
  refine fa_c (s_la_n dX7_told_85 rfl) ?_
  refine fa_c (gf_X7_8 w_641 dX7_told_86) ?_
  refine fa_c (s_ri dX7_told_89 rfl) ?_
  refine fa_c (s_la_n dX7_told_90 rfl) ?_
  refine fa_c (gf_X7_9 w_642 dX7_told_91) ?_
  refine fa_c (s_ri dX7_told_94 rfl) ?_
  refine fa_c (s_la_n dX7_told_95 rfl) ?_
  refine fa_c (gf_X7_13 w_646 dX7_told_96) ?_
  refine fa_c (s_ri dX7_told_99 rfl) ?_
  refine fa_c (s_la_n dX7_told_100 rfl) ?_
  refine fa_c (gf_X7_14 w_647 dX7_told_101) ?_
  refine fa_c (s_ri dX7_told_104 rfl) ?_
  refine fa_c (s_ldc dX7_told_105 w_720) ?_
  refine fa_c (s_ri dX7_told_107 rfl) ?_
  exact fun e he => absurd he List.not_mem_nil
theorem cl_X7_told {G : GX} (hAp : Ap G) : Cl1 (Ct G mts) n_X7_told tb_X7_told := ct_cl (y := n_X7_told) (yn := yX7_told) rfl (by decide +kernel) (ok_X7_told hAp)
theorem dX7_under_0 : decode cX7_under 0 = .ok (.iconst 0, 1) := by decide +kernel
theorem dX7_under_1 : decode cX7_under 1 = .ok (.istore_n 2, 1) := by decide +kernel
theorem dX7_under_2 : decode cX7_under 2 = .ok (.iconst 0, 1) := by decide +kernel
theorem dX7_under_3 : decode cX7_under 3 = .ok (.istore_n 3, 1) := by decide +kernel
theorem dX7_under_4 : decode cX7_under 4 = .ok (.iload_n 3, 1) := by decide +kernel
theorem dX7_under_5 : decode cX7_under 5 = .ok (.aload_n 0, 1) := by decide +kernel
theorem dX7_under_6 : decode cX7_under 6 = .ok (.getfield 54, 3) := by decide +kernel
theorem dX7_under_9 : decode cX7_under 9 = .ok (.if_icmp .ge 35, 3) := by decide +kernel
theorem dX7_under_12 : decode cX7_under 12 = .ok (.iload_n 2, 1) := by decide +kernel
theorem dX7_under_13 : decode cX7_under 13 = .ok (.aload_n 0, 1) := by decide +kernel
theorem dX7_under_14 : decode cX7_under 14 = .ok (.getfield 16, 3) := by decide +kernel
theorem dX7_under_17 : decode cX7_under 17 = .ok (.iload_n 3, 1) := by decide +kernel
theorem dX7_under_18 : decode cX7_under 18 = .ok (.baload, 1) := by decide +kernel
theorem dX7_under_19 : decode cX7_under 19 = .ok (.ifCond .eq 16, 3) := by decide +kernel
theorem dX7_under_22 : decode cX7_under 22 = .ok (.aload_n 0, 1) := by decide +kernel
theorem dX7_under_23 : decode cX7_under 23 = .ok (.iload_n 3, 1) := by decide +kernel
theorem dX7_under_24 : decode cX7_under 24 = .ok (.iload_n 1, 1) := by decide +kernel
theorem dX7_under_25 : decode cX7_under 25 = .ok (.invokevirtual 165, 3) := by decide +kernel
theorem dX7_under_28 : decode cX7_under 28 = .ok (.ifCond .eq 7, 3) := by decide +kernel
theorem dX7_under_31 : decode cX7_under 31 = .ok (.iconst 1, 1) := by decide +kernel
theorem dX7_under_32 : decode cX7_under 32 = .ok (.goto 4, 3) := by decide +kernel
theorem dX7_under_35 : decode cX7_under 35 = .ok (.iconst 0, 1) := by decide +kernel
theorem dX7_under_36 : decode cX7_under 36 = .ok (.iadd, 1) := by decide +kernel
theorem dX7_under_37 : decode cX7_under 37 = .ok (.istore_n 2, 1) := by decide +kernel
theorem dX7_under_38 : decode cX7_under 38 = .ok (.iinc 3 1, 3) := by decide +kernel
theorem dX7_under_41 : decode cX7_under 41 = .ok (.goto (-37), 3) := by decide +kernel
theorem dX7_under_44 : decode cX7_under 44 = .ok (.iload_n 2, 1) := by decide +kernel
theorem dX7_under_45 : decode cX7_under 45 = .ok (.ireturn, 1) := by decide +kernel
set_option maxRecDepth 100000 in
theorem ok_X7_under {G : GX} (hAp : Ap G) : ∀ d, ∀ e ∈ tb_X7_under, Snd G mts yX7_under.cls cX7_under 4 (some .int) d none e.1 e.2 := by
  intro d
  unfold tb_X7_under
  refine fa_c (s_iconst dX7_under_0 (by decide)) ?_
  refine fa_c (s_st_n dX7_under_1 rfl (by decide)) ?_
  refine fa_c (s_iconst dX7_under_2 (by decide)) ?_
  refine fa_c (s_st_n dX7_under_3 rfl (by decide)) ?_
  refine fa_c (s_li_n dX7_under_4 rfl) ?_
  refine fa_c (s_la_n dX7_under_5 rfl) ?_
  refine fa_c (gf_X7_0 w_633 dX7_under_6) ?_
  refine fa_c (s_ic_ge dX7_under_9 (by decide)) ?_
  refine fa_c (s_li_n dX7_under_12 rfl) ?_
  refine fa_c (s_la_n dX7_under_13 rfl) ?_
  refine fa_c (gf_X7_3 w_636 dX7_under_14) ?_
  refine fa_c (s_li_n dX7_under_17 rfl) ?_
  refine fa_c (s_ba dX7_under_18) ?_
  refine fa_c (s_if_eq dX7_under_19 (by decide)) ?_
  refine fa_c (s_la_n dX7_under_22 rfl) ?_
  refine fa_c (s_li_n dX7_under_23 rfl) ?_
  refine fa_c (s_li_n dX7_under_24 rfl) ?_
  refine fa_c (s_cv mo_X7_isUnder co_X7 (by decide) (fun _ _ => ⟨_, rfl⟩) dX7_under_25 w_843 w_845 w_40 (by decide)) ?_
  refine fa_c (s_if_eq dX7_under_28 (by decide)) ?_
  refine fa_c (s_iconst dX7_under_31 (by decide)) ?_
  refine fa_c (s_go dX7_under_32 (by decide)) ?_
  refine fa_c (s_iconst dX7_under_35 (by decide)) ?_
  refine fa_c (s_i_add dX7_under_36) ?_
  refine fa_c (s_st_n dX7_under_37 rfl (by decide)) ?_
  refine fa_c (s_inc dX7_under_38 (by decide) (by decide)) ?_
  refine fa_c (s_go dX7_under_41 (by decide)) ?_
  refine fa_c (s_li_n dX7_under_44 rfl) ?_
  refine fa_c (s_ri dX7_under_45 rfl) ?_
  exact fun e he => absurd he List.not_mem_nil
theorem cl_X7_under {G : GX} (hAp : Ap G) : Cl1 (Ct G mts) n_X7_under tb_X7_under := ct_cl (y := n_X7_under) (yn := yX7_under) rfl (by decide +kernel) (ok_X7_under hAp)
theorem dX7_power_0 : decode cX7_power 0 = .ok (.iconst 0, 1) := by decide +kernel
theorem dX7_power_1 : decode cX7_power 1 = .ok (.istore_n 1, 1) := by decide +kernel
theorem dX7_power_2 : decode cX7_power 2 = .ok (.iload_n 0, 1) := by decide +kernel
theorem dX7_power_3 : decode cX7_power 3 = .ok (.iload_n 1, 1) := by decide +kernel
theorem dX7_power_4 : decode cX7_power 4 = .ok (.iconst 1, 1) := by decide +kernel
theorem dX7_power_5 : decode cX7_power 5 = .ok (.iadd, 1) := by decide +kernel
theorem dX7_power_6 : decode cX7_power 6 = .ok (.ishr, 1) := by decide +kernel
theorem dX7_power_7 : decode cX7_power 7 = .ok (.ifCond .le 9, 3) := by decide +kernel
theorem dX7_power_10 : decode cX7_power 10 = .ok (.iinc 1 1, 3) := by decide +kernel
theorem dX7_power_13 : decode cX7_power 13 = .ok (.goto (-11), 3) := by decide +kernel
theorem dX7_power_16 : decode cX7_power 16 = .ok (.iload_n 1, 1) := by decide +kernel
theorem dX7_power_17 : decode cX7_power 17 = .ok (.ireturn, 1) := by decide +kernel
set_option maxRecDepth 100000 in
theorem ok_X7_power {G : GX} (hAp : Ap G) : ∀ d, ∀ e ∈ tb_X7_power, Snd G mts yX7_power.cls cX7_power 2 (some .int) d none e.1 e.2 := by
  intro d
  unfold tb_X7_power
  refine fa_c (s_iconst dX7_power_0 (by decide)) ?_
  refine fa_c (s_st_n dX7_power_1 rfl (by decide)) ?_
  refine fa_c (s_li_n dX7_power_2 rfl) ?_
  refine fa_c (s_li_n dX7_power_3 rfl) ?_
  refine fa_c (s_iconst dX7_power_4 (by decide)) ?_
  refine fa_c (s_i_add dX7_power_5) ?_
  refine fa_c (s_i_shr dX7_power_6) ?_
  refine fa_c (s_if_le dX7_power_7 (by decide)) ?_
  refine fa_c (s_inc dX7_power_10 (by decide) (by decide)) ?_
  refine fa_c (s_go dX7_power_13 (by decide)) ?_
  refine fa_c (s_li_n dX7_power_16 rfl) ?_
  refine fa_c (s_ri dX7_power_17 rfl) ?_
  exact fun e he => absurd he List.not_mem_nil
theorem cl_X7_power {G : GX} (hAp : Ap G) : Cl1 (Ct G mts) n_X7_power tb_X7_power := ct_cl (y := n_X7_power) (yn := yX7_power) rfl (by decide +kernel) (ok_X7_power hAp)
theorem dX7_bitsOf_0 : decode cX7_bitsOf 0 = .ok (.iload_n 0, 1) := by decide +kernel
theorem dX7_bitsOf_1 : decode cX7_bitsOf 1 = .ok (.ifCond .ne 5, 3) := by decide +kernel
theorem dX7_bitsOf_4 : decode cX7_bitsOf 4 = .ok (.iconst 0, 1) := by decide +kernel
theorem dX7_bitsOf_5 : decode cX7_bitsOf 5 = .ok (.ireturn, 1) := by decide +kernel
theorem dX7_bitsOf_6 : decode cX7_bitsOf 6 = .ok (.iload_n 0, 1) := by decide +kernel
theorem dX7_bitsOf_7 : decode cX7_bitsOf 7 = .ok (.ifCond .ge 8, 3) := by decide +kernel
theorem dX7_bitsOf_10 : decode cX7_bitsOf 10 = .ok (.iload_n 0, 1) := by decide +kernel
theorem dX7_bitsOf_11 : decode cX7_bitsOf 11 = .ok (.ineg, 1) := by decide +kernel
theorem dX7_bitsOf_12 : decode cX7_bitsOf 12 = .ok (.goto 4, 3) := by decide +kernel
theorem dX7_bitsOf_15 : decode cX7_bitsOf 15 = .ok (.iload_n 0, 1) := by decide +kernel
theorem dX7_bitsOf_16 : decode cX7_bitsOf 16 = .ok (.istore_n 1, 1) := by decide +kernel
theorem dX7_bitsOf_17 : decode cX7_bitsOf 17 = .ok (.iload_n 1, 1) := by decide +kernel
theorem dX7_bitsOf_18 : decode cX7_bitsOf 18 = .ok (.invokestatic 168, 3) := by decide +kernel
theorem dX7_bitsOf_21 : decode cX7_bitsOf 21 = .ok (.istore_n 2, 1) := by decide +kernel
theorem dX7_bitsOf_22 : decode cX7_bitsOf 22 = .ok (.iload_n 1, 1) := by decide +kernel
theorem dX7_bitsOf_23 : decode cX7_bitsOf 23 = .ok (.iconst 1, 1) := by decide +kernel
theorem dX7_bitsOf_24 : decode cX7_bitsOf 24 = .ok (.iload_n 2, 1) := by decide +kernel
theorem dX7_bitsOf_25 : decode cX7_bitsOf 25 = .ok (.ishl, 1) := by decide +kernel
theorem dX7_bitsOf_26 : decode cX7_bitsOf 26 = .ok (.isub, 1) := by decide +kernel
theorem dX7_bitsOf_27 : decode cX7_bitsOf 27 = .ok (.bipush 23, 2) := by decide +kernel
theorem dX7_bitsOf_29 : decode cX7_bitsOf 29 = .ok (.iload_n 2, 1) := by decide +kernel
theorem dX7_bitsOf_30 : decode cX7_bitsOf 30 = .ok (.isub, 1) := by decide +kernel
theorem dX7_bitsOf_31 : decode cX7_bitsOf 31 = .ok (.ishl, 1) := by decide +kernel
theorem dX7_bitsOf_32 : decode cX7_bitsOf 32 = .ok (.istore_n 3, 1) := by decide +kernel
theorem dX7_bitsOf_33 : decode cX7_bitsOf 33 = .ok (.iload_n 2, 1) := by decide +kernel
theorem dX7_bitsOf_34 : decode cX7_bitsOf 34 = .ok (.bipush 123, 2) := by decide +kernel
theorem dX7_bitsOf_36 : decode cX7_bitsOf 36 = .ok (.iadd, 1) := by decide +kernel
theorem dX7_bitsOf_37 : decode cX7_bitsOf 37 = .ok (.bipush 23, 2) := by decide +kernel
theorem dX7_bitsOf_39 : decode cX7_bitsOf 39 = .ok (.ishl, 1) := by decide +kernel
theorem dX7_bitsOf_40 : decode cX7_bitsOf 40 = .ok (.iload_n 3, 1) := by decide +kernel
theorem dX7_bitsOf_41 : decode cX7_bitsOf 41 = .ok (.iadd, 1) := by decide +kernel
theorem dX7_bitsOf_42 : decode cX7_bitsOf 42 = .ok (.iload_n 0, 1) := by decide +kernel
theorem dX7_bitsOf_43 : decode cX7_bitsOf 43 = .ok (.ifCond .ge 8, 3) := by decide +kernel
theorem dX7_bitsOf_46 : decode cX7_bitsOf 46 = .ok (.ldc 171, 2) := by decide +kernel
theorem dX7_bitsOf_48 : decode cX7_bitsOf 48 = .ok (.goto 4, 3) := by decide +kernel
theorem dX7_bitsOf_51 : decode cX7_bitsOf 51 = .ok (.iconst 0, 1) := by decide +kernel
theorem dX7_bitsOf_52 : decode cX7_bitsOf 52 = .ok (.iadd, 1) := by decide +kernel
theorem dX7_bitsOf_53 : decode cX7_bitsOf 53 = .ok (.ireturn, 1) := by decide +kernel
set_option maxRecDepth 100000 in
theorem ok_X7_bitsOf {G : GX} (hAp : Ap G) : ∀ d, ∀ e ∈ tb_X7_bitsOf, Snd G mts yX7_bitsOf.cls cX7_bitsOf 4 (some .int) d none e.1 e.2 := by
  intro d
  unfold tb_X7_bitsOf
  refine fa_c (s_li_n dX7_bitsOf_0 rfl) ?_
  refine fa_c (s_if_ne dX7_bitsOf_1 (by decide)) ?_
  refine fa_c (s_iconst dX7_bitsOf_4 (by decide)) ?_
  refine fa_c (s_ri dX7_bitsOf_5 rfl) ?_
  refine fa_c (s_li_n dX7_bitsOf_6 rfl) ?_
  refine fa_c (s_if_ge dX7_bitsOf_7 (by decide)) ?_
  refine fa_c (s_li_n dX7_bitsOf_10 rfl) ?_
  refine fa_c (s_i_neg dX7_bitsOf_11) ?_
  refine fa_c (s_go dX7_bitsOf_12 (by decide)) ?_
  refine fa_c (s_li_n dX7_bitsOf_15 rfl) ?_
  refine fa_c (s_st_n dX7_bitsOf_16 rfl (by decide)) ?_
  refine fa_c (s_li_n dX7_bitsOf_17 rfl) ?_
  refine fa_c (s_cs mo_X7_power dX7_bitsOf_18 w_850 w_851 (by decide)) ?_
  refine fa_c (s_st_n dX7_bitsOf_21 rfl (by decide)) ?_
  refine fa_c (s_li_n dX7_bitsOf_22 rfl) ?_
  refine fa_c (s_iconst dX7_bitsOf_23 (by decide)) ?_
  refine fa_c (s_li_n dX7_bitsOf_24 rfl) ?_
  refine fa_c (s_i_shl dX7_bitsOf_25) ?_
  refine fa_c (s_i_sub dX7_bitsOf_26) ?_
  refine fa_c (s_bipush dX7_bitsOf_27 (by decide)) ?_
  refine fa_c (s_li_n dX7_bitsOf_29 rfl) ?_
  refine fa_c (s_i_sub dX7_bitsOf_30) ?_
  refine fa_c (s_i_shl dX7_bitsOf_31) ?_
  refine fa_c (s_st_n dX7_bitsOf_32 rfl (by decide)) ?_
  refine fa_c (s_li_n dX7_bitsOf_33 rfl) ?_
  refine fa_c (s_bipush dX7_bitsOf_34 (by decide)) ?_
  refine fa_c (s_i_add dX7_bitsOf_36) ?_
  refine fa_c (s_bipush dX7_bitsOf_37 (by decide)) ?_
  refine fa_c (s_i_shl dX7_bitsOf_39) ?_
  refine fa_c (s_li_n dX7_bitsOf_40 rfl) ?_
  refine fa_c (s_i_add dX7_bitsOf_41) ?_
  refine fa_c (s_li_n dX7_bitsOf_42 rfl) ?_
  refine fa_c (s_if_ge dX7_bitsOf_43 (by decide)) ?_
  refine fa_c (s_ldc dX7_bitsOf_46 w_853) ?_
  refine fa_c (s_go dX7_bitsOf_48 (by decide)) ?_
  refine fa_c (s_iconst dX7_bitsOf_51 (by decide)) ?_
  refine fa_c (s_i_add dX7_bitsOf_52) ?_
  refine fa_c (s_ri dX7_bitsOf_53 rfl) ?_
  exact fun e he => absurd he List.not_mem_nil
theorem cl_X7_bitsOf {G : GX} (hAp : Ap G) : Cl1 (Ct G mts) n_X7_bitsOf tb_X7_bitsOf := ct_cl (y := n_X7_bitsOf) (yn := yX7_bitsOf) rfl (by decide +kernel) (ok_X7_bitsOf hAp)
theorem dX7_job_0 : decode cX7_job 0 = .ok (.aload_n 0, 1) := by decide +kernel
theorem dX7_job_1 : decode cX7_job 1 = .ok (.iload_n 1, 1) := by decide +kernel
theorem dX7_job_2 : decode cX7_job 2 = .ok (.invokevirtual 116, 3) := by decide +kernel
theorem dX7_job_5 : decode cX7_job 5 = .ok (.ifCond .ne 6, 3) := by decide +kernel
theorem dX7_job_8 : decode cX7_job 8 = .ok (.ldc 120, 2) := by decide +kernel
theorem dX7_job_10 : decode cX7_job 10 = .ok (.ireturn, 1) := by decide +kernel
theorem dX7_job_11 : decode cX7_job 11 = .ok (.iload_n 2, 1) := by decide +kernel
theorem dX7_job_12 : decode cX7_job 12 = .ok (.iconst 0, 1) := by decide +kernel
theorem dX7_job_13 : decode cX7_job 13 = .ok (.bipush 8, 2) := by decide +kernel
theorem dX7_job_15 : decode cX7_job 15 = .ok (.invokestatic 106, 3) := by decide +kernel
theorem dX7_job_18 : decode cX7_job 18 = .ok (.ifCond .ne 6, 3) := by decide +kernel
theorem dX7_job_21 : decode cX7_job 21 = .ok (.ldc 110, 2) := by decide +kernel
theorem dX7_job_23 : decode cX7_job 23 = .ok (.ireturn, 1) := by decide +kernel
theorem dX7_job_24 : decode cX7_job 24 = .ok (.aload_n 0, 1) := by decide +kernel
theorem dX7_job_25 : decode cX7_job 25 = .ok (.getfield 16, 3) := by decide +kernel
theorem dX7_job_28 : decode cX7_job 28 = .ok (.iload_n 1, 1) := by decide +kernel
theorem dX7_job_29 : decode cX7_job 29 = .ok (.baload, 1) := by decide +kernel
theorem dX7_job_30 : decode cX7_job 30 = .ok (.istore_n 3, 1) := by decide +kernel
theorem dX7_job_31 : decode cX7_job 31 = .ok (.iload_n 2, 1) := by decide +kernel
theorem dX7_job_32 : decode cX7_job 32 = .ok (.tableswitch 148 0 7 #[48, 55, 62, 72, 87, 101, 120, 134], 48) := by decide +kernel
theorem dX7_job_80 : decode cX7_job 80 = .ok (.aload_n 0, 1) := by decide +kernel
theorem dX7_job_81 : decode cX7_job 81 = .ok (.getfield 7, 3) := by decide +kernel
theorem dX7_job_84 : decode cX7_job 84 = .ok (.iload_n 1, 1) := by decide +kernel
theorem dX7_job_85 : decode cX7_job 85 = .ok (.iaload, 1) := by decide +kernel
theorem dX7_job_86 : decode cX7_job 86 = .ok (.ireturn, 1) := by decide +kernel
theorem dX7_job_87 : decode cX7_job 87 = .ok (.aload_n 0, 1) := by decide +kernel
theorem dX7_job_88 : decode cX7_job 88 = .ok (.getfield 13, 3) := by decide +kernel
theorem dX7_job_91 : decode cX7_job 91 = .ok (.iload_n 1, 1) := by decide +kernel
theorem dX7_job_92 : decode cX7_job 92 = .ok (.iaload, 1) := by decide +kernel
theorem dX7_job_93 : decode cX7_job 93 = .ok (.ireturn, 1) := by decide +kernel
theorem dX7_job_94 : decode cX7_job 94 = .ok (.iload_n 3, 1) := by decide +kernel
theorem dX7_job_95 : decode cX7_job 95 = .ok (.ifCond .eq 7, 3) := by decide +kernel
theorem dX7_job_98 : decode cX7_job 98 = .ok (.iconst 1, 1) := by decide +kernel
theorem dX7_job_99 : decode cX7_job 99 = .ok (.goto 4, 3) := by decide +kernel
theorem dX7_job_102 : decode cX7_job 102 = .ok (.iconst 0, 1) := by decide +kernel
theorem dX7_job_103 : decode cX7_job 103 = .ok (.ireturn, 1) := by decide +kernel
theorem dX7_job_104 : decode cX7_job 104 = .ok (.iload_n 3, 1) := by decide +kernel
theorem dX7_job_105 : decode cX7_job 105 = .ok (.ifCond .eq 12, 3) := by decide +kernel
theorem dX7_job_108 : decode cX7_job 108 = .ok (.aload_n 0, 1) := by decide +kernel
theorem dX7_job_109 : decode cX7_job 109 = .ok (.getfield 20, 3) := by decide +kernel
theorem dX7_job_112 : decode cX7_job 112 = .ok (.iload_n 1, 1) := by decide +kernel
theorem dX7_job_113 : decode cX7_job 113 = .ok (.iaload, 1) := by decide +kernel
theorem dX7_job_114 : decode cX7_job 114 = .ok (.goto 4, 3) := by decide +kernel
theorem dX7_job_117 : decode cX7_job 117 = .ok (.iconst (-1), 1) := by decide +kernel
theorem dX7_job_118 : decode cX7_job 118 = .ok (.ireturn, 1) := by decide +kernel
theorem dX7_job_119 : decode cX7_job 119 = .ok (.iload_n 3, 1) := by decide +kernel
theorem dX7_job_120 : decode cX7_job 120 = .ok (.ifCond .eq 11, 3) := by decide +kernel
theorem dX7_job_123 : decode cX7_job 123 = .ok (.aload_n 0, 1) := by decide +kernel
theorem dX7_job_124 : decode cX7_job 124 = .ok (.iload_n 1, 1) := by decide +kernel
theorem dX7_job_125 : decode cX7_job 125 = .ok (.invokevirtual 77, 3) := by decide +kernel
theorem dX7_job_128 : decode cX7_job 128 = .ok (.goto 4, 3) := by decide +kernel
theorem dX7_job_131 : decode cX7_job 131 = .ok (.iconst 0, 1) := by decide +kernel
theorem dX7_job_132 : decode cX7_job 132 = .ok (.ireturn, 1) := by decide +kernel
theorem dX7_job_133 : decode cX7_job 133 = .ok (.iload_n 3, 1) := by decide +kernel
theorem dX7_job_134 : decode cX7_job 134 = .ok (.ifCond .eq 16, 3) := by decide +kernel
theorem dX7_job_137 : decode cX7_job 137 = .ok (.aload_n 0, 1) := by decide +kernel
theorem dX7_job_138 : decode cX7_job 138 = .ok (.getfield 23, 3) := by decide +kernel
theorem dX7_job_141 : decode cX7_job 141 = .ok (.iload_n 1, 1) := by decide +kernel
theorem dX7_job_142 : decode cX7_job 142 = .ok (.baload, 1) := by decide +kernel
theorem dX7_job_143 : decode cX7_job 143 = .ok (.ifCond .eq 7, 3) := by decide +kernel
theorem dX7_job_146 : decode cX7_job 146 = .ok (.iconst 1, 1) := by decide +kernel
theorem dX7_job_147 : decode cX7_job 147 = .ok (.goto 4, 3) := by decide +kernel
theorem dX7_job_150 : decode cX7_job 150 = .ok (.iconst 0, 1) := by decide +kernel
theorem dX7_job_151 : decode cX7_job 151 = .ok (.ireturn, 1) := by decide +kernel
theorem dX7_job_152 : decode cX7_job 152 = .ok (.iload_n 3, 1) := by decide +kernel
theorem dX7_job_153 : decode cX7_job 153 = .ok (.ifCond .eq 11, 3) := by decide +kernel
theorem dX7_job_156 : decode cX7_job 156 = .ok (.aload_n 0, 1) := by decide +kernel
theorem dX7_job_157 : decode cX7_job 157 = .ok (.iload_n 1, 1) := by decide +kernel
theorem dX7_job_158 : decode cX7_job 158 = .ok (.invokevirtual 153, 3) := by decide +kernel
theorem dX7_job_161 : decode cX7_job 161 = .ok (.goto 4, 3) := by decide +kernel
theorem dX7_job_164 : decode cX7_job 164 = .ok (.iconst 0, 1) := by decide +kernel
theorem dX7_job_165 : decode cX7_job 165 = .ok (.ireturn, 1) := by decide +kernel
theorem dX7_job_166 : decode cX7_job 166 = .ok (.iload_n 3, 1) := by decide +kernel
theorem dX7_job_167 : decode cX7_job 167 = .ok (.ifCond .eq 11, 3) := by decide +kernel
theorem dX7_job_170 : decode cX7_job 170 = .ok (.aload_n 0, 1) := by decide +kernel
theorem dX7_job_171 : decode cX7_job 171 = .ok (.iload_n 1, 1) := by decide +kernel
theorem dX7_job_172 : decode cX7_job 172 = .ok (.invokevirtual 172, 3) := by decide +kernel
theorem dX7_job_175 : decode cX7_job 175 = .ok (.goto 4, 3) := by decide +kernel
theorem dX7_job_178 : decode cX7_job 178 = .ok (.iconst 0, 1) := by decide +kernel
theorem dX7_job_179 : decode cX7_job 179 = .ok (.ireturn, 1) := by decide +kernel
theorem dX7_job_180 : decode cX7_job 180 = .ok (.aload_n 0, 1) := by decide +kernel
theorem dX7_job_181 : decode cX7_job 181 = .ok (.getfield 13, 3) := by decide +kernel
theorem dX7_job_184 : decode cX7_job 184 = .ok (.iload_n 1, 1) := by decide +kernel
theorem dX7_job_185 : decode cX7_job 185 = .ok (.iaload, 1) := by decide +kernel
theorem dX7_job_186 : decode cX7_job 186 = .ok (.invokestatic 175, 3) := by decide +kernel
theorem dX7_job_189 : decode cX7_job 189 = .ok (.ireturn, 1) := by decide +kernel
set_option maxRecDepth 100000 in
theorem ok_X7_job {G : GX} (hAp : Ap G) : ∀ d, ∀ e ∈ tb_X7_job, Snd G mts yX7_job.cls cX7_job 4 (some .int) d none e.1 e.2 := by
  intro d
  unfold tb_X7_job
  refine fa_c (s_la_n dX7_job_0 rfl) ?_
  refine fa_c (s_li_n dX7_job_1 rfl) ?_
  refine fa_c (s_cv mo_X7_isJob co_X7 (by decide) (fun _ _ => ⟨_, rfl⟩) dX7_job_2 w_730 w_732 w_20 (by decide)) ?_
  refine fa_c (s_if_ne dX7_job_5 (by decide)) ?_
  refine fa_c (s_ldc dX7_job_8 w_734) ?_
  refine fa_c (s_ri dX7_job_10 rfl) ?_
  refine fa_c (s_li_n dX7_job_11 rfl) ?_
  refine fa_c (s_iconst dX7_job_12 (by decide)) ?_
  refine fa_c (s_bipush dX7_job_13 (by decide)) ?_
  refine fa_c (s_cs mo_X7_in dX7_job_15 w_717 w_718 (by decide)) ?_
  refine fa_c (s_if_ne dX7_job_18 (by decide)) ?_
  refine fa_c (s_ldc dX7_job_21 w_720) ?_
  refine fa_c (s_ri dX7_job_23 rfl) ?_
  refine fa_c (s_la_n dX7_job_24 rfl) ?_
  refine fa_c (gf_X7_3 w_636 dX7_job_25) ?_
  refine fa_c (s_li_n dX7_job_28 rfl) ?_
  refine fa_c (s_ba dX7_job_29) ?_
  refine fa_c (s_st_n dX7_job_30 rfl (by decide)) ?_
  refine fa_c (s_li_n dX7_job_31 rfl) ?_
  refine fa_c (s_sw (n := 8) dX7_job_32 (by decide) (by decide +kernel) (by decide) (by decide +kernel)) ?_
  refine fa_c (s_la_n dX7_job_80 rfl) ?_
  refine fa_c (gf_X7_1 w_634 dX7_job_81) ?_
  refine fa_c (s_li_n dX7_job_84 rfl) ?_
  refine fa_c (s_ia dX7_job_85) ?_
  refine fa_c (s_ri dX7_job_86 rfl) ?_
  refine fa_c (s_la_n dX7_job_87 rfl) ?_
  refine fa_c (gf_X7_2 w_635 dX7_job_88) ?_
  refine fa_c (s_li_n dX7_job_91 rfl) ?_
  refine fa_c (s_ia dX7_job_92) ?_
  refine fa_c (s_ri dX7_job_93 rfl) ?_
  refine fa_c (s_li_n dX7_job_94 rfl) ?_
  refine fa_c (s_if_eq dX7_job_95 (by decide)) ?_
  refine fa_c (s_iconst dX7_job_98 (by decide)) ?_
  refine fa_c (s_go dX7_job_99 (by decide)) ?_
  refine fa_c (s_iconst dX7_job_102 (by decide)) ?_
  refine fa_c (s_ri dX7_job_103 rfl) ?_
  refine fa_c (s_li_n dX7_job_104 rfl) ?_
  refine fa_c (s_if_eq dX7_job_105 (by decide)) ?_
  refine fa_c (s_la_n dX7_job_108 rfl) ?_
  refine fa_c (gf_X7_4 w_637 dX7_job_109) ?_
  refine fa_c (s_li_n dX7_job_112 rfl) ?_
  refine fa_c (s_ia dX7_job_113) ?_
  refine fa_c (s_go dX7_job_114 (by decide)) ?_
  refine fa_c (s_iconst dX7_job_117 (by decide)) ?_
  refine fa_c (s_ri dX7_job_118 rfl) ?_
  refine fa_c (s_li_n dX7_job_119 rfl) ?_
  refine fa_c (s_if_eq dX7_job_120 (by decide)) ?_
  refine fa_c (s_la_n dX7_job_123 rfl) ?_
  refine fa_c (s_li_n dX7_job_124 rfl) ?_
  refine fa_c (s_cv mo_X7_rank co_X7 (by decide) (fun _ _ => ⟨_, rfl⟩) dX7_job_125 w_760 w_762 w_27 (by decide)) ?_
  refine fa_c (s_go dX7_job_128 (by decide)) ?_
  refine fa_c (s_iconst dX7_job_131 (by decide)) ?_
  refine fa_c (s_ri dX7_job_132 rfl) ?_
  refine fa_c (s_li_n dX7_job_133 rfl) ?_
  refine fa_c (s_if_eq dX7_job_134 (by decide)) ?_
  refine fa_c (s_la_n dX7_job_137 rfl) ?_
  refine fa_c (gf_X7_5 w_638 dX7_job_138) ?_
  refine fa_c (s_li_n dX7_job_141 rfl) ?_
  refine fa_c (s_ba dX7_job_142) ?_
  refine fa_c (s_if_eq dX7_job_143 (by decide)) ?_
  refine fa_c (s_iconst dX7_job_146 (by decide)) ?_
  refine fa_c (s_go dX7_job_147 (by decide)) ?_
  refine fa_c (s_iconst dX7_job_150 (by decide)) ?_
  refine fa_c (s_ri dX7_job_151 rfl) ?_
  refine fa_c (s_li_n dX7_job_152 rfl) ?_
  refine fa_c (s_if_eq dX7_job_153 (by decide)) ?_
  refine fa_c (s_la_n dX7_job_156 rfl) ?_
  refine fa_c (s_li_n dX7_job_157 rfl) ?_
  refine fa_c (s_cv mo_X7_depth co_X7 (by decide) (fun _ _ => ⟨_, rfl⟩) dX7_job_158 w_831 w_833 w_38 (by decide)) ?_
  refine fa_c (s_go dX7_job_161 (by decide)) ?_
  refine fa_c (s_iconst dX7_job_164 (by decide)) ?_
  refine fa_c (s_ri dX7_job_165 rfl) ?_
  refine fa_c (s_li_n dX7_job_166 rfl) ?_
  refine fa_c (s_if_eq dX7_job_167 (by decide)) ?_
  refine fa_c (s_la_n dX7_job_170 rfl) ?_
  refine fa_c (s_li_n dX7_job_171 rfl) ?_
  refine fa_c (s_cv mo_X7_under co_X7 (by decide) (fun _ _ => ⟨_, rfl⟩) dX7_job_172 w_839 w_841 w_39 (by decide)) ?_
  refine fa_c (s_go dX7_job_175 (by decide)) ?_
  refine fa_c (s_iconst dX7_job_178 (by decide)) ?_
  refine fa_c (s_ri dX7_job_179 rfl) ?_
  refine fa_c (s_la_n dX7_job_180 rfl) ?_
  refine fa_c (gf_X7_2 w_635 dX7_job_181) ?_
  refine fa_c (s_li_n dX7_job_184 rfl) ?_
  refine fa_c (s_ia dX7_job_185) ?_
  refine fa_c (s_cs mo_X7_bitsOf dX7_job_186 w_847 w_848 (by decide)) ?_
  refine fa_c (s_ri dX7_job_189 rfl) ?_
  exact fun e he => absurd he List.not_mem_nil
theorem cl_X7_job {G : GX} (hAp : Ap G) : Cl1 (Ct G mts) n_X7_job tb_X7_job := ct_cl (y := n_X7_job) (yn := yX7_job) rfl (by decide +kernel) (ok_X7_job hAp)
theorem dX7_child_0 : decode cX7_child 0 = .ok (.aload_n 0, 1) := by decide +kernel
theorem dX7_child_1 : decode cX7_child 1 = .ok (.iload_n 1, 1) := by decide +kernel
theorem dX7_child_2 : decode cX7_child 2 = .ok (.invokevirtual 116, 3) := by decide +kernel
theorem dX7_child_5 : decode cX7_child 5 = .ok (.ifCond .ne 6, 3) := by decide +kernel
theorem dX7_child_8 : decode cX7_child 8 = .ok (.ldc 120, 2) := by decide +kernel
theorem dX7_child_10 : decode cX7_child 10 = .ok (.ireturn, 1) := by decide +kernel
theorem dX7_child_11 : decode cX7_child 11 = .ok (.iload_n 2, 1) := by decide +kernel
theorem dX7_child_12 : decode cX7_child 12 = .ok (.ifCond .ge 6, 3) := by decide +kernel
theorem dX7_child_15 : decode cX7_child 15 = .ok (.ldc 110, 2) := by decide +kernel
theorem dX7_child_17 : decode cX7_child 17 = .ok (.ireturn, 1) := by decide +kernel
theorem dX7_child_18 : decode cX7_child 18 = .ok (.iconst 0, 1) := by decide +kernel
theorem dX7_child_19 : decode cX7_child 19 = .ok (.istore_n 3, 1) := by decide +kernel
theorem dX7_child_20 : decode cX7_child 20 = .ok (.iload_n 3, 1) := by decide +kernel
theorem dX7_child_21 : decode cX7_child 21 = .ok (.aload_n 0, 1) := by decide +kernel
theorem dX7_child_22 : decode cX7_child 22 = .ok (.getfield 54, 3) := by decide +kernel
theorem dX7_child_25 : decode cX7_child 25 = .ok (.if_icmp .ge 104, 3) := by decide +kernel
theorem dX7_child_28 : decode cX7_child 28 = .ok (.aload_n 0, 1) := by decide +kernel
theorem dX7_child_29 : decode cX7_child 29 = .ok (.getfield 16, 3) := by decide +kernel
theorem dX7_child_32 : decode cX7_child 32 = .ok (.iload_n 3, 1) := by decide +kernel
theorem dX7_child_33 : decode cX7_child 33 = .ok (.baload, 1) := by decide +kernel
theorem dX7_child_34 : decode cX7_child 34 = .ok (.ifCond .eq 89, 3) := by decide +kernel
theorem dX7_child_37 : decode cX7_child 37 = .ok (.aload_n 0, 1) := by decide +kernel
theorem dX7_child_38 : decode cX7_child 38 = .ok (.getfield 20, 3) := by decide +kernel
theorem dX7_child_41 : decode cX7_child 41 = .ok (.iload_n 3, 1) := by decide +kernel
theorem dX7_child_42 : decode cX7_child 42 = .ok (.iaload, 1) := by decide +kernel
theorem dX7_child_43 : decode cX7_child 43 = .ok (.iload_n 1, 1) := by decide +kernel
theorem dX7_child_44 : decode cX7_child 44 = .ok (.if_icmp .ne 79, 3) := by decide +kernel
theorem dX7_child_47 : decode cX7_child 47 = .ok (.iconst 0, 1) := by decide +kernel
theorem dX7_child_48 : decode cX7_child 48 = .ok (.istore 4, 2) := by decide +kernel
theorem dX7_child_50 : decode cX7_child 50 = .ok (.iconst 0, 1) := by decide +kernel
theorem dX7_child_51 : decode cX7_child 51 = .ok (.istore 5, 2) := by decide +kernel
theorem dX7_child_53 : decode cX7_child 53 = .ok (.iload 5, 2) := by decide +kernel
theorem dX7_child_55 : decode cX7_child 55 = .ok (.aload_n 0, 1) := by decide +kernel
theorem dX7_child_56 : decode cX7_child 56 = .ok (.getfield 54, 3) := by decide +kernel
theorem dX7_child_59 : decode cX7_child 59 = .ok (.if_icmp .ge 56, 3) := by decide +kernel
theorem dX7_child_62 : decode cX7_child 62 = .ok (.iload 4, 2) := by decide +kernel
theorem dX7_child_64 : decode cX7_child 64 = .ok (.aload_n 0, 1) := by decide +kernel
theorem dX7_child_65 : decode cX7_child 65 = .ok (.getfield 16, 3) := by decide +kernel
theorem dX7_child_68 : decode cX7_child 68 = .ok (.iload 5, 2) := by decide +kernel
theorem dX7_child_70 : decode cX7_child 70 = .ok (.baload, 1) := by decide +kernel
theorem dX7_child_71 : decode cX7_child 71 = .ok (.ifCond .eq 34, 3) := by decide +kernel
theorem dX7_child_74 : decode cX7_child 74 = .ok (.aload_n 0, 1) := by decide +kernel
theorem dX7_child_75 : decode cX7_child 75 = .ok (.getfield 20, 3) := by decide +kernel
theorem dX7_child_78 : decode cX7_child 78 = .ok (.iload 5, 2) := by decide +kernel
theorem dX7_child_80 : decode cX7_child 80 = .ok (.iaload, 1) := by decide +kernel
theorem dX7_child_81 : decode cX7_child 81 = .ok (.iload_n 1, 1) := by decide +kernel
theorem dX7_child_82 : decode cX7_child 82 = .ok (.if_icmp .ne 23, 3) := by decide +kernel
theorem dX7_child_85 : decode cX7_child 85 = .ok (.aload_n 0, 1) := by decide +kernel
theorem dX7_child_86 : decode cX7_child 86 = .ok (.getfield 26, 3) := by decide +kernel
theorem dX7_child_89 : decode cX7_child 89 = .ok (.iload 5, 2) := by decide +kernel
theorem dX7_child_91 : decode cX7_child 91 = .ok (.iaload, 1) := by decide +kernel
theorem dX7_child_92 : decode cX7_child 92 = .ok (.aload_n 0, 1) := by decide +kernel
theorem dX7_child_93 : decode cX7_child 93 = .ok (.getfield 26, 3) := by decide +kernel
theorem dX7_child_96 : decode cX7_child 96 = .ok (.iload_n 3, 1) := by decide +kernel
theorem dX7_child_97 : decode cX7_child 97 = .ok (.iaload, 1) := by decide +kernel
theorem dX7_child_98 : decode cX7_child 98 = .ok (.if_icmp .ge 7, 3) := by decide +kernel
theorem dX7_child_101 : decode cX7_child 101 = .ok (.iconst 1, 1) := by decide +kernel
theorem dX7_child_102 : decode cX7_child 102 = .ok (.goto 4, 3) := by decide +kernel
theorem dX7_child_105 : decode cX7_child 105 = .ok (.iconst 0, 1) := by decide +kernel
theorem dX7_child_106 : decode cX7_child 106 = .ok (.iadd, 1) := by decide +kernel
theorem dX7_child_107 : decode cX7_child 107 = .ok (.istore 4, 2) := by decide +kernel
theorem dX7_child_109 : decode cX7_child 109 = .ok (.iinc 5 1, 3) := by decide +kernel
theorem dX7_child_112 : decode cX7_child 112 = .ok (.goto (-59), 3) := by decide +kernel
theorem dX7_child_115 : decode cX7_child 115 = .ok (.iload 4, 2) := by decide +kernel
theorem dX7_child_117 : decode cX7_child 117 = .ok (.iload_n 2, 1) := by decide +kernel
theorem dX7_child_118 : decode cX7_child 118 = .ok (.if_icmp .ne 5, 3) := by decide +kernel
theorem dX7_child_121 : decode cX7_child 121 = .ok (.iload_n 3, 1) := by decide +kernel
theorem dX7_child_122 : decode cX7_child 122 = .ok (.ireturn, 1) := by decide +kernel
theorem dX7_child_123 : decode cX7_child 123 = .ok (.iinc 3 1, 3) := by decide +kernel
theorem dX7_child_126 : decode cX7_child 126 = .ok (.goto (-106), 3) := by decide +kernel
theorem dX7_child_129 : decode cX7_child 129 = .ok (.iconst (-1), 1) := by decide +kernel
theorem dX7_child_130 : decode cX7_child 130 = .ok (.ireturn, 1) := by decide +kernel
set_option maxRecDepth 100000 in
theorem ok_X7_child {G : GX} (hAp : Ap G) : ∀ d, ∀ e ∈ tb_X7_child, Snd G mts yX7_child.cls cX7_child 6 (some .int) d none e.1 e.2 := by
  intro d
  unfold tb_X7_child
  refine fa_c (s_la_n dX7_child_0 rfl) ?_
  refine fa_c (s_li_n dX7_child_1 rfl) ?_
  refine fa_c (s_cv mo_X7_isJob co_X7 (by decide) (fun _ _ => ⟨_, rfl⟩) dX7_child_2 w_730 w_732 w_20 (by decide)) ?_
  refine fa_c (s_if_ne dX7_child_5 (by decide)) ?_
  refine fa_c (s_ldc dX7_child_8 w_734) ?_
  refine fa_c (s_ri dX7_child_10 rfl) ?_
  refine fa_c (s_li_n dX7_child_11 rfl) ?_
  refine fa_c (s_if_ge dX7_child_12 (by decide)) ?_
  refine fa_c (s_ldc dX7_child_15 w_720) ?_
  refine fa_c (s_ri dX7_child_17 rfl) ?_
  refine fa_c (s_iconst dX7_child_18 (by decide)) ?_
  refine fa_c (s_st_n dX7_child_19 rfl (by decide)) ?_
  refine fa_c (s_li_n dX7_child_20 rfl) ?_
  refine fa_c (s_la_n dX7_child_21 rfl) ?_
  refine fa_c (gf_X7_0 w_633 dX7_child_22) ?_
  refine fa_c (s_ic_ge dX7_child_25 (by decide)) ?_
  refine fa_c (s_la_n dX7_child_28 rfl) ?_
  refine fa_c (gf_X7_3 w_636 dX7_child_29) ?_
  refine fa_c (s_li_n dX7_child_32 rfl) ?_
  refine fa_c (s_ba dX7_child_33) ?_
  refine fa_c (s_if_eq dX7_child_34 (by decide)) ?_
  refine fa_c (s_la_n dX7_child_37 rfl) ?_
  refine fa_c (gf_X7_4 w_637 dX7_child_38) ?_
  refine fa_c (s_li_n dX7_child_41 rfl) ?_
  refine fa_c (s_ia dX7_child_42) ?_
  refine fa_c (s_li_n dX7_child_43 rfl) ?_
  refine fa_c (s_ic_ne dX7_child_44 (by decide)) ?_
  refine fa_c (s_iconst dX7_child_47 (by decide)) ?_
  refine fa_c (s_st dX7_child_48 (by decide)) ?_
  refine fa_c (s_iconst dX7_child_50 (by decide)) ?_
  refine fa_c (s_st dX7_child_51 (by decide)) ?_
  refine fa_c (s_li dX7_child_53) ?_
  refine fa_c (s_la_n dX7_child_55 rfl) ?_
  refine fa_c (gf_X7_0 w_633 dX7_child_56) ?_
  refine fa_c (s_ic_ge dX7_child_59 (by decide)) ?_
  refine fa_c (s_li dX7_child_62) ?_
  refine fa_c (s_la_n dX7_child_64 rfl) ?_
  refine fa_c (gf_X7_3 w_636 dX7_child_65) ?_
  refine fa_c (s_li dX7_child_68) ?_
  refine fa_c (s_ba dX7_child_70) ?_
  refine fa_c (s_if_eq dX7_child_71 (by decide)) ?_
  refine fa_c (s_la_n dX7_child_74 rfl) ?_
  refine fa_c (gf_X7_4 w_637 dX7_child_75) ?_
  refine fa_c (s_li dX7_child_78) ?_
  refine fa_c (s_ia dX7_child_80) ?_
  refine fa_c (s_li_n dX7_child_81 rfl) ?_
  refine fa_c (s_ic_ne dX7_child_82 (by decide)) ?_
  refine fa_c (s_la_n dX7_child_85 rfl) ?_
  refine fa_c (gf_X7_6 w_639 dX7_child_86) ?_
  refine fa_c (s_li dX7_child_89) ?_
  refine fa_c (s_ia dX7_child_91) ?_
  refine fa_c (s_la_n dX7_child_92 rfl) ?_
  refine fa_c (gf_X7_6 w_639 dX7_child_93) ?_
  refine fa_c (s_li_n dX7_child_96 rfl) ?_
  refine fa_c (s_ia dX7_child_97) ?_
  refine fa_c (s_ic_ge dX7_child_98 (by decide)) ?_
  refine fa_c (s_iconst dX7_child_101 (by decide)) ?_
  refine fa_c (s_go dX7_child_102 (by decide)) ?_
  refine fa_c (s_iconst dX7_child_105 (by decide)) ?_
  refine fa_c (s_i_add dX7_child_106) ?_
  refine fa_c (s_st dX7_child_107 (by decide)) ?_
  refine fa_c (s_inc dX7_child_109 (by decide) (by decide)) ?_
  refine fa_c (s_go dX7_child_112 (by decide)) ?_
  refine fa_c (s_li dX7_child_115) ?_
  refine fa_c (s_li_n dX7_child_117 rfl) ?_
  refine fa_c (s_ic_ne dX7_child_118 (by decide)) ?_
  refine fa_c (s_li_n dX7_child_121 rfl) ?_
  refine fa_c (s_ri dX7_child_122 rfl) ?_
  refine fa_c (s_inc dX7_child_123 (by decide) (by decide)) ?_
  refine fa_c (s_go dX7_child_126 (by decide)) ?_
  refine fa_c (s_iconst dX7_child_129 (by decide)) ?_
  refine fa_c (s_ri dX7_child_130 rfl) ?_
  exact fun e he => absurd he List.not_mem_nil
theorem cl_X7_child {G : GX} (hAp : Ap G) : Cl1 (Ct G mts) n_X7_child tb_X7_child := ct_cl (y := n_X7_child) (yn := yX7_child) rfl (by decide +kernel) (ok_X7_child hAp)
theorem dX7_loose_0 : decode cX7_loose 0 = .ok (.aload_n 0, 1) := by decide +kernel
theorem dX7_loose_1 : decode cX7_loose 1 = .ok (.invokevirtual 103, 3) := by decide +kernel
theorem dX7_loose_4 : decode cX7_loose 4 = .ok (.iload_n 1, 1) := by decide +kernel
theorem dX7_loose_5 : decode cX7_loose 5 = .ok (.ifCond .ge 8, 3) := by decide +kernel
theorem dX7_loose_8 : decode cX7_loose 8 = .ok (.ldc 110, 2) := by decide +kernel
theorem dX7_loose_10 : decode cX7_loose 10 = .ok (.goto 10, 3) := by decide +kernel
theorem dX7_loose_13 : decode cX7_loose 13 = .ok (.aload_n 0, 1) := by decide +kernel
theorem dX7_loose_14 : decode cX7_loose 14 = .ok (.iload_n 1, 1) := by decide +kernel
theorem dX7_loose_15 : decode cX7_loose 15 = .ok (.iconst (-1), 1) := by decide +kernel
theorem dX7_loose_16 : decode cX7_loose 16 = .ok (.iconst 1, 1) := by decide +kernel
theorem dX7_loose_17 : decode cX7_loose 17 = .ok (.invokevirtual 81, 3) := by decide +kernel
theorem dX7_loose_20 : decode cX7_loose 20 = .ok (.ireturn, 1) := by decide +kernel
set_option maxRecDepth 100000 in
theorem ok_X7_loose {G : GX} (hAp : Ap G) : ∀ d, ∀ e ∈ tb_X7_loose, Snd G mts yX7_loose.cls cX7_loose 2 (some .int) d none e.1 e.2 := by
  intro d
  unfold tb_X7_loose
  refine fa_c (s_la_n dX7_loose_0 rfl) ?_
  refine fa_c (s_cv mo_X7_own co_X7 (by decide) (fun _ _ => ⟨_, rfl⟩) dX7_loose_1 w_713 w_715 w_18 (by decide)) ?_
  refine fa_c (s_li_n dX7_loose_4 rfl) ?_
  refine fa_c (s_if_ge dX7_loose_5 (by decide)) ?_
  refine fa_c (s_ldc dX7_loose_8 w_720) ?_
  refine fa_c (s_go dX7_loose_10 (by decide)) ?_
  refine fa_c (s_la_n dX7_loose_13 rfl) ?_
  refine fa_c (s_li_n dX7_loose_14 rfl) ?_
  refine fa_c (s_iconst dX7_loose_15 (by decide)) ?_
  refine fa_c (s_iconst dX7_loose_16 (by decide)) ?_
  refine fa_c (s_cv mo_X7_ofRank co_X7 (by decide) (fun _ _ => ⟨_, rfl⟩) dX7_loose_17 w_752 w_754 w_25 (by decide)) ?_
  refine fa_c (s_ri dX7_loose_20 rfl) ?_
  exact fun e he => absurd he List.not_mem_nil
theorem cl_X7_loose {G : GX} (hAp : Ap G) : Cl1 (Ct G mts) n_X7_loose tb_X7_loose := ct_cl (y := n_X7_loose) (yn := yX7_loose) rfl (by decide +kernel) (ok_X7_loose hAp)
theorem dX7_bits_0 : decode cX7_bits 0 = .ok (.iconst 0, 1) := by decide +kernel
theorem dX7_bits_1 : decode cX7_bits 1 = .ok (.istore_n 1, 1) := by decide +kernel
theorem dX7_bits_2 : decode cX7_bits 2 = .ok (.iconst 0, 1) := by decide +kernel
theorem dX7_bits_3 : decode cX7_bits 3 = .ok (.istore_n 2, 1) := by decide +kernel
theorem dX7_bits_4 : decode cX7_bits 4 = .ok (.iload_n 2, 1) := by decide +kernel
theorem dX7_bits_5 : decode cX7_bits 5 = .ok (.aload_n 0, 1) := by decide +kernel
theorem dX7_bits_6 : decode cX7_bits 6 = .ok (.getfield 54, 3) := by decide +kernel
theorem dX7_bits_9 : decode cX7_bits 9 = .ok (.if_icmp .ge 31, 3) := by decide +kernel
theorem dX7_bits_12 : decode cX7_bits 12 = .ok (.iload_n 1, 1) := by decide +kernel
theorem dX7_bits_13 : decode cX7_bits 13 = .ok (.aload_n 0, 1) := by decide +kernel
theorem dX7_bits_14 : decode cX7_bits 14 = .ok (.getfield 16, 3) := by decide +kernel
theorem dX7_bits_17 : decode cX7_bits 17 = .ok (.iload_n 2, 1) := by decide +kernel
theorem dX7_bits_18 : decode cX7_bits 18 = .ok (.baload, 1) := by decide +kernel
theorem dX7_bits_19 : decode cX7_bits 19 = .ok (.ifCond .eq 12, 3) := by decide +kernel
theorem dX7_bits_22 : decode cX7_bits 22 = .ok (.aload_n 0, 1) := by decide +kernel
theorem dX7_bits_23 : decode cX7_bits 23 = .ok (.getfield 13, 3) := by decide +kernel
theorem dX7_bits_26 : decode cX7_bits 26 = .ok (.iload_n 2, 1) := by decide +kernel
theorem dX7_bits_27 : decode cX7_bits 27 = .ok (.iaload, 1) := by decide +kernel
theorem dX7_bits_28 : decode cX7_bits 28 = .ok (.goto 4, 3) := by decide +kernel
theorem dX7_bits_31 : decode cX7_bits 31 = .ok (.iconst 0, 1) := by decide +kernel
theorem dX7_bits_32 : decode cX7_bits 32 = .ok (.iadd, 1) := by decide +kernel
theorem dX7_bits_33 : decode cX7_bits 33 = .ok (.istore_n 1, 1) := by decide +kernel
theorem dX7_bits_34 : decode cX7_bits 34 = .ok (.iinc 2 1, 3) := by decide +kernel
theorem dX7_bits_37 : decode cX7_bits 37 = .ok (.goto (-33), 3) := by decide +kernel
theorem dX7_bits_40 : decode cX7_bits 40 = .ok (.iload_n 1, 1) := by decide +kernel
theorem dX7_bits_41 : decode cX7_bits 41 = .ok (.ifCond .ne 5, 3) := by decide +kernel
theorem dX7_bits_44 : decode cX7_bits 44 = .ok (.lconst 0, 1) := by decide +kernel
theorem dX7_bits_45 : decode cX7_bits 45 = .ok (.lreturn, 1) := by decide +kernel
theorem dX7_bits_46 : decode cX7_bits 46 = .ok (.iload_n 1, 1) := by decide +kernel
theorem dX7_bits_47 : decode cX7_bits 47 = .ok (.ifCond .ge 8, 3) := by decide +kernel
theorem dX7_bits_50 : decode cX7_bits 50 = .ok (.iload_n 1, 1) := by decide +kernel
theorem dX7_bits_51 : decode cX7_bits 51 = .ok (.ineg, 1) := by decide +kernel
theorem dX7_bits_52 : decode cX7_bits 52 = .ok (.goto 4, 3) := by decide +kernel
theorem dX7_bits_55 : decode cX7_bits 55 = .ok (.iload_n 1, 1) := by decide +kernel
theorem dX7_bits_56 : decode cX7_bits 56 = .ok (.istore_n 2, 1) := by decide +kernel
theorem dX7_bits_57 : decode cX7_bits 57 = .ok (.iload_n 2, 1) := by decide +kernel
theorem dX7_bits_58 : decode cX7_bits 58 = .ok (.invokestatic 168, 3) := by decide +kernel
theorem dX7_bits_61 : decode cX7_bits 61 = .ok (.istore_n 3, 1) := by decide +kernel
theorem dX7_bits_62 : decode cX7_bits 62 = .ok (.iload_n 2, 1) := by decide +kernel
theorem dX7_bits_63 : decode cX7_bits 63 = .ok (.iconst 1, 1) := by decide +kernel
theorem dX7_bits_64 : decode cX7_bits 64 = .ok (.iload_n 3, 1) := by decide +kernel
theorem dX7_bits_65 : decode cX7_bits 65 = .ok (.ishl, 1) := by decide +kernel
theorem dX7_bits_66 : decode cX7_bits 66 = .ok (.isub, 1) := by decide +kernel
theorem dX7_bits_67 : decode cX7_bits 67 = .ok (.i2l, 1) := by decide +kernel
theorem dX7_bits_68 : decode cX7_bits 68 = .ok (.bipush 52, 2) := by decide +kernel
theorem dX7_bits_70 : decode cX7_bits 70 = .ok (.iload_n 3, 1) := by decide +kernel
theorem dX7_bits_71 : decode cX7_bits 71 = .ok (.isub, 1) := by decide +kernel
theorem dX7_bits_72 : decode cX7_bits 72 = .ok (.lshl, 1) := by decide +kernel
theorem dX7_bits_73 : decode cX7_bits 73 = .ok (.lstore 4, 2) := by decide +kernel
theorem dX7_bits_75 : decode cX7_bits 75 = .ok (.iload_n 3, 1) := by decide +kernel
theorem dX7_bits_76 : decode cX7_bits 76 = .ok (.sipush 1019, 3) := by decide +kernel
theorem dX7_bits_79 : decode cX7_bits 79 = .ok (.iadd, 1) := by decide +kernel
theorem dX7_bits_80 : decode cX7_bits 80 = .ok (.i2l, 1) := by decide +kernel
theorem dX7_bits_81 : decode cX7_bits 81 = .ok (.bipush 52, 2) := by decide +kernel
theorem dX7_bits_83 : decode cX7_bits 83 = .ok (.lshl, 1) := by decide +kernel
theorem dX7_bits_84 : decode cX7_bits 84 = .ok (.lload 4, 2) := by decide +kernel
theorem dX7_bits_86 : decode cX7_bits 86 = .ok (.ladd, 1) := by decide +kernel
theorem dX7_bits_87 : decode cX7_bits 87 = .ok (.iload_n 1, 1) := by decide +kernel
theorem dX7_bits_88 : decode cX7_bits 88 = .ok (.ifCond .ge 9, 3) := by decide +kernel
theorem dX7_bits_91 : decode cX7_bits 91 = .ok (.ldc2_w 178, 3) := by decide +kernel
theorem dX7_bits_94 : decode cX7_bits 94 = .ok (.goto 4, 3) := by decide +kernel
theorem dX7_bits_97 : decode cX7_bits 97 = .ok (.lconst 0, 1) := by decide +kernel
theorem dX7_bits_98 : decode cX7_bits 98 = .ok (.ladd, 1) := by decide +kernel
theorem dX7_bits_99 : decode cX7_bits 99 = .ok (.lreturn, 1) := by decide +kernel
set_option maxRecDepth 100000 in
theorem ok_X7_bits {G : GX} (hAp : Ap G) : ∀ d, ∀ e ∈ tb_X7_bits, Snd G mts yX7_bits.cls cX7_bits 6 (some .long) d none e.1 e.2 := by
  intro d
  unfold tb_X7_bits
  refine fa_c (s_iconst dX7_bits_0 (by decide)) ?_
  refine fa_c (s_st_n dX7_bits_1 rfl (by decide)) ?_
  refine fa_c (s_iconst dX7_bits_2 (by decide)) ?_
  refine fa_c (s_st_n dX7_bits_3 rfl (by decide)) ?_
  refine fa_c (s_li_n dX7_bits_4 rfl) ?_
  refine fa_c (s_la_n dX7_bits_5 rfl) ?_
  refine fa_c (gf_X7_0 w_633 dX7_bits_6) ?_
  refine fa_c (s_ic_ge dX7_bits_9 (by decide)) ?_
  refine fa_c (s_li_n dX7_bits_12 rfl) ?_
  refine fa_c (s_la_n dX7_bits_13 rfl) ?_
  refine fa_c (gf_X7_3 w_636 dX7_bits_14) ?_
  refine fa_c (s_li_n dX7_bits_17 rfl) ?_
  refine fa_c (s_ba dX7_bits_18) ?_
  refine fa_c (s_if_eq dX7_bits_19 (by decide)) ?_
  refine fa_c (s_la_n dX7_bits_22 rfl) ?_
  refine fa_c (gf_X7_2 w_635 dX7_bits_23) ?_
  refine fa_c (s_li_n dX7_bits_26 rfl) ?_
  refine fa_c (s_ia dX7_bits_27) ?_
  refine fa_c (s_go dX7_bits_28 (by decide)) ?_
  refine fa_c (s_iconst dX7_bits_31 (by decide)) ?_
  refine fa_c (s_i_add dX7_bits_32) ?_
  refine fa_c (s_st_n dX7_bits_33 rfl (by decide)) ?_
  refine fa_c (s_inc dX7_bits_34 (by decide) (by decide)) ?_
  refine fa_c (s_go dX7_bits_37 (by decide)) ?_
  refine fa_c (s_li_n dX7_bits_40 rfl) ?_
  refine fa_c (s_if_ne dX7_bits_41 (by decide)) ?_
  refine fa_c (s_lconst dX7_bits_44 (by decide)) ?_
  refine fa_c (s_rl dX7_bits_45 rfl) ?_
  refine fa_c (s_li_n dX7_bits_46 rfl) ?_
  refine fa_c (s_if_ge dX7_bits_47 (by decide)) ?_
  refine fa_c (s_li_n dX7_bits_50 rfl) ?_
  refine fa_c (s_i_neg dX7_bits_51) ?_
  refine fa_c (s_go dX7_bits_52 (by decide)) ?_
  refine fa_c (s_li_n dX7_bits_55 rfl) ?_
  refine fa_c (s_st_n dX7_bits_56 rfl (by decide)) ?_
  refine fa_c (s_li_n dX7_bits_57 rfl) ?_
  refine fa_c (s_cs mo_X7_power dX7_bits_58 w_850 w_851 (by decide)) ?_
  refine fa_c (s_st_n dX7_bits_61 rfl (by decide)) ?_
  refine fa_c (s_li_n dX7_bits_62 rfl) ?_
  refine fa_c (s_iconst dX7_bits_63 (by decide)) ?_
  refine fa_c (s_li_n dX7_bits_64 rfl) ?_
  refine fa_c (s_i_shl dX7_bits_65) ?_
  refine fa_c (s_i_sub dX7_bits_66) ?_
  refine fa_c (s_i_2l dX7_bits_67) ?_
  refine fa_c (s_bipush dX7_bits_68 (by decide)) ?_
  refine fa_c (s_li_n dX7_bits_70 rfl) ?_
  refine fa_c (s_i_sub dX7_bits_71) ?_
  refine fa_c (s_l_shl dX7_bits_72) ?_
  refine fa_c (s_st2 dX7_bits_73 (by decide)) ?_
  refine fa_c (s_li_n dX7_bits_75 rfl) ?_
  refine fa_c (s_sipush dX7_bits_76 (by decide)) ?_
  refine fa_c (s_i_add dX7_bits_79) ?_
  refine fa_c (s_i_2l dX7_bits_80) ?_
  refine fa_c (s_bipush dX7_bits_81 (by decide)) ?_
  refine fa_c (s_l_shl dX7_bits_83) ?_
  refine fa_c (s_ll dX7_bits_84) ?_
  refine fa_c (s_l_add dX7_bits_86) ?_
  refine fa_c (s_li_n dX7_bits_87 rfl) ?_
  refine fa_c (s_if_ge dX7_bits_88 (by decide)) ?_
  refine fa_c (s_ldc2 dX7_bits_91 w_866) ?_
  refine fa_c (s_go dX7_bits_94 (by decide)) ?_
  refine fa_c (s_lconst dX7_bits_97 (by decide)) ?_
  refine fa_c (s_l_add dX7_bits_98) ?_
  refine fa_c (s_rl dX7_bits_99 rfl) ?_
  exact fun e he => absurd he List.not_mem_nil
theorem cl_X7_bits {G : GX} (hAp : Ap G) : Cl1 (Ct G mts) n_X7_bits tb_X7_bits := ct_cl (y := n_X7_bits) (yn := yX7_bits) rfl (by decide +kernel) (ok_X7_bits hAp)
theorem dX7_sit_0 : decode cX7_sit 0 = .ok (.iload_n 1, 1) := by decide +kernel
theorem dX7_sit_1 : decode cX7_sit 1 = .ok (.iconst 0, 1) := by decide +kernel
theorem dX7_sit_2 : decode cX7_sit 2 = .ok (.iconst 1, 1) := by decide +kernel
theorem dX7_sit_3 : decode cX7_sit 3 = .ok (.invokestatic 106, 3) := by decide +kernel
theorem dX7_sit_6 : decode cX7_sit 6 = .ok (.ifCond .eq 11, 3) := by decide +kernel
theorem dX7_sit_9 : decode cX7_sit 9 = .ok (.aload_n 0, 1) := by decide +kernel
theorem dX7_sit_10 : decode cX7_sit 10 = .ok (.iload_n 3, 1) := by decide +kernel
theorem dX7_sit_11 : decode cX7_sit 11 = .ok (.invokevirtual 116, 3) := by decide +kernel
theorem dX7_sit_14 : decode cX7_sit 14 = .ok (.ifCond .ne 6, 3) := by decide +kernel
theorem dX7_sit_17 : decode cX7_sit 17 = .ok (.ldc 120, 2) := by decide +kernel
theorem dX7_sit_19 : decode cX7_sit 19 = .ok (.ireturn, 1) := by decide +kernel
theorem dX7_sit_20 : decode cX7_sit 20 = .ok (.aload_n 0, 1) := by decide +kernel
theorem dX7_sit_21 : decode cX7_sit 21 = .ok (.getfield 16, 3) := by decide +kernel
theorem dX7_sit_24 : decode cX7_sit 24 = .ok (.iload_n 3, 1) := by decide +kernel
theorem dX7_sit_25 : decode cX7_sit 25 = .ok (.baload, 1) := by decide +kernel
theorem dX7_sit_26 : decode cX7_sit 26 = .ok (.ifCond .eq 6, 3) := by decide +kernel
theorem dX7_sit_29 : decode cX7_sit 29 = .ok (.ldc 121, 2) := by decide +kernel
theorem dX7_sit_31 : decode cX7_sit 31 = .ok (.ireturn, 1) := by decide +kernel
theorem dX7_sit_32 : decode cX7_sit 32 = .ok (.iload_n 2, 1) := by decide +kernel
theorem dX7_sit_33 : decode cX7_sit 33 = .ok (.iconst 0, 1) := by decide +kernel
theorem dX7_sit_34 : decode cX7_sit 34 = .ok (.bipush 7, 2) := by decide +kernel
theorem dX7_sit_36 : decode cX7_sit 36 = .ok (.invokestatic 106, 3) := by decide +kernel
theorem dX7_sit_39 : decode cX7_sit 39 = .ok (.ifCond .ne 6, 3) := by decide +kernel
theorem dX7_sit_42 : decode cX7_sit 42 = .ok (.ldc 180, 2) := by decide +kernel
theorem dX7_sit_44 : decode cX7_sit 44 = .ok (.ireturn, 1) := by decide +kernel
theorem dX7_sit_45 : decode cX7_sit 45 = .ok (.iload_n 1, 1) := by decide +kernel
theorem dX7_sit_46 : decode cX7_sit 46 = .ok (.iconst 1, 1) := by decide +kernel
theorem dX7_sit_47 : decode cX7_sit 47 = .ok (.if_icmp .ne 15, 3) := by decide +kernel
theorem dX7_sit_50 : decode cX7_sit 50 = .ok (.aload_n 0, 1) := by decide +kernel
theorem dX7_sit_51 : decode cX7_sit 51 = .ok (.getfield 7, 3) := by decide +kernel
theorem dX7_sit_54 : decode cX7_sit 54 = .ok (.iload_n 3, 1) := by decide +kernel
theorem dX7_sit_55 : decode cX7_sit 55 = .ok (.iaload, 1) := by decide +kernel
theorem dX7_sit_56 : decode cX7_sit 56 = .ok (.ifCond .ne 6, 3) := by decide +kernel
theorem dX7_sit_59 : decode cX7_sit 59 = .ok (.ldc 181, 2) := by decide +kernel
theorem dX7_sit_61 : decode cX7_sit 61 = .ok (.ireturn, 1) := by decide +kernel
theorem dX7_sit_62 : decode cX7_sit 62 = .ok (.aload_n 0, 1) := by decide +kernel
theorem dX7_sit_63 : decode cX7_sit 63 = .ok (.getfield 29, 3) := by decide +kernel
theorem dX7_sit_66 : decode cX7_sit 66 = .ok (.bipush 8, 2) := by decide +kernel
theorem dX7_sit_68 : decode cX7_sit 68 = .ok (.iload_n 1, 1) := by decide +kernel
theorem dX7_sit_69 : decode cX7_sit 69 = .ok (.imul, 1) := by decide +kernel
theorem dX7_sit_70 : decode cX7_sit 70 = .ok (.iload_n 2, 1) := by decide +kernel
theorem dX7_sit_71 : decode cX7_sit 71 = .ok (.iadd, 1) := by decide +kernel
theorem dX7_sit_72 : decode cX7_sit 72 = .ok (.iaload, 1) := by decide +kernel
theorem dX7_sit_73 : decode cX7_sit 73 = .ok (.istore 4, 2) := by decide +kernel
theorem dX7_sit_75 : decode cX7_sit 75 = .ok (.iconst 0, 1) := by decide +kernel
theorem dX7_sit_76 : decode cX7_sit 76 = .ok (.istore 5, 2) := by decide +kernel
theorem dX7_sit_78 : decode cX7_sit 78 = .ok (.iload 5, 2) := by decide +kernel
theorem dX7_sit_80 : decode cX7_sit 80 = .ok (.bipush 16, 2) := by decide +kernel
theorem dX7_sit_82 : decode cX7_sit 82 = .ok (.if_icmp .ge 38, 3) := by decide +kernel
theorem dX7_sit_85 : decode cX7_sit 85 = .ok (.aload_n 0, 1) := by decide +kernel
theorem dX7_sit_86 : decode cX7_sit 86 = .ok (.getfield 29, 3) := by decide +kernel
theorem dX7_sit_89 : decode cX7_sit 89 = .ok (.iload 5, 2) := by decide +kernel
theorem dX7_sit_91 : decode cX7_sit 91 = .ok (.aload_n 0, 1) := by decide +kernel
theorem dX7_sit_92 : decode cX7_sit 92 = .ok (.getfield 29, 3) := by decide +kernel
theorem dX7_sit_95 : decode cX7_sit 95 = .ok (.iload 5, 2) := by decide +kernel
theorem dX7_sit_97 : decode cX7_sit 97 = .ok (.iaload, 1) := by decide +kernel
theorem dX7_sit_98 : decode cX7_sit 98 = .ok (.iload_n 3, 1) := by decide +kernel
theorem dX7_sit_99 : decode cX7_sit 99 = .ok (.if_icmp .ne 7, 3) := by decide +kernel
theorem dX7_sit_102 : decode cX7_sit 102 = .ok (.iconst (-1), 1) := by decide +kernel
theorem dX7_sit_103 : decode cX7_sit 103 = .ok (.goto 10, 3) := by decide +kernel
theorem dX7_sit_106 : decode cX7_sit 106 = .ok (.aload_n 0, 1) := by decide +kernel
theorem dX7_sit_107 : decode cX7_sit 107 = .ok (.getfield 29, 3) := by decide +kernel
theorem dX7_sit_110 : decode cX7_sit 110 = .ok (.iload 5, 2) := by decide +kernel
theorem dX7_sit_112 : decode cX7_sit 112 = .ok (.iaload, 1) := by decide +kernel
theorem dX7_sit_113 : decode cX7_sit 113 = .ok (.iastore, 1) := by decide +kernel
theorem dX7_sit_114 : decode cX7_sit 114 = .ok (.iinc 5 1, 3) := by decide +kernel
theorem dX7_sit_117 : decode cX7_sit 117 = .ok (.goto (-39), 3) := by decide +kernel
theorem dX7_sit_120 : decode cX7_sit 120 = .ok (.aload_n 0, 1) := by decide +kernel
theorem dX7_sit_121 : decode cX7_sit 121 = .ok (.getfield 29, 3) := by decide +kernel
theorem dX7_sit_124 : decode cX7_sit 124 = .ok (.bipush 8, 2) := by decide +kernel
theorem dX7_sit_126 : decode cX7_sit 126 = .ok (.iload_n 1, 1) := by decide +kernel
theorem dX7_sit_127 : decode cX7_sit 127 = .ok (.imul, 1) := by decide +kernel
theorem dX7_sit_128 : decode cX7_sit 128 = .ok (.iload_n 2, 1) := by decide +kernel
theorem dX7_sit_129 : decode cX7_sit 129 = .ok (.iadd, 1) := by decide +kernel
theorem dX7_sit_130 : decode cX7_sit 130 = .ok (.iload_n 3, 1) := by decide +kernel
theorem dX7_sit_131 : decode cX7_sit 131 = .ok (.iastore, 1) := by decide +kernel
theorem dX7_sit_132 : decode cX7_sit 132 = .ok (.iload 4, 2) := by decide +kernel
theorem dX7_sit_134 : decode cX7_sit 134 = .ok (.ireturn, 1) := by decide +kernel
set_option maxRecDepth 100000 in
theorem ok_X7_sit {G : GX} (hAp : Ap G) : ∀ d, ∀ e ∈ tb_X7_sit, Snd G mts yX7_sit.cls cX7_sit 6 (some .int) d none e.1 e.2 := by
  intro d
  unfold tb_X7_sit
  refine fa_c (s_li_n dX7_sit_0 rfl) ?_
  refine fa_c (s_iconst dX7_sit_1 (by decide)) ?_
  refine fa_c (s_iconst dX7_sit_2 (by decide)) ?_
  refine fa_c (s_cs mo_X7_in dX7_sit_3 w_717 w_718 (by decide)) ?_
  refine fa_c (s_if_eq dX7_sit_6 (by decide)) ?_
  refine fa_c (s_la_n dX7_sit_9 rfl) ?_
  refine fa_c (s_li_n dX7_sit_10 rfl) ?_
  refine fa_c (s_cv mo_X7_isJob co_X7 (by decide) (fun _ _ => ⟨_, rfl⟩) dX7_sit_11 w_730 w_732 w_20 (by decide)) ?_
  refine fa_c (s_if_ne dX7_sit_14 (by decide)) ?_
  refine fa_c (s_ldc dX7_sit_17 w_734) ?_
  refine fa_c (s_ri dX7_sit_19 rfl) ?_
  refine fa_c (s_la_n dX7_sit_20 rfl) ?_
  refine fa_c (gf_X7_3 w_636 dX7_sit_21) ?_
  refine fa_c (s_li_n dX7_sit_24 rfl) ?_
  refine fa_c (s_ba dX7_sit_25) ?_
  refine fa_c (s_if_eq dX7_sit_26 (by decide)) ?_
  refine fa_c (s_ldc dX7_sit_29 w_735) ?_
  refine fa_c (s_ri dX7_sit_31 rfl) ?_
  refine fa_c (s_li_n dX7_sit_32 rfl) ?_
  refine fa_c (s_iconst dX7_sit_33 (by decide)) ?_
  refine fa_c (s_bipush dX7_sit_34 (by decide)) ?_
  refine fa_c (s_cs mo_X7_in dX7_sit_36 w_717 w_718 (by decide)) ?_
  refine fa_c (s_if_ne dX7_sit_39 (by decide)) ?_
  refine fa_c (s_ldc dX7_sit_42 w_871) ?_
  refine fa_c (s_ri dX7_sit_44 rfl) ?_
  refine fa_c (s_li_n dX7_sit_45 rfl) ?_
  refine fa_c (s_iconst dX7_sit_46 (by decide)) ?_
  refine fa_c (s_ic_ne dX7_sit_47 (by decide)) ?_
  refine fa_c (s_la_n dX7_sit_50 rfl) ?_
  refine fa_c (gf_X7_1 w_634 dX7_sit_51) ?_
  refine fa_c (s_li_n dX7_sit_54 rfl) ?_
  refine fa_c (s_ia dX7_sit_55) ?_
  refine fa_c (s_if_ne dX7_sit_56 (by decide)) ?_
  refine fa_c (s_ldc dX7_sit_59 w_872) ?_
  refine fa_c (s_ri dX7_sit_61 rfl) ?_
  refine fa_c (s_la_n dX7_sit_62 rfl) ?_
  refine fa_c (gf_X7_12 w_645 dX7_sit_63) ?_
  refine fa_c (s_bipush dX7_sit_66 (by decide)) ?_
  refine fa_c (s_li_n dX7_sit_68 rfl) ?_
  refine fa_c (s_i_mul dX7_sit_69) ?_
  refine fa_c (s_li_n dX7_sit_70 rfl) ?_
  refine fa_c (s_i_add dX7_sit_71) ?_
  refine fa_c (s_ia dX7_sit_72) ?_
  refine fa_c (s_st dX7_sit_73 (by decide)) ?_
  refine fa_c (s_iconst dX7_sit_75 (by decide)) ?_
  refine fa_c (s_st dX7_sit_76 (by decide)) ?_
  refine fa_c (s_li dX7_sit_78) ?_
  refine fa_c (s_bipush dX7_sit_80 (by decide)) ?_
  refine fa_c (s_ic_ge dX7_sit_82 (by decide)) ?_
  refine fa_c (s_la_n dX7_sit_85 rfl) ?_
  refine fa_c (gf_X7_12 w_645 dX7_sit_86) ?_
  refine fa_c (s_li dX7_sit_89) ?_
  refine fa_c (s_la_n dX7_sit_91 rfl) ?_
  refine fa_c (gf_X7_12 w_645 dX7_sit_92) ?_
  refine fa_c (s_li dX7_sit_95) ?_
  refine fa_c (s_ia dX7_sit_97) ?_
  refine fa_c (s_li_n dX7_sit_98 rfl) ?_
  refine fa_c (s_ic_ne dX7_sit_99 (by decide)) ?_
  refine fa_c (s_iconst dX7_sit_102 (by decide)) ?_
  refine fa_c (s_go dX7_sit_103 (by decide)) ?_
  refine fa_c (s_la_n dX7_sit_106 rfl) ?_
  refine fa_c (gf_X7_12 w_645 dX7_sit_107) ?_
  refine fa_c (s_li dX7_sit_110) ?_
  refine fa_c (s_ia dX7_sit_112) ?_
  refine fa_c (s_is hAp dX7_sit_113) ?_
  refine fa_c (s_inc dX7_sit_114 (by decide) (by decide)) ?_
  refine fa_c (s_go dX7_sit_117 (by decide)) ?_
  refine fa_c (s_la_n dX7_sit_120 rfl) ?_
  refine fa_c (gf_X7_12 w_645 dX7_sit_121) ?_
  refine fa_c (s_bipush dX7_sit_124 (by decide)) ?_
  refine fa_c (s_li_n dX7_sit_126 rfl) ?_
  refine fa_c (s_i_mul dX7_sit_127) ?_
  refine fa_c (s_li_n dX7_sit_128 rfl) ?_
  refine fa_c (s_i_add dX7_sit_129) ?_
  refine fa_c (s_li_n dX7_sit_130 rfl) ?_
  refine fa_c (s_is hAp dX7_sit_131) ?_
  refine fa_c (s_li dX7_sit_132) ?_
  refine fa_c (s_ri dX7_sit_134 rfl) ?_
  exact fun e he => absurd he List.not_mem_nil
theorem cl_X7_sit {G : GX} (hAp : Ap G) : Cl1 (Ct G mts) n_X7_sit tb_X7_sit := ct_cl (y := n_X7_sit) (yn := yX7_sit) rfl (by decide +kernel) (ok_X7_sit hAp)
theorem dX7_sits_0 : decode cX7_sits 0 = .ok (.iload_n 1, 1) := by decide +kernel
theorem dX7_sits_1 : decode cX7_sits 1 = .ok (.iconst 0, 1) := by decide +kernel
theorem dX7_sits_2 : decode cX7_sits 2 = .ok (.iconst 1, 1) := by decide +kernel
theorem dX7_sits_3 : decode cX7_sits 3 = .ok (.invokestatic 106, 3) := by decide +kernel
theorem dX7_sits_6 : decode cX7_sits 6 = .ok (.ifCond .ne 6, 3) := by decide +kernel
theorem dX7_sits_9 : decode cX7_sits 9 = .ok (.ldc 120, 2) := by decide +kernel
theorem dX7_sits_11 : decode cX7_sits 11 = .ok (.ireturn, 1) := by decide +kernel
theorem dX7_sits_12 : decode cX7_sits 12 = .ok (.iload_n 2, 1) := by decide +kernel
theorem dX7_sits_13 : decode cX7_sits 13 = .ok (.iconst 0, 1) := by decide +kernel
theorem dX7_sits_14 : decode cX7_sits 14 = .ok (.bipush 7, 2) := by decide +kernel
theorem dX7_sits_16 : decode cX7_sits 16 = .ok (.invokestatic 106, 3) := by decide +kernel
theorem dX7_sits_19 : decode cX7_sits 19 = .ok (.ifCond .eq 17, 3) := by decide +kernel
theorem dX7_sits_22 : decode cX7_sits 22 = .ok (.aload_n 0, 1) := by decide +kernel
theorem dX7_sits_23 : decode cX7_sits 23 = .ok (.getfield 29, 3) := by decide +kernel
theorem dX7_sits_26 : decode cX7_sits 26 = .ok (.bipush 8, 2) := by decide +kernel
theorem dX7_sits_28 : decode cX7_sits 28 = .ok (.iload_n 1, 1) := by decide +kernel
theorem dX7_sits_29 : decode cX7_sits 29 = .ok (.imul, 1) := by decide +kernel
theorem dX7_sits_30 : decode cX7_sits 30 = .ok (.iload_n 2, 1) := by decide +kernel
theorem dX7_sits_31 : decode cX7_sits 31 = .ok (.iadd, 1) := by decide +kernel
theorem dX7_sits_32 : decode cX7_sits 32 = .ok (.iaload, 1) := by decide +kernel
theorem dX7_sits_33 : decode cX7_sits 33 = .ok (.goto 5, 3) := by decide +kernel
theorem dX7_sits_36 : decode cX7_sits 36 = .ok (.ldc 180, 2) := by decide +kernel
theorem dX7_sits_38 : decode cX7_sits 38 = .ok (.ireturn, 1) := by decide +kernel
set_option maxRecDepth 100000 in
theorem ok_X7_sits {G : GX} (hAp : Ap G) : ∀ d, ∀ e ∈ tb_X7_sits, Snd G mts yX7_sits.cls cX7_sits 3 (some .int) d none e.1 e.2 := by
  intro d
  unfold tb_X7_sits
  refine fa_c (s_li_n dX7_sits_0 rfl) ?_
  refine fa_c (s_iconst dX7_sits_1 (by decide)) ?_
  refine fa_c (s_iconst dX7_sits_2 (by decide)) ?_
  refine fa_c (s_cs mo_X7_in dX7_sits_3 w_717 w_718 (by decide)) ?_
  refine fa_c (s_if_ne dX7_sits_6 (by decide)) ?_
  refine fa_c (s_ldc dX7_sits_9 w_734) ?_
  refine fa_c (s_ri dX7_sits_11 rfl) ?_
  refine fa_c (s_li_n dX7_sits_12 rfl) ?_
  refine fa_c (s_iconst dX7_sits_13 (by decide)) ?_
  refine fa_c (s_bipush dX7_sits_14 (by decide)) ?_
  refine fa_c (s_cs mo_X7_in dX7_sits_16 w_717 w_718 (by decide)) ?_
  refine fa_c (s_if_eq dX7_sits_19 (by decide)) ?_
  refine fa_c (s_la_n dX7_sits_22 rfl) ?_
  refine fa_c (gf_X7_12 w_645 dX7_sits_23) ?_
  refine fa_c (s_bipush dX7_sits_26 (by decide)) ?_
  refine fa_c (s_li_n dX7_sits_28 rfl) ?_
  refine fa_c (s_i_mul dX7_sits_29) ?_
  refine fa_c (s_li_n dX7_sits_30 rfl) ?_
  refine fa_c (s_i_add dX7_sits_31) ?_
  refine fa_c (s_ia dX7_sits_32) ?_
  refine fa_c (s_go dX7_sits_33 (by decide)) ?_
  refine fa_c (s_ldc dX7_sits_36 w_871) ?_
  refine fa_c (s_ri dX7_sits_38 rfl) ?_
  exact fun e he => absurd he List.not_mem_nil
theorem cl_X7_sits {G : GX} (hAp : Ap G) : Cl1 (Ct G mts) n_X7_sits tb_X7_sits := ct_cl (y := n_X7_sits) (yn := yX7_sits) rfl (by decide +kernel) (ok_X7_sits hAp)
theorem dX7_net_0 : decode cX7_net 0 = .ok (.iload_n 1, 1) := by decide +kernel
theorem dX7_net_1 : decode cX7_net 1 = .ok (.iconst 2, 1) := by decide +kernel
theorem dX7_net_2 : decode cX7_net 2 = .ok (.bipush 8, 2) := by decide +kernel
theorem dX7_net_4 : decode cX7_net 4 = .ok (.invokestatic 106, 3) := by decide +kernel
theorem dX7_net_7 : decode cX7_net 7 = .ok (.ifCond .ne 6, 3) := by decide +kernel
theorem dX7_net_10 : decode cX7_net 10 = .ok (.ldc 110, 2) := by decide +kernel
theorem dX7_net_12 : decode cX7_net 12 = .ok (.ireturn, 1) := by decide +kernel
theorem dX7_net_13 : decode cX7_net 13 = .ok (.aload_n 0, 1) := by decide +kernel
theorem dX7_net_14 : decode cX7_net 14 = .ok (.getfield 162, 3) := by decide +kernel
theorem dX7_net_17 : decode cX7_net 17 = .ok (.istore_n 2, 1) := by decide +kernel
theorem dX7_net_18 : decode cX7_net 18 = .ok (.aload_n 0, 1) := by decide +kernel
theorem dX7_net_19 : decode cX7_net 19 = .ok (.iload_n 1, 1) := by decide +kernel
theorem dX7_net_20 : decode cX7_net 20 = .ok (.putfield 159, 3) := by decide +kernel
theorem dX7_net_23 : decode cX7_net 23 = .ok (.aload_n 0, 1) := by decide +kernel
theorem dX7_net_24 : decode cX7_net 24 = .ok (.iconst 0, 1) := by decide +kernel
theorem dX7_net_25 : decode cX7_net 25 = .ok (.putfield 162, 3) := by decide +kernel
theorem dX7_net_28 : decode cX7_net 28 = .ok (.iload_n 2, 1) := by decide +kernel
theorem dX7_net_29 : decode cX7_net 29 = .ok (.ireturn, 1) := by decide +kernel
set_option maxRecDepth 100000 in
theorem ok_X7_net {G : GX} (hAp : Ap G) : ∀ d, ∀ e ∈ tb_X7_net, Snd G mts yX7_net.cls cX7_net 3 (some .int) d none e.1 e.2 := by
  intro d
  unfold tb_X7_net
  refine fa_c (s_li_n dX7_net_0 rfl) ?_
  refine fa_c (s_iconst dX7_net_1 (by decide)) ?_
  refine fa_c (s_bipush dX7_net_2 (by decide)) ?_
  refine fa_c (s_cs mo_X7_in dX7_net_4 w_717 w_718 (by decide)) ?_
  refine fa_c (s_if_ne dX7_net_7 (by decide)) ?_
  refine fa_c (s_ldc dX7_net_10 w_720) ?_
  refine fa_c (s_ri dX7_net_12 rfl) ?_
  refine fa_c (s_la_n dX7_net_13 rfl) ?_
  refine fa_c (gf_X7_14 w_647 dX7_net_14) ?_
  refine fa_c (s_st_n dX7_net_17 rfl (by decide)) ?_
  refine fa_c (s_la_n dX7_net_18 rfl) ?_
  refine fa_c (s_li_n dX7_net_19 rfl) ?_
  refine fa_c (pf_X7_13 hAp w_646 dX7_net_20) ?_
  refine fa_c (s_la_n dX7_net_23 rfl) ?_
  refine fa_c (s_iconst dX7_net_24 (by decide)) ?_
  refine fa_c (pf_X7_14 hAp w_647 dX7_net_25) ?_
  refine fa_c (s_li_n dX7_net_28 rfl) ?_
  refine fa_c (s_ri dX7_net_29 rfl) ?_
  exact fun e he => absurd he List.not_mem_nil
theorem cl_X7_net {G : GX} (hAp : Ap G) : Cl1 (Ct G mts) n_X7_net tb_X7_net := ct_cl (y := n_X7_net) (yn := yX7_net) rfl (by decide +kernel) (ok_X7_net hAp)
theorem dX7_isPlace_0 : decode cX7_isPlace 0 = .ok (.iload_n 1, 1) := by decide +kernel
theorem dX7_isPlace_1 : decode cX7_isPlace 1 = .ok (.iconst 0, 1) := by decide +kernel
theorem dX7_isPlace_2 : decode cX7_isPlace 2 = .ok (.aload_n 0, 1) := by decide +kernel
theorem dX7_isPlace_3 : decode cX7_isPlace 3 = .ok (.getfield 159, 3) := by decide +kernel
theorem dX7_isPlace_6 : decode cX7_isPlace 6 = .ok (.iconst 1, 1) := by decide +kernel
theorem dX7_isPlace_7 : decode cX7_isPlace 7 = .ok (.isub, 1) := by decide +kernel
theorem dX7_isPlace_8 : decode cX7_isPlace 8 = .ok (.invokestatic 106, 3) := by decide +kernel
theorem dX7_isPlace_11 : decode cX7_isPlace 11 = .ok (.ireturn, 1) := by decide +kernel
set_option maxRecDepth 100000 in
theorem ok_X7_isPlace {G : GX} (hAp : Ap G) : ∀ d, ∀ e ∈ tb_X7_isPlace, Snd G mts yX7_isPlace.cls cX7_isPlace 2 (some .boolean) d none e.1 e.2 := by
  intro d
  unfold tb_X7_isPlace
  refine fa_c (s_li_n dX7_isPlace_0 rfl) ?_
  refine fa_c (s_iconst dX7_isPlace_1 (by decide)) ?_
  refine fa_c (s_la_n dX7_isPlace_2 rfl) ?_
  refine fa_c (gf_X7_13 w_646 dX7_isPlace_3) ?_
  refine fa_c (s_iconst dX7_isPlace_6 (by decide)) ?_
  refine fa_c (s_i_sub dX7_isPlace_7) ?_
  refine fa_c (s_cs mo_X7_in dX7_isPlace_8 w_717 w_718 (by decide)) ?_
  refine fa_c (s_rz dX7_isPlace_11 rfl) ?_
  exact fun e he => absurd he List.not_mem_nil
theorem cl_X7_isPlace {G : GX} (hAp : Ap G) : Cl1 (Ct G mts) n_X7_isPlace tb_X7_isPlace := ct_cl (y := n_X7_isPlace) (yn := yX7_isPlace) rfl (by decide +kernel) (ok_X7_isPlace hAp)
theorem dX7_road_0 : decode cX7_road 0 = .ok (.aload_n 0, 1) := by decide +kernel
theorem dX7_road_1 : decode cX7_road 1 = .ok (.iload_n 1, 1) := by decide +kernel
theorem dX7_road_2 : decode cX7_road 2 = .ok (.invokevirtual 182, 3) := by decide +kernel
theorem dX7_road_5 : decode cX7_road 5 = .ok (.ifCond .eq 16, 3) := by decide +kernel
theorem dX7_road_8 : decode cX7_road 8 = .ok (.aload_n 0, 1) := by decide +kernel
theorem dX7_road_9 : decode cX7_road 9 = .ok (.iload_n 2, 1) := by decide +kernel
theorem dX7_road_10 : decode cX7_road 10 = .ok (.invokevirtual 182, 3) := by decide +kernel
theorem dX7_road_13 : decode cX7_road 13 = .ok (.ifCond .eq 8, 3) := by decide +kernel
theorem dX7_road_16 : decode cX7_road 16 = .ok (.iload_n 1, 1) := by decide +kernel
theorem dX7_road_17 : decode cX7_road 17 = .ok (.iload_n 2, 1) := by decide +kernel
theorem dX7_road_18 : decode cX7_road 18 = .ok (.if_icmp .ne 6, 3) := by decide +kernel
theorem dX7_road_21 : decode cX7_road 21 = .ok (.ldc 120, 2) := by decide +kernel
theorem dX7_road_23 : decode cX7_road 23 = .ok (.ireturn, 1) := by decide +kernel
theorem dX7_road_24 : decode cX7_road 24 = .ok (.iload_n 3, 1) := by decide +kernel
theorem dX7_road_25 : decode cX7_road 25 = .ok (.iconst 0, 1) := by decide +kernel
theorem dX7_road_26 : decode cX7_road 26 = .ok (.sipush 9999, 3) := by decide +kernel
theorem dX7_road_29 : decode cX7_road 29 = .ok (.invokestatic 106, 3) := by decide +kernel
theorem dX7_road_32 : decode cX7_road 32 = .ok (.ifCond .ne 6, 3) := by decide +kernel
theorem dX7_road_35 : decode cX7_road 35 = .ok (.ldc 110, 2) := by decide +kernel
theorem dX7_road_37 : decode cX7_road 37 = .ok (.ireturn, 1) := by decide +kernel
theorem dX7_road_38 : decode cX7_road 38 = .ok (.aload_n 0, 1) := by decide +kernel
theorem dX7_road_39 : decode cX7_road 39 = .ok (.getfield 162, 3) := by decide +kernel
theorem dX7_road_42 : decode cX7_road 42 = .ok (.bipush 14, 2) := by decide +kernel
theorem dX7_road_44 : decode cX7_road 44 = .ok (.if_icmp .ne 6, 3) := by decide +kernel
theorem dX7_road_47 : decode cX7_road 47 = .ok (.ldc 111, 2) := by decide +kernel
theorem dX7_road_49 : decode cX7_road 49 = .ok (.ireturn, 1) := by decide +kernel
theorem dX7_road_50 : decode cX7_road 50 = .ok (.aload_n 0, 1) := by decide +kernel
theorem dX7_road_51 : decode cX7_road 51 = .ok (.getfield 32, 3) := by decide +kernel
theorem dX7_road_54 : decode cX7_road 54 = .ok (.aload_n 0, 1) := by decide +kernel
theorem dX7_road_55 : decode cX7_road 55 = .ok (.getfield 162, 3) := by decide +kernel
theorem dX7_road_58 : decode cX7_road 58 = .ok (.iload_n 1, 1) := by decide +kernel
theorem dX7_road_59 : decode cX7_road 59 = .ok (.iastore, 1) := by decide +kernel
theorem dX7_road_60 : decode cX7_road 60 = .ok (.aload_n 0, 1) := by decide +kernel
theorem dX7_road_61 : decode cX7_road 61 = .ok (.getfield 35, 3) := by decide +kernel
theorem dX7_road_64 : decode cX7_road 64 = .ok (.aload_n 0, 1) := by decide +kernel
theorem dX7_road_65 : decode cX7_road 65 = .ok (.getfield 162, 3) := by decide +kernel
theorem dX7_road_68 : decode cX7_road 68 = .ok (.iload_n 2, 1) := by decide +kernel
theorem dX7_road_69 : decode cX7_road 69 = .ok (.iastore, 1) := by decide +kernel
theorem dX7_road_70 : decode cX7_road 70 = .ok (.aload_n 0, 1) := by decide +kernel
theorem dX7_road_71 : decode cX7_road 71 = .ok (.getfield 38, 3) := by decide +kernel
theorem dX7_road_74 : decode cX7_road 74 = .ok (.aload_n 0, 1) := by decide +kernel
theorem dX7_road_75 : decode cX7_road 75 = .ok (.getfield 162, 3) := by decide +kernel
theorem dX7_road_78 : decode cX7_road 78 = .ok (.iload_n 3, 1) := by decide +kernel
theorem dX7_road_79 : decode cX7_road 79 = .ok (.iastore, 1) := by decide +kernel
theorem dX7_road_80 : decode cX7_road 80 = .ok (.aload_n 0, 1) := by decide +kernel
theorem dX7_road_81 : decode cX7_road 81 = .ok (.dup, 1) := by decide +kernel
theorem dX7_road_82 : decode cX7_road 82 = .ok (.getfield 162, 3) := by decide +kernel
theorem dX7_road_85 : decode cX7_road 85 = .ok (.iconst 1, 1) := by decide +kernel
theorem dX7_road_86 : decode cX7_road 86 = .ok (.iadd, 1) := by decide +kernel
theorem dX7_road_87 : decode cX7_road 87 = .ok (.putfield 162, 3) := by decide +kernel
theorem dX7_road_90 : decode cX7_road 90 = .ok (.aload_n 0, 1) := by decide +kernel
theorem dX7_road_91 : decode cX7_road 91 = .ok (.getfield 162, 3) := by decide +kernel
theorem dX7_road_94 : decode cX7_road 94 = .ok (.iconst 1, 1) := by decide +kernel
theorem dX7_road_95 : decode cX7_road 95 = .ok (.isub, 1) := by decide +kernel
theorem dX7_road_96 : decode cX7_road 96 = .ok (.ireturn, 1) := by decide +kernel
set_option maxRecDepth 100000 in
theorem ok_X7_road {G : GX} (hAp : Ap G) : ∀ d, ∀ e ∈ tb_X7_road, Snd G mts yX7_road.cls cX7_road 4 (some .int) d none e.1 e.2 := by
  intro d
  unfold tb_X7_road
  refine fa_c (s_la_n dX7_road_0 rfl) ?_
  refine fa_c (s_li_n dX7_road_1 rfl) ?_
  refine fa_c (s_cv mo_X7_isPlace co_X7 (by decide) (fun _ _ => ⟨_, rfl⟩) dX7_road_2 w_885 w_887 w_41 (by decide)) ?_
  refine fa_c (s_if_eq dX7_road_5 (by decide)) ?_
  refine fa_c (s_la_n dX7_road_8 rfl) ?_
  refine fa_c (s_li_n dX7_road_9 rfl) ?_
  refine fa_c (s_cv mo_X7_isPlace co_X7 (by decide) (fun _ _ => ⟨_, rfl⟩) dX7_road_10 w_885 w_887 w_41 (by decide)) ?_
  refine fa_c (s_if_eq dX7_road_13 (by decide)) ?_
  refine fa_c (s_li_n dX7_road_16 rfl) ?_
  refine fa_c (s_li_n dX7_road_17 rfl) ?_
  refine fa_c (s_ic_ne dX7_road_18 (by decide)) ?_
  refine fa_c (s_ldc dX7_road_21 w_734) ?_
  refine fa_c (s_ri dX7_road_23 rfl) ?_
  refine fa_c (s_li_n dX7_road_24 rfl) ?_
  refine fa_c (s_iconst dX7_road_25 (by decide)) ?_
  refine fa_c (s_sipush dX7_road_26 (by decide)) ?_
  refine fa_c (s_cs mo_X7_in dX7_road_29 w_717 w_718 (by decide)) ?_
  refine fa_c (s_if_ne dX7_road_32 (by decide)) ?_
  refine fa_c (s_ldc dX7_road_35 w_720) ?_
  refine fa_c (s_ri dX7_road_37 rfl) ?_
  refine fa_c (s_la_n dX7_road_38 rfl) ?_
  refine fa_c (gf_X7_14 w_647 dX7_road_39) ?_
  refine fa_c (s_bipush dX7_road_42 (by decide)) ?_
  refine fa_c (s_ic_ne dX7_road_44 (by decide)) ?_
  refine fa_c (s_ldc dX7_road_47 w_721) ?_
  refine fa_c (s_ri dX7_road_49 rfl) ?_
  refine fa_c (s_la_n dX7_road_50 rfl) ?_
  refine fa_c (gf_X7_15 w_648 dX7_road_51) ?_
  refine fa_c (s_la_n dX7_road_54 rfl) ?_
  refine fa_c (gf_X7_14 w_647 dX7_road_55) ?_
  refine fa_c (s_li_n dX7_road_58 rfl) ?_
  refine fa_c (s_is hAp dX7_road_59) ?_
  refine fa_c (s_la_n dX7_road_60 rfl) ?_
  refine fa_c (gf_X7_16 w_649 dX7_road_61) ?_
  refine fa_c (s_la_n dX7_road_64 rfl) ?_
  refine fa_c (gf_X7_14 w_647 dX7_road_65) ?_
  refine fa_c (s_li_n dX7_road_68 rfl) ?_
  refine fa_c (s_is hAp dX7_road_69) ?_
  refine fa_c (s_la_n dX7_road_70 rfl) ?_
  refine fa_c (gf_X7_17 w_650 dX7_road_71) ?_
  refine fa_c (s_la_n dX7_road_74 rfl) ?_
  refine fa_c (gf_X7_14 w_647 dX7_road_75) ?_
  refine fa_c (s_li_n dX7_road_78 rfl) ?_
  refine fa_c (s_is hAp dX7_road_79) ?_
  refine fa_c (s_la_n dX7_road_80 rfl) ?_
  refine fa_c (s_i_dup dX7_road_81) ?_
  refine fa_c (gf_X7_14 w_647 dX7_road_82) ?_
  refine fa_c (s_iconst dX7_road_85 (by decide)) ?_
  refine fa_c (s_i_add dX7_road_86) ?_
  refine fa_c (pf_X7_14 hAp w_647 dX7_road_87) ?_
  refine fa_c (s_la_n dX7_road_90 rfl) ?_
  refine fa_c (gf_X7_14 w_647 dX7_road_91) ?_
  refine fa_c (s_iconst dX7_road_94 (by decide)) ?_
  refine fa_c (s_i_sub dX7_road_95) ?_
  refine fa_c (s_ri dX7_road_96 rfl) ?_
  exact fun e he => absurd he List.not_mem_nil
theorem cl_X7_road {G : GX} (hAp : Ap G) : Cl1 (Ct G mts) n_X7_road tb_X7_road := ct_cl (y := n_X7_road) (yn := yX7_road) rfl (by decide +kernel) (ok_X7_road hAp)

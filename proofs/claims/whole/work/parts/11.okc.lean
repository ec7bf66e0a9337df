-- written by wip/whole/gen2.py
theorem dX6_road_0 : decode cX6_road 0 = .ok (.aload_n 0, 1) := by decide +kernel
theorem dX6_road_1 : decode cX6_road 1 = .ok (.getfield 28, 3) := by decide +kernel
theorem dX6_road_4 : decode cX6_road 4 = .ok (.iload_n 1, 1) := by decide +kernel
theorem dX6_road_5 : decode cX6_road 5 = .ok (.invokevirtual 178, 3) := by decide +kernel
theorem dX6_road_8 : decode cX6_road 8 = .ok (.ifCond .eq 19, 3) := by decide +kernel
theorem dX6_road_11 : decode cX6_road 11 = .ok (.aload_n 0, 1) := by decide +kernel
theorem dX6_road_12 : decode cX6_road 12 = .ok (.getfield 28, 3) := by decide +kernel
theorem dX6_road_15 : decode cX6_road 15 = .ok (.iload_n 2, 1) := by decide +kernel
theorem dX6_road_16 : decode cX6_road 16 = .ok (.invokevirtual 178, 3) := by decide +kernel
theorem dX6_road_19 : decode cX6_road 19 = .ok (.ifCond .eq 8, 3) := by decide +kernel
theorem dX6_road_22 : decode cX6_road 22 = .ok (.iload_n 1, 1) := by decide +kernel
theorem dX6_road_23 : decode cX6_road 23 = .ok (.iload_n 2, 1) := by decide +kernel
theorem dX6_road_24 : decode cX6_road 24 = .ok (.if_icmp .ne 6, 3) := by decide +kernel
theorem dX6_road_27 : decode cX6_road 27 = .ok (.ldc 67, 2) := by decide +kernel
theorem dX6_road_29 : decode cX6_road 29 = .ok (.ireturn, 1) := by decide +kernel
theorem dX6_road_30 : decode cX6_road 30 = .ok (.iload_n 3, 1) := by decide +kernel
theorem dX6_road_31 : decode cX6_road 31 = .ok (.iconst 0, 1) := by decide +kernel
theorem dX6_road_32 : decode cX6_road 32 = .ok (.sipush 9999, 3) := by decide +kernel
theorem dX6_road_35 : decode cX6_road 35 = .ok (.invokestatic 46, 3) := by decide +kernel
theorem dX6_road_38 : decode cX6_road 38 = .ok (.ifCond .ne 6, 3) := by decide +kernel
theorem dX6_road_41 : decode cX6_road 41 = .ok (.ldc 54, 2) := by decide +kernel
theorem dX6_road_43 : decode cX6_road 43 = .ok (.ireturn, 1) := by decide +kernel
theorem dX6_road_44 : decode cX6_road 44 = .ok (.aload_n 0, 1) := by decide +kernel
theorem dX6_road_45 : decode cX6_road 45 = .ok (.getfield 28, 3) := by decide +kernel
theorem dX6_road_48 : decode cX6_road 48 = .ok (.invokevirtual 181, 3) := by decide +kernel
theorem dX6_road_51 : decode cX6_road 51 = .ok (.ifCond .ne 6, 3) := by decide +kernel
theorem dX6_road_54 : decode cX6_road 54 = .ok (.ldc 59, 2) := by decide +kernel
theorem dX6_road_56 : decode cX6_road 56 = .ok (.ireturn, 1) := by decide +kernel
theorem dX6_road_57 : decode cX6_road 57 = .ok (.aload_n 0, 1) := by decide +kernel
theorem dX6_road_58 : decode cX6_road 58 = .ok (.getfield 28, 3) := by decide +kernel
theorem dX6_road_61 : decode cX6_road 61 = .ok (.iload_n 1, 1) := by decide +kernel
theorem dX6_road_62 : decode cX6_road 62 = .ok (.iload_n 2, 1) := by decide +kernel
theorem dX6_road_63 : decode cX6_road 63 = .ok (.iload_n 3, 1) := by decide +kernel
theorem dX6_road_64 : decode cX6_road 64 = .ok (.invokevirtual 182, 3) := by decide +kernel
theorem dX6_road_67 : decode cX6_road 67 = .ok (.ireturn, 1) := by decide +kernel
set_option maxRecDepth 100000 in
theorem ok_X6_road {G : GX} (hAp : Ap G) : ∀ d, ∀ e ∈ tb_X6_road, Snd G mts yX6_road.cls cX6_road 4 (some .int) d none e.1 e.2 := by
  intro d
  unfold tb_X6_road
  refine fa_c (s_la_n dX6_road_0 rfl) ?_
  refine fa_c (gf_X6_2 w_198 dX6_road_1) ?_
  refine fa_c (s_li_n dX6_road_4 rfl) ?_
  refine fa_c (s_cv mo_X5_hasPlace co_X5 (by decide) (fun _ _ => ⟨_, rfl⟩) dX6_road_5 w_509 w_510 w_511 (by decide)) ?_
  refine fa_c (s_if_eq dX6_road_8 (by decide)) ?_
  refine fa_c (s_la_n dX6_road_11 rfl) ?_
  refine fa_c (gf_X6_2 w_198 dX6_road_12) ?_
  refine fa_c (s_li_n dX6_road_15 rfl) ?_
  refine fa_c (s_cv mo_X5_hasPlace co_X5 (by decide) (fun _ _ => ⟨_, rfl⟩) dX6_road_16 w_509 w_510 w_511 (by decide)) ?_
  refine fa_c (s_if_eq dX6_road_19 (by decide)) ?_
  refine fa_c (s_li_n dX6_road_22 rfl) ?_
  refine fa_c (s_li_n dX6_road_23 rfl) ?_
  refine fa_c (s_ic_ne dX6_road_24 (by decide)) ?_
  refine fa_c (s_ldc dX6_road_27 w_242) ?_
  refine fa_c (s_ri dX6_road_29 rfl) ?_
  refine fa_c (s_li_n dX6_road_30 rfl) ?_
  refine fa_c (s_iconst dX6_road_31 (by decide)) ?_
  refine fa_c (s_sipush dX6_road_32 (by decide)) ?_
  refine fa_c (s_cs mo_X6_between dX6_road_35 w_216 w_217 (by decide)) ?_
  refine fa_c (s_if_ne dX6_road_38 (by decide)) ?_
  refine fa_c (s_ldc dX6_road_41 w_222) ?_
  refine fa_c (s_ri dX6_road_43 rfl) ?_
  refine fa_c (s_la_n dX6_road_44 rfl) ?_
  refine fa_c (gf_X6_2 w_198 dX6_road_45) ?_
  refine fa_c (s_cv mo_X5_hasRoom co_X5 (by decide) (fun _ _ => ⟨_, rfl⟩) dX6_road_48 w_513 w_514 w_515 (by decide)) ?_
  refine fa_c (s_if_ne dX6_road_51 (by decide)) ?_
  refine fa_c (s_ldc dX6_road_54 w_227) ?_
  refine fa_c (s_ri dX6_road_56 rfl) ?_
  refine fa_c (s_la_n dX6_road_57 rfl) ?_
  refine fa_c (gf_X6_2 w_198 dX6_road_58) ?_
  refine fa_c (s_li_n dX6_road_61 rfl) ?_
  refine fa_c (s_li_n dX6_road_62 rfl) ?_
  refine fa_c (s_li_n dX6_road_63 rfl) ?_
  refine fa_c (s_cv mo_X5_add co_X5 (by decide) (fun _ _ => ⟨_, rfl⟩) dX6_road_64 w_517 w_518 w_519 (by decide)) ?_
  refine fa_c (s_ri dX6_road_67 rfl) ?_
  exact fun e he => absurd he List.not_mem_nil
theorem cl_X6_road {G : GX} (hAp : Ap G) : Cl1 (Ct G mts) n_X6_road tb_X6_road := ct_cl (y := n_X6_road) (yn := yX6_road) rfl (by decide +kernel) (ok_X6_road hAp)
theorem dX6_tree_0 : decode cX6_tree 0 = .ok (.aload_n 0, 1) := by decide +kernel
theorem dX6_tree_1 : decode cX6_tree 1 = .ok (.getfield 28, 3) := by decide +kernel
theorem dX6_tree_4 : decode cX6_tree 4 = .ok (.iload_n 1, 1) := by decide +kernel
theorem dX6_tree_5 : decode cX6_tree 5 = .ok (.invokevirtual 178, 3) := by decide +kernel
theorem dX6_tree_8 : decode cX6_tree 8 = .ok (.ifCond .ne 6, 3) := by decide +kernel
theorem dX6_tree_11 : decode cX6_tree 11 = .ok (.ldc 67, 2) := by decide +kernel
theorem dX6_tree_13 : decode cX6_tree 13 = .ok (.ireturn, 1) := by decide +kernel
theorem dX6_tree_14 : decode cX6_tree 14 = .ok (.iload_n 2, 1) := by decide +kernel
theorem dX6_tree_15 : decode cX6_tree 15 = .ok (.iconst 0, 1) := by decide +kernel
theorem dX6_tree_16 : decode cX6_tree 16 = .ok (.iconst 4, 1) := by decide +kernel
theorem dX6_tree_17 : decode cX6_tree 17 = .ok (.invokestatic 46, 3) := by decide +kernel
theorem dX6_tree_20 : decode cX6_tree 20 = .ok (.ifCond .ne 6, 3) := by decide +kernel
theorem dX6_tree_23 : decode cX6_tree 23 = .ok (.ldc 54, 2) := by decide +kernel
theorem dX6_tree_25 : decode cX6_tree 25 = .ok (.ireturn, 1) := by decide +kernel
theorem dX6_tree_26 : decode cX6_tree 26 = .ok (.aload_n 0, 1) := by decide +kernel
theorem dX6_tree_27 : decode cX6_tree 27 = .ok (.getfield 28, 3) := by decide +kernel
theorem dX6_tree_30 : decode cX6_tree 30 = .ok (.iload_n 1, 1) := by decide +kernel
theorem dX6_tree_31 : decode cX6_tree 31 = .ok (.iconst 0, 1) := by decide +kernel
theorem dX6_tree_32 : decode cX6_tree 32 = .ok (.invokevirtual 184, 3) := by decide +kernel
theorem dX6_tree_35 : decode cX6_tree 35 = .ok (.iload_n 2, 1) := by decide +kernel
theorem dX6_tree_36 : decode cX6_tree 36 = .ok (.tableswitch 64 0 3 #[32, 40, 48, 56], 32) := by decide +kernel
theorem dX6_tree_68 : decode cX6_tree 68 = .ok (.aload_n 0, 1) := by decide +kernel
theorem dX6_tree_69 : decode cX6_tree 69 = .ok (.getfield 28, 3) := by decide +kernel
theorem dX6_tree_72 : decode cX6_tree 72 = .ok (.invokevirtual 188, 3) := by decide +kernel
theorem dX6_tree_75 : decode cX6_tree 75 = .ok (.ireturn, 1) := by decide +kernel
theorem dX6_tree_76 : decode cX6_tree 76 = .ok (.aload_n 0, 1) := by decide +kernel
theorem dX6_tree_77 : decode cX6_tree 77 = .ok (.getfield 28, 3) := by decide +kernel
theorem dX6_tree_80 : decode cX6_tree 80 = .ok (.invokevirtual 191, 3) := by decide +kernel
theorem dX6_tree_83 : decode cX6_tree 83 = .ok (.ireturn, 1) := by decide +kernel
theorem dX6_tree_84 : decode cX6_tree 84 = .ok (.aload_n 0, 1) := by decide +kernel
theorem dX6_tree_85 : decode cX6_tree 85 = .ok (.getfield 28, 3) := by decide +kernel
theorem dX6_tree_88 : decode cX6_tree 88 = .ok (.invokevirtual 194, 3) := by decide +kernel
theorem dX6_tree_91 : decode cX6_tree 91 = .ok (.ireturn, 1) := by decide +kernel
theorem dX6_tree_92 : decode cX6_tree 92 = .ok (.aload_n 0, 1) := by decide +kernel
theorem dX6_tree_93 : decode cX6_tree 93 = .ok (.getfield 28, 3) := by decide +kernel
theorem dX6_tree_96 : decode cX6_tree 96 = .ok (.invokevirtual 195, 3) := by decide +kernel
theorem dX6_tree_99 : decode cX6_tree 99 = .ok (.ireturn, 1) := by decide +kernel
theorem dX6_tree_100 : decode cX6_tree 100 = .ok (.aload_n 0, 1) := by decide +kernel
theorem dX6_tree_101 : decode cX6_tree 101 = .ok (.getfield 28, 3) := by decide +kernel
theorem dX6_tree_104 : decode cX6_tree 104 = .ok (.invokevirtual 196, 3) := by decide +kernel
theorem dX6_tree_107 : decode cX6_tree 107 = .ok (.ireturn, 1) := by decide +kernel
set_option maxRecDepth 100000 in
theorem ok_X6_tree {G : GX} (hAp : Ap G) : ∀ d, ∀ e ∈ tb_X6_tree, Snd G mts yX6_tree.cls cX6_tree 3 (some .int) d none e.1 e.2 := by
  intro d
  unfold tb_X6_tree
  refine fa_c (s_la_n dX6_tree_0 rfl) ?_
  refine fa_c (gf_X6_2 w_198 dX6_tree_1) ?_
  refine fa_c (s_li_n dX6_tree_4 rfl) ?_
  refine fa_c (s_cv mo_X5_hasPlace co_X5 (by decide) (fun _ _ => ⟨_, rfl⟩) dX6_tree_5 w_509 w_510 w_511 (by decide)) ?_
  refine fa_c (s_if_ne dX6_tree_8 (by decide)) ?_
  refine fa_c (s_ldc dX6_tree_11 w_242) ?_
  refine fa_c (s_ri dX6_tree_13 rfl) ?_
  refine fa_c (s_li_n dX6_tree_14 rfl) ?_
  refine fa_c (s_iconst dX6_tree_15 (by decide)) ?_
  refine fa_c (s_iconst dX6_tree_16 (by decide)) ?_
  refine fa_c (s_cs mo_X6_between dX6_tree_17 w_216 w_217 (by decide)) ?_
  refine fa_c (s_if_ne dX6_tree_20 (by decide)) ?_
  refine fa_c (s_ldc dX6_tree_23 w_222) ?_
  refine fa_c (s_ri dX6_tree_25 rfl) ?_
  refine fa_c (s_la_n dX6_tree_26 rfl) ?_
  refine fa_c (gf_X6_2 w_198 dX6_tree_27) ?_
  refine fa_c (s_li_n dX6_tree_30 rfl) ?_
  refine fa_c (s_iconst dX6_tree_31 (by decide)) ?_
  refine fa_c (s_cv mo_X5_grow co_X5 (by decide) (fun _ _ => ⟨_, rfl⟩) dX6_tree_32 w_527 w_528 w_529 (by decide)) ?_
  refine fa_c (s_li_n dX6_tree_35 rfl) ?_
  refine fa_c (s_sw (n := 4) dX6_tree_36 (by decide) (by decide +kernel) (by decide) (by decide +kernel)) ?_
  refine fa_c (s_la_n dX6_tree_68 rfl) ?_
  refine fa_c (gf_X6_2 w_198 dX6_tree_69) ?_
  refine fa_c (s_cv mo_X5_weightOfTree co_X5 (by decide) (fun _ _ => ⟨_, rfl⟩) dX6_tree_72 w_555 w_556 w_557 (by decide)) ?_
  refine fa_c (s_ri dX6_tree_75 rfl) ?_
  refine fa_c (s_la_n dX6_tree_76 rfl) ?_
  refine fa_c (gf_X6_2 w_198 dX6_tree_77) ?_
  refine fa_c (s_cv mo_X5_roadsOfTree co_X5 (by decide) (fun _ _ => ⟨_, rfl⟩) dX6_tree_80 w_559 w_560 w_561 (by decide)) ?_
  refine fa_c (s_ri dX6_tree_83 rfl) ?_
  refine fa_c (s_la_n dX6_tree_84 rfl) ?_
  refine fa_c (gf_X6_2 w_198 dX6_tree_85) ?_
  refine fa_c (s_cv mo_X5_links co_X5 (by decide) (fun _ _ => ⟨_, rfl⟩) dX6_tree_88 w_563 w_564 w_565 (by decide)) ?_
  refine fa_c (s_ri dX6_tree_91 rfl) ?_
  refine fa_c (s_la_n dX6_tree_92 rfl) ?_
  refine fa_c (gf_X6_2 w_198 dX6_tree_93) ?_
  refine fa_c (s_cv mo_X5_cuts co_X5 (by decide) (fun _ _ => ⟨_, rfl⟩) dX6_tree_96 w_568 w_569 w_570 (by decide)) ?_
  refine fa_c (s_ri dX6_tree_99 rfl) ?_
  refine fa_c (s_la_n dX6_tree_100 rfl) ?_
  refine fa_c (gf_X6_2 w_198 dX6_tree_101) ?_
  refine fa_c (s_cv mo_X5_lowerings co_X5 (by decide) (fun _ _ => ⟨_, rfl⟩) dX6_tree_104 w_573 w_574 w_575 (by decide)) ?_
  refine fa_c (s_ri dX6_tree_107 rfl) ?_
  exact fun e he => absurd he List.not_mem_nil
theorem cl_X6_tree {G : GX} (hAp : Ap G) : Cl1 (Ct G mts) n_X6_tree tb_X6_tree := ct_cl (y := n_X6_tree) (yn := yX6_tree) rfl (by decide +kernel) (ok_X6_tree hAp)
theorem dX6_way_0 : decode cX6_way 0 = .ok (.aload_n 0, 1) := by decide +kernel
theorem dX6_way_1 : decode cX6_way 1 = .ok (.getfield 28, 3) := by decide +kernel
theorem dX6_way_4 : decode cX6_way 4 = .ok (.iload_n 1, 1) := by decide +kernel
theorem dX6_way_5 : decode cX6_way 5 = .ok (.invokevirtual 178, 3) := by decide +kernel
theorem dX6_way_8 : decode cX6_way 8 = .ok (.ifCond .eq 14, 3) := by decide +kernel
theorem dX6_way_11 : decode cX6_way 11 = .ok (.aload_n 0, 1) := by decide +kernel
theorem dX6_way_12 : decode cX6_way 12 = .ok (.getfield 28, 3) := by decide +kernel
theorem dX6_way_15 : decode cX6_way 15 = .ok (.iload_n 2, 1) := by decide +kernel
theorem dX6_way_16 : decode cX6_way 16 = .ok (.invokevirtual 178, 3) := by decide +kernel
theorem dX6_way_19 : decode cX6_way 19 = .ok (.ifCond .ne 6, 3) := by decide +kernel
theorem dX6_way_22 : decode cX6_way 22 = .ok (.ldc 67, 2) := by decide +kernel
theorem dX6_way_24 : decode cX6_way 24 = .ok (.ireturn, 1) := by decide +kernel
theorem dX6_way_25 : decode cX6_way 25 = .ok (.aload_n 0, 1) := by decide +kernel
theorem dX6_way_26 : decode cX6_way 26 = .ok (.getfield 28, 3) := by decide +kernel
theorem dX6_way_29 : decode cX6_way 29 = .ok (.iload_n 1, 1) := by decide +kernel
theorem dX6_way_30 : decode cX6_way 30 = .ok (.iconst 1, 1) := by decide +kernel
theorem dX6_way_31 : decode cX6_way 31 = .ok (.invokevirtual 184, 3) := by decide +kernel
theorem dX6_way_34 : decode cX6_way 34 = .ok (.aload_n 0, 1) := by decide +kernel
theorem dX6_way_35 : decode cX6_way 35 = .ok (.getfield 28, 3) := by decide +kernel
theorem dX6_way_38 : decode cX6_way 38 = .ok (.iload_n 2, 1) := by decide +kernel
theorem dX6_way_39 : decode cX6_way 39 = .ok (.invokevirtual 199, 3) := by decide +kernel
theorem dX6_way_42 : decode cX6_way 42 = .ok (.ireturn, 1) := by decide +kernel
set_option maxRecDepth 100000 in
theorem ok_X6_way {G : GX} (hAp : Ap G) : ∀ d, ∀ e ∈ tb_X6_way, Snd G mts yX6_way.cls cX6_way 3 (some .int) d none e.1 e.2 := by
  intro d
  unfold tb_X6_way
  refine fa_c (s_la_n dX6_way_0 rfl) ?_
  refine fa_c (gf_X6_2 w_198 dX6_way_1) ?_
  refine fa_c (s_li_n dX6_way_4 rfl) ?_
  refine fa_c (s_cv mo_X5_hasPlace co_X5 (by decide) (fun _ _ => ⟨_, rfl⟩) dX6_way_5 w_509 w_510 w_511 (by decide)) ?_
  refine fa_c (s_if_eq dX6_way_8 (by decide)) ?_
  refine fa_c (s_la_n dX6_way_11 rfl) ?_
  refine fa_c (gf_X6_2 w_198 dX6_way_12) ?_
  refine fa_c (s_li_n dX6_way_15 rfl) ?_
  refine fa_c (s_cv mo_X5_hasPlace co_X5 (by decide) (fun _ _ => ⟨_, rfl⟩) dX6_way_16 w_509 w_510 w_511 (by decide)) ?_
  refine fa_c (s_if_ne dX6_way_19 (by decide)) ?_
  refine fa_c (s_ldc dX6_way_22 w_242) ?_
  refine fa_c (s_ri dX6_way_24 rfl) ?_
  refine fa_c (s_la_n dX6_way_25 rfl) ?_
  refine fa_c (gf_X6_2 w_198 dX6_way_26) ?_
  refine fa_c (s_li_n dX6_way_29 rfl) ?_
  refine fa_c (s_iconst dX6_way_30 (by decide)) ?_
  refine fa_c (s_cv mo_X5_grow co_X5 (by decide) (fun _ _ => ⟨_, rfl⟩) dX6_way_31 w_527 w_528 w_529 (by decide)) ?_
  refine fa_c (s_la_n dX6_way_34 rfl) ?_
  refine fa_c (gf_X6_2 w_198 dX6_way_35) ?_
  refine fa_c (s_li_n dX6_way_38 rfl) ?_
  refine fa_c (s_cv mo_X5_distanceTo co_X5 (by decide) (fun _ _ => ⟨_, rfl⟩) dX6_way_39 w_581 w_582 w_583 (by decide)) ?_
  refine fa_c (s_ri dX6_way_42 rfl) ?_
  exact fun e he => absurd he List.not_mem_nil
theorem cl_X6_way {G : GX} (hAp : Ap G) : Cl1 (Ct G mts) n_X6_way tb_X6_way := ct_cl (y := n_X6_way) (yn := yX6_way) rfl (by decide +kernel) (ok_X6_way hAp)
theorem dX6_ways_0 : decode cX6_ways 0 = .ok (.aload_n 0, 1) := by decide +kernel
theorem dX6_ways_1 : decode cX6_ways 1 = .ok (.getfield 28, 3) := by decide +kernel
theorem dX6_ways_4 : decode cX6_ways 4 = .ok (.iload_n 1, 1) := by decide +kernel
theorem dX6_ways_5 : decode cX6_ways 5 = .ok (.invokevirtual 178, 3) := by decide +kernel
theorem dX6_ways_8 : decode cX6_ways 8 = .ok (.ifCond .ne 6, 3) := by decide +kernel
theorem dX6_ways_11 : decode cX6_ways 11 = .ok (.ldc 67, 2) := by decide +kernel
theorem dX6_ways_13 : decode cX6_ways 13 = .ok (.ireturn, 1) := by decide +kernel
theorem dX6_ways_14 : decode cX6_ways 14 = .ok (.iload_n 2, 1) := by decide +kernel
theorem dX6_ways_15 : decode cX6_ways 15 = .ok (.iconst 0, 1) := by decide +kernel
theorem dX6_ways_16 : decode cX6_ways 16 = .ok (.iconst 3, 1) := by decide +kernel
theorem dX6_ways_17 : decode cX6_ways 17 = .ok (.invokestatic 46, 3) := by decide +kernel
theorem dX6_ways_20 : decode cX6_ways 20 = .ok (.ifCond .ne 6, 3) := by decide +kernel
theorem dX6_ways_23 : decode cX6_ways 23 = .ok (.ldc 54, 2) := by decide +kernel
theorem dX6_ways_25 : decode cX6_ways 25 = .ok (.ireturn, 1) := by decide +kernel
theorem dX6_ways_26 : decode cX6_ways 26 = .ok (.aload_n 0, 1) := by decide +kernel
theorem dX6_ways_27 : decode cX6_ways 27 = .ok (.getfield 28, 3) := by decide +kernel
theorem dX6_ways_30 : decode cX6_ways 30 = .ok (.iload_n 1, 1) := by decide +kernel
theorem dX6_ways_31 : decode cX6_ways 31 = .ok (.iconst 1, 1) := by decide +kernel
theorem dX6_ways_32 : decode cX6_ways 32 = .ok (.invokevirtual 184, 3) := by decide +kernel
theorem dX6_ways_35 : decode cX6_ways 35 = .ok (.iload_n 2, 1) := by decide +kernel
theorem dX6_ways_36 : decode cX6_ways 36 = .ok (.tableswitch 52 0 2 #[28, 36, 44], 28) := by decide +kernel
theorem dX6_ways_64 : decode cX6_ways 64 = .ok (.aload_n 0, 1) := by decide +kernel
theorem dX6_ways_65 : decode cX6_ways 65 = .ok (.getfield 28, 3) := by decide +kernel
theorem dX6_ways_68 : decode cX6_ways 68 = .ok (.invokevirtual 194, 3) := by decide +kernel
theorem dX6_ways_71 : decode cX6_ways 71 = .ok (.ireturn, 1) := by decide +kernel
theorem dX6_ways_72 : decode cX6_ways 72 = .ok (.aload_n 0, 1) := by decide +kernel
theorem dX6_ways_73 : decode cX6_ways 73 = .ok (.getfield 28, 3) := by decide +kernel
theorem dX6_ways_76 : decode cX6_ways 76 = .ok (.invokevirtual 195, 3) := by decide +kernel
theorem dX6_ways_79 : decode cX6_ways 79 = .ok (.ireturn, 1) := by decide +kernel
theorem dX6_ways_80 : decode cX6_ways 80 = .ok (.aload_n 0, 1) := by decide +kernel
theorem dX6_ways_81 : decode cX6_ways 81 = .ok (.getfield 28, 3) := by decide +kernel
theorem dX6_ways_84 : decode cX6_ways 84 = .ok (.invokevirtual 196, 3) := by decide +kernel
theorem dX6_ways_87 : decode cX6_ways 87 = .ok (.ireturn, 1) := by decide +kernel
theorem dX6_ways_88 : decode cX6_ways 88 = .ok (.aload_n 0, 1) := by decide +kernel
theorem dX6_ways_89 : decode cX6_ways 89 = .ok (.getfield 28, 3) := by decide +kernel
theorem dX6_ways_92 : decode cX6_ways 92 = .ok (.invokevirtual 202, 3) := by decide +kernel
theorem dX6_ways_95 : decode cX6_ways 95 = .ok (.ireturn, 1) := by decide +kernel
set_option maxRecDepth 100000 in
theorem ok_X6_ways {G : GX} (hAp : Ap G) : ∀ d, ∀ e ∈ tb_X6_ways, Snd G mts yX6_ways.cls cX6_ways 3 (some .int) d none e.1 e.2 := by
  intro d
  unfold tb_X6_ways
  refine fa_c (s_la_n dX6_ways_0 rfl) ?_
  refine fa_c (gf_X6_2 w_198 dX6_ways_1) ?_
  refine fa_c (s_li_n dX6_ways_4 rfl) ?_
  refine fa_c (s_cv mo_X5_hasPlace co_X5 (by decide) (fun _ _ => ⟨_, rfl⟩) dX6_ways_5 w_509 w_510 w_511 (by decide)) ?_
  refine fa_c (s_if_ne dX6_ways_8 (by decide)) ?_
  refine fa_c (s_ldc dX6_ways_11 w_242) ?_
  refine fa_c (s_ri dX6_ways_13 rfl) ?_
  refine fa_c (s_li_n dX6_ways_14 rfl) ?_
  refine fa_c (s_iconst dX6_ways_15 (by decide)) ?_
  refine fa_c (s_iconst dX6_ways_16 (by decide)) ?_
  refine fa_c (s_cs mo_X6_between dX6_ways_17 w_216 w_217 (by decide)) ?_
  refine fa_c (s_if_ne dX6_ways_20 (by decide)) ?_
  refine fa_c (s_ldc dX6_ways_23 w_222) ?_
  refine fa_c (s_ri dX6_ways_25 rfl) ?_
  refine fa_c (s_la_n dX6_ways_26 rfl) ?_
  refine fa_c (gf_X6_2 w_198 dX6_ways_27) ?_
  refine fa_c (s_li_n dX6_ways_30 rfl) ?_
  refine fa_c (s_iconst dX6_ways_31 (by decide)) ?_
  refine fa_c (s_cv mo_X5_grow co_X5 (by decide) (fun _ _ => ⟨_, rfl⟩) dX6_ways_32 w_527 w_528 w_529 (by decide)) ?_
  refine fa_c (s_li_n dX6_ways_35 rfl) ?_
  refine fa_c (s_sw (n := 3) dX6_ways_36 (by decide) (by decide +kernel) (by decide) (by decide +kernel)) ?_
  refine fa_c (s_la_n dX6_ways_64 rfl) ?_
  refine fa_c (gf_X6_2 w_198 dX6_ways_65) ?_
  refine fa_c (s_cv mo_X5_links co_X5 (by decide) (fun _ _ => ⟨_, rfl⟩) dX6_ways_68 w_563 w_564 w_565 (by decide)) ?_
  refine fa_c (s_ri dX6_ways_71 rfl) ?_
  refine fa_c (s_la_n dX6_ways_72 rfl) ?_
  refine fa_c (gf_X6_2 w_198 dX6_ways_73) ?_
  refine fa_c (s_cv mo_X5_cuts co_X5 (by decide) (fun _ _ => ⟨_, rfl⟩) dX6_ways_76 w_568 w_569 w_570 (by decide)) ?_
  refine fa_c (s_ri dX6_ways_79 rfl) ?_
  refine fa_c (s_la_n dX6_ways_80 rfl) ?_
  refine fa_c (gf_X6_2 w_198 dX6_ways_81) ?_
  refine fa_c (s_cv mo_X5_lowerings co_X5 (by decide) (fun _ _ => ⟨_, rfl⟩) dX6_ways_84 w_573 w_574 w_575 (by decide)) ?_
  refine fa_c (s_ri dX6_ways_87 rfl) ?_
  refine fa_c (s_la_n dX6_ways_88 rfl) ?_
  refine fa_c (gf_X6_2 w_198 dX6_ways_89) ?_
  refine fa_c (s_cv mo_X5_reachedCount co_X5 (by decide) (fun _ _ => ⟨_, rfl⟩) dX6_ways_92 w_589 w_590 w_591 (by decide)) ?_
  refine fa_c (s_ri dX6_ways_95 rfl) ?_
  exact fun e he => absurd he List.not_mem_nil
theorem cl_X6_ways {G : GX} (hAp : Ap G) : Cl1 (Ct G mts) n_X6_ways tb_X6_ways := ct_cl (y := n_X6_ways) (yn := yX6_ways) rfl (by decide +kernel) (ok_X6_ways hAp)
theorem dX6_keep_0 : decode cX6_keep 0 = .ok (.iload_n 1, 1) := by decide +kernel
theorem dX6_keep_1 : decode cX6_keep 1 = .ok (.iconst 0, 1) := by decide +kernel
theorem dX6_keep_2 : decode cX6_keep 2 = .ok (.iconst 1, 1) := by decide +kernel
theorem dX6_keep_3 : decode cX6_keep 3 = .ok (.invokestatic 46, 3) := by decide +kernel
theorem dX6_keep_6 : decode cX6_keep 6 = .ok (.ifCond .ne 6, 3) := by decide +kernel
theorem dX6_keep_9 : decode cX6_keep 9 = .ok (.ldc 67, 2) := by decide +kernel
theorem dX6_keep_11 : decode cX6_keep 11 = .ok (.ireturn, 1) := by decide +kernel
theorem dX6_keep_12 : decode cX6_keep 12 = .ok (.aload_n 0, 1) := by decide +kernel
theorem dX6_keep_13 : decode cX6_keep 13 = .ok (.getfield 41, 3) := by decide +kernel
theorem dX6_keep_16 : decode cX6_keep 16 = .ok (.iload_n 1, 1) := by decide +kernel
theorem dX6_keep_17 : decode cX6_keep 17 = .ok (.aaload, 1) := by decide +kernel
theorem dX6_keep_18 : decode cX6_keep 18 = .ok (.aload_n 0, 1) := by decide +kernel
theorem dX6_keep_19 : decode cX6_keep 19 = .ok (.getfield 14, 3) := by decide +kernel
theorem dX6_keep_22 : decode cX6_keep 22 = .ok (.aload_n 0, 1) := by decide +kernel
theorem dX6_keep_23 : decode cX6_keep 23 = .ok (.getfield 21, 3) := by decide +kernel
theorem dX6_keep_26 : decode cX6_keep 26 = .ok (.invokevirtual 205, 3) := by decide +kernel
theorem dX6_keep_29 : decode cX6_keep 29 = .ok (.aload_n 0, 1) := by decide +kernel
theorem dX6_keep_30 : decode cX6_keep 30 = .ok (.getfield 14, 3) := by decide +kernel
theorem dX6_keep_33 : decode cX6_keep 33 = .ok (.invokevirtual 100, 3) := by decide +kernel
theorem dX6_keep_36 : decode cX6_keep 36 = .ok (.ireturn, 1) := by decide +kernel
set_option maxRecDepth 100000 in
theorem ok_X6_keep {G : GX} (hAp : Ap G) : ∀ d, ∀ e ∈ tb_X6_keep, Snd G mts yX6_keep.cls cX6_keep 2 (some .int) d none e.1 e.2 := by
  intro d
  unfold tb_X6_keep
  refine fa_c (s_li_n dX6_keep_0 rfl) ?_
  refine fa_c (s_iconst dX6_keep_1 (by decide)) ?_
  refine fa_c (s_iconst dX6_keep_2 (by decide)) ?_
  refine fa_c (s_cs mo_X6_between dX6_keep_3 w_216 w_217 (by decide)) ?_
  refine fa_c (s_if_ne dX6_keep_6 (by decide)) ?_
  refine fa_c (s_ldc dX6_keep_9 w_242) ?_
  refine fa_c (s_ri dX6_keep_11 rfl) ?_
  refine fa_c (s_la_n dX6_keep_12 rfl) ?_
  refine fa_c (gf_X6_4 w_200 dX6_keep_13) ?_
  refine fa_c (s_li_n dX6_keep_16 rfl) ?_
  refine fa_c (s_aa dX6_keep_17) ?_
  refine fa_c (s_la_n dX6_keep_18 rfl) ?_
  refine fa_c (gf_X6_0 w_196 dX6_keep_19) ?_
  refine fa_c (s_la_n dX6_keep_22 rfl) ?_
  refine fa_c (gf_X6_1 w_197 dX6_keep_23) ?_
  refine fa_c (s_cv mo_X3_store co_X3 (by decide) (fun _ _ => ⟨_, rfl⟩) dX6_keep_26 w_597 w_598 w_599 (by decide)) ?_
  refine fa_c (s_la_n dX6_keep_29 rfl) ?_
  refine fa_c (gf_X6_0 w_196 dX6_keep_30) ?_
  refine fa_c (s_cv mo_X2_count co_X2 (by decide) (fun _ _ => ⟨_, rfl⟩) dX6_keep_33 w_333 w_334 w_335 (by decide)) ?_
  refine fa_c (s_ri dX6_keep_36 rfl) ?_
  exact fun e he => absurd he List.not_mem_nil
theorem cl_X6_keep {G : GX} (hAp : Ap G) : Cl1 (Ct G mts) n_X6_keep tb_X6_keep := ct_cl (y := n_X6_keep) (yn := yX6_keep) rfl (by decide +kernel) (ok_X6_keep hAp)
theorem dX6_goBack_0 : decode cX6_goBack 0 = .ok (.iload_n 1, 1) := by decide +kernel
theorem dX6_goBack_1 : decode cX6_goBack 1 = .ok (.iconst 0, 1) := by decide +kernel
theorem dX6_goBack_2 : decode cX6_goBack 2 = .ok (.iconst 1, 1) := by decide +kernel
theorem dX6_goBack_3 : decode cX6_goBack 3 = .ok (.invokestatic 46, 3) := by decide +kernel
theorem dX6_goBack_6 : decode cX6_goBack 6 = .ok (.ifCond .ne 6, 3) := by decide +kernel
theorem dX6_goBack_9 : decode cX6_goBack 9 = .ok (.ldc 67, 2) := by decide +kernel
theorem dX6_goBack_11 : decode cX6_goBack 11 = .ok (.ireturn, 1) := by decide +kernel
theorem dX6_goBack_12 : decode cX6_goBack 12 = .ok (.aload_n 0, 1) := by decide +kernel
theorem dX6_goBack_13 : decode cX6_goBack 13 = .ok (.getfield 41, 3) := by decide +kernel
theorem dX6_goBack_16 : decode cX6_goBack 16 = .ok (.iload_n 1, 1) := by decide +kernel
theorem dX6_goBack_17 : decode cX6_goBack 17 = .ok (.aaload, 1) := by decide +kernel
theorem dX6_goBack_18 : decode cX6_goBack 18 = .ok (.invokevirtual 209, 3) := by decide +kernel
theorem dX6_goBack_21 : decode cX6_goBack 21 = .ok (.ifCond .ne 6, 3) := by decide +kernel
theorem dX6_goBack_24 : decode cX6_goBack 24 = .ok (.ldc 75, 2) := by decide +kernel
theorem dX6_goBack_26 : decode cX6_goBack 26 = .ok (.ireturn, 1) := by decide +kernel
theorem dX6_goBack_27 : decode cX6_goBack 27 = .ok (.aload_n 0, 1) := by decide +kernel
theorem dX6_goBack_28 : decode cX6_goBack 28 = .ok (.getfield 41, 3) := by decide +kernel
theorem dX6_goBack_31 : decode cX6_goBack 31 = .ok (.iload_n 1, 1) := by decide +kernel
theorem dX6_goBack_32 : decode cX6_goBack 32 = .ok (.aaload, 1) := by decide +kernel
theorem dX6_goBack_33 : decode cX6_goBack 33 = .ok (.aload_n 0, 1) := by decide +kernel
theorem dX6_goBack_34 : decode cX6_goBack 34 = .ok (.getfield 14, 3) := by decide +kernel
theorem dX6_goBack_37 : decode cX6_goBack 37 = .ok (.aload_n 0, 1) := by decide +kernel
theorem dX6_goBack_38 : decode cX6_goBack 38 = .ok (.getfield 21, 3) := by decide +kernel
theorem dX6_goBack_41 : decode cX6_goBack 41 = .ok (.invokevirtual 212, 3) := by decide +kernel
theorem dX6_goBack_44 : decode cX6_goBack 44 = .ok (.aload_n 0, 1) := by decide +kernel
theorem dX6_goBack_45 : decode cX6_goBack 45 = .ok (.getfield 14, 3) := by decide +kernel
theorem dX6_goBack_48 : decode cX6_goBack 48 = .ok (.invokevirtual 100, 3) := by decide +kernel
theorem dX6_goBack_51 : decode cX6_goBack 51 = .ok (.ireturn, 1) := by decide +kernel
set_option maxRecDepth 100000 in
theorem ok_X6_goBack {G : GX} (hAp : Ap G) : ∀ d, ∀ e ∈ tb_X6_goBack, Snd G mts yX6_goBack.cls cX6_goBack 2 (some .int) d none e.1 e.2 := by
  intro d
  unfold tb_X6_goBack
  refine fa_c (s_li_n dX6_goBack_0 rfl) ?_
  refine fa_c (s_iconst dX6_goBack_1 (by decide)) ?_
  refine fa_c (s_iconst dX6_goBack_2 (by decide)) ?_
  refine fa_c (s_cs mo_X6_between dX6_goBack_3 w_216 w_217 (by decide)) ?_
  refine fa_c (s_if_ne dX6_goBack_6 (by decide)) ?_
  refine fa_c (s_ldc dX6_goBack_9 w_242) ?_
  refine fa_c (s_ri dX6_goBack_11 rfl) ?_
  refine fa_c (s_la_n dX6_goBack_12 rfl) ?_
  refine fa_c (gf_X6_4 w_200 dX6_goBack_13) ?_
  refine fa_c (s_li_n dX6_goBack_16 rfl) ?_
  refine fa_c (s_aa dX6_goBack_17) ?_
  refine fa_c (s_cv mo_X3_isKept co_X3 (by decide) (fun _ _ => ⟨_, rfl⟩) dX6_goBack_18 w_619 w_620 w_621 (by decide)) ?_
  refine fa_c (s_if_ne dX6_goBack_21 (by decide)) ?_
  refine fa_c (s_ldc dX6_goBack_24 w_251) ?_
  refine fa_c (s_ri dX6_goBack_26 rfl) ?_
  refine fa_c (s_la_n dX6_goBack_27 rfl) ?_
  refine fa_c (gf_X6_4 w_200 dX6_goBack_28) ?_
  refine fa_c (s_li_n dX6_goBack_31 rfl) ?_
  refine fa_c (s_aa dX6_goBack_32) ?_
  refine fa_c (s_la_n dX6_goBack_33 rfl) ?_
  refine fa_c (gf_X6_0 w_196 dX6_goBack_34) ?_
  refine fa_c (s_la_n dX6_goBack_37 rfl) ?_
  refine fa_c (gf_X6_1 w_197 dX6_goBack_38) ?_
  refine fa_c (s_cv mo_X3_restore co_X3 (by decide) (fun _ _ => ⟨_, rfl⟩) dX6_goBack_41 w_623 w_624 w_625 (by decide)) ?_
  refine fa_c (s_la_n dX6_goBack_44 rfl) ?_
  refine fa_c (gf_X6_0 w_196 dX6_goBack_45) ?_
  refine fa_c (s_cv mo_X2_count co_X2 (by decide) (fun _ _ => ⟨_, rfl⟩) dX6_goBack_48 w_333 w_334 w_335 (by decide)) ?_
  refine fa_c (s_ri dX6_goBack_51 rfl) ?_
  exact fun e he => absurd he List.not_mem_nil
theorem cl_X6_goBack {G : GX} (hAp : Ap G) : Cl1 (Ct G mts) n_X6_goBack tb_X6_goBack := ct_cl (y := n_X6_goBack) (yn := yX6_goBack) rfl (by decide +kernel) (ok_X6_goBack hAp)
theorem dX6_driftOnce_0 : decode cX6_driftOnce 0 = .ok (.aload_n 0, 1) := by decide +kernel
theorem dX6_driftOnce_1 : decode cX6_driftOnce 1 = .ok (.getfield 35, 3) := by decide +kernel
theorem dX6_driftOnce_4 : decode cX6_driftOnce 4 = .ok (.iconst 4, 1) := by decide +kernel
theorem dX6_driftOnce_5 : decode cX6_driftOnce 5 = .ok (.invokevirtual 215, 3) := by decide +kernel
theorem dX6_driftOnce_8 : decode cX6_driftOnce 8 = .ok (.istore_n 1, 1) := by decide +kernel
theorem dX6_driftOnce_9 : decode cX6_driftOnce 9 = .ok (.iload_n 1, 1) := by decide +kernel
theorem dX6_driftOnce_10 : decode cX6_driftOnce 10 = .ok (.iconst 2, 1) := by decide +kernel
theorem dX6_driftOnce_11 : decode cX6_driftOnce 11 = .ok (.if_icmp .ge 10, 3) := by decide +kernel
theorem dX6_driftOnce_14 : decode cX6_driftOnce 14 = .ok (.aload_n 0, 1) := by decide +kernel
theorem dX6_driftOnce_15 : decode cX6_driftOnce 15 = .ok (.invokevirtual 218, 3) := by decide +kernel
theorem dX6_driftOnce_18 : decode cX6_driftOnce 18 = .ok (.goto 19, 3) := by decide +kernel
theorem dX6_driftOnce_21 : decode cX6_driftOnce 21 = .ok (.iload_n 1, 1) := by decide +kernel
theorem dX6_driftOnce_22 : decode cX6_driftOnce 22 = .ok (.iconst 2, 1) := by decide +kernel
theorem dX6_driftOnce_23 : decode cX6_driftOnce 23 = .ok (.if_icmp .ne 10, 3) := by decide +kernel
theorem dX6_driftOnce_26 : decode cX6_driftOnce 26 = .ok (.aload_n 0, 1) := by decide +kernel
theorem dX6_driftOnce_27 : decode cX6_driftOnce 27 = .ok (.invokevirtual 221, 3) := by decide +kernel
theorem dX6_driftOnce_30 : decode cX6_driftOnce 30 = .ok (.goto 7, 3) := by decide +kernel
theorem dX6_driftOnce_33 : decode cX6_driftOnce 33 = .ok (.aload_n 0, 1) := by decide +kernel
theorem dX6_driftOnce_34 : decode cX6_driftOnce 34 = .ok (.invokevirtual 224, 3) := by decide +kernel
theorem dX6_driftOnce_37 : decode cX6_driftOnce 37 = .ok (.return_, 1) := by decide +kernel
set_option maxRecDepth 100000 in
theorem ok_X6_driftOnce {G : GX} (hAp : Ap G) : ∀ d, ∀ e ∈ tb_X6_driftOnce, Snd G mts yX6_driftOnce.cls cX6_driftOnce 2 (none) d none e.1 e.2 := by
  intro d
  unfold tb_X6_driftOnce
  refine fa_c (s_la_n dX6_driftOnce_0 rfl) ?_
  refine fa_c (gf_X6_3 w_199 dX6_driftOnce_1) ?_
  refine fa_c (s_iconst dX6_driftOnce_4 (by decide)) ?_
  refine fa_c (s_cv mo_X4_draw co_X4 (by decide) (fun _ _ => ⟨_, rfl⟩) dX6_driftOnce_5 w_358 w_359 w_360 (by decide)) ?_
  refine fa_c (s_st_n dX6_driftOnce_8 rfl (by decide)) ?_
  refine fa_c (s_li_n dX6_driftOnce_9 rfl) ?_
  refine fa_c (s_iconst dX6_driftOnce_10 (by decide)) ?_
  refine fa_c (s_ic_ge dX6_driftOnce_11 (by decide)) ?_
  refine fa_c (s_la_n dX6_driftOnce_14 rfl) ?_
  refine fa_c (s_cv mo_X6_putByLots co_X6 (by decide) (fun _ _ => ⟨_, rfl⟩) dX6_driftOnce_15 w_364 w_366 w_10 (by decide)) ?_
  refine fa_c (s_go dX6_driftOnce_18 (by decide)) ?_
  refine fa_c (s_li_n dX6_driftOnce_21 rfl) ?_
  refine fa_c (s_iconst dX6_driftOnce_22 (by decide)) ?_
  refine fa_c (s_ic_ne dX6_driftOnce_23 (by decide)) ?_
  refine fa_c (s_la_n dX6_driftOnce_26 rfl) ?_
  refine fa_c (s_cv mo_X6_lowerByLots co_X6 (by decide) (fun _ _ => ⟨_, rfl⟩) dX6_driftOnce_27 w_368 w_370 w_11 (by decide)) ?_
  refine fa_c (s_go dX6_driftOnce_30 (by decide)) ?_
  refine fa_c (s_la_n dX6_driftOnce_33 rfl) ?_
  refine fa_c (s_cv mo_X6_takeByLots co_X6 (by decide) (fun _ _ => ⟨_, rfl⟩) dX6_driftOnce_34 w_376 w_378 w_12 (by decide)) ?_
  refine fa_c (s_rv dX6_driftOnce_37 rfl) ?_
  exact fun e he => absurd he List.not_mem_nil
theorem cl_X6_driftOnce {G : GX} (hAp : Ap G) : Cl1 (Ct G mts) n_X6_driftOnce tb_X6_driftOnce := ct_cl (y := n_X6_driftOnce) (yn := yX6_driftOnce) rfl (by decide +kernel) (ok_X6_driftOnce hAp)
theorem dX6_putByLots_0 : decode cX6_putByLots 0 = .ok (.aload_n 0, 1) := by decide +kernel
theorem dX6_putByLots_1 : decode cX6_putByLots 1 = .ok (.getfield 14, 3) := by decide +kernel
theorem dX6_putByLots_4 : decode cX6_putByLots 4 = .ok (.invokevirtual 55, 3) := by decide +kernel
theorem dX6_putByLots_7 : decode cX6_putByLots 7 = .ok (.ifCond .eq 33, 3) := by decide +kernel
theorem dX6_putByLots_10 : decode cX6_putByLots 10 = .ok (.aload_n 0, 1) := by decide +kernel
theorem dX6_putByLots_11 : decode cX6_putByLots 11 = .ok (.getfield 35, 3) := by decide +kernel
theorem dX6_putByLots_14 : decode cX6_putByLots 14 = .ok (.iconst 2, 1) := by decide +kernel
theorem dX6_putByLots_15 : decode cX6_putByLots 15 = .ok (.invokevirtual 215, 3) := by decide +kernel
theorem dX6_putByLots_18 : decode cX6_putByLots 18 = .ok (.istore_n 1, 1) := by decide +kernel
theorem dX6_putByLots_19 : decode cX6_putByLots 19 = .ok (.aload_n 0, 1) := by decide +kernel
theorem dX6_putByLots_20 : decode cX6_putByLots 20 = .ok (.getfield 35, 3) := by decide +kernel
theorem dX6_putByLots_23 : decode cX6_putByLots 23 = .ok (.sipush 1000, 3) := by decide +kernel
theorem dX6_putByLots_26 : decode cX6_putByLots 26 = .ok (.invokevirtual 215, 3) := by decide +kernel
theorem dX6_putByLots_29 : decode cX6_putByLots 29 = .ok (.istore_n 2, 1) := by decide +kernel
theorem dX6_putByLots_30 : decode cX6_putByLots 30 = .ok (.aload_n 0, 1) := by decide +kernel
theorem dX6_putByLots_31 : decode cX6_putByLots 31 = .ok (.getfield 14, 3) := by decide +kernel
theorem dX6_putByLots_34 : decode cX6_putByLots 34 = .ok (.iload_n 1, 1) := by decide +kernel
theorem dX6_putByLots_35 : decode cX6_putByLots 35 = .ok (.iload_n 2, 1) := by decide +kernel
theorem dX6_putByLots_36 : decode cX6_putByLots 36 = .ok (.invokevirtual 60, 3) := by decide +kernel
theorem dX6_putByLots_39 : decode cX6_putByLots 39 = .ok (.pop, 1) := by decide +kernel
theorem dX6_putByLots_40 : decode cX6_putByLots 40 = .ok (.return_, 1) := by decide +kernel
set_option maxRecDepth 100000 in
theorem ok_X6_putByLots {G : GX} (hAp : Ap G) : ∀ d, ∀ e ∈ tb_X6_putByLots, Snd G mts yX6_putByLots.cls cX6_putByLots 3 (none) d none e.1 e.2 := by
  intro d
  unfold tb_X6_putByLots
  refine fa_c (s_la_n dX6_putByLots_0 rfl) ?_
  refine fa_c (gf_X6_0 w_196 dX6_putByLots_1) ?_
  refine fa_c (s_cv mo_X2_hasRoom co_X2 (by decide) (fun _ _ => ⟨_, rfl⟩) dX6_putByLots_4 w_223 w_224 w_225 (by decide)) ?_
  refine fa_c (s_if_eq dX6_putByLots_7 (by decide)) ?_
  refine fa_c (s_la_n dX6_putByLots_10 rfl) ?_
  refine fa_c (gf_X6_3 w_199 dX6_putByLots_11) ?_
  refine fa_c (s_iconst dX6_putByLots_14 (by decide)) ?_
  refine fa_c (s_cv mo_X4_draw co_X4 (by decide) (fun _ _ => ⟨_, rfl⟩) dX6_putByLots_15 w_358 w_359 w_360 (by decide)) ?_
  refine fa_c (s_st_n dX6_putByLots_18 rfl (by decide)) ?_
  refine fa_c (s_la_n dX6_putByLots_19 rfl) ?_
  refine fa_c (gf_X6_3 w_199 dX6_putByLots_20) ?_
  refine fa_c (s_sipush dX6_putByLots_23 (by decide)) ?_
  refine fa_c (s_cv mo_X4_draw co_X4 (by decide) (fun _ _ => ⟨_, rfl⟩) dX6_putByLots_26 w_358 w_359 w_360 (by decide)) ?_
  refine fa_c (s_st_n dX6_putByLots_29 rfl (by decide)) ?_
  refine fa_c (s_la_n dX6_putByLots_30 rfl) ?_
  refine fa_c (gf_X6_0 w_196 dX6_putByLots_31) ?_
  refine fa_c (s_li_n dX6_putByLots_34 rfl) ?_
  refine fa_c (s_li_n dX6_putByLots_35 rfl) ?_
  refine fa_c (s_cv mo_X2_add co_X2 (by decide) (fun _ _ => ⟨_, rfl⟩) dX6_putByLots_36 w_228 w_229 w_230 (by decide)) ?_
  refine fa_c (s_i_pop dX6_putByLots_39) ?_
  refine fa_c (s_rv dX6_putByLots_40 rfl) ?_
  exact fun e he => absurd he List.not_mem_nil
theorem cl_X6_putByLots {G : GX} (hAp : Ap G) : Cl1 (Ct G mts) n_X6_putByLots tb_X6_putByLots := ct_cl (y := n_X6_putByLots) (yn := yX6_putByLots) rfl (by decide +kernel) (ok_X6_putByLots hAp)
theorem dX6_lowerByLots_0 : decode cX6_lowerByLots 0 = .ok (.aload_n 0, 1) := by decide +kernel
theorem dX6_lowerByLots_1 : decode cX6_lowerByLots 1 = .ok (.getfield 14, 3) := by decide +kernel
theorem dX6_lowerByLots_4 : decode cX6_lowerByLots 4 = .ok (.invokevirtual 94, 3) := by decide +kernel
theorem dX6_lowerByLots_7 : decode cX6_lowerByLots 7 = .ok (.istore_n 1, 1) := by decide +kernel
theorem dX6_lowerByLots_8 : decode cX6_lowerByLots 8 = .ok (.iload_n 1, 1) := by decide +kernel
theorem dX6_lowerByLots_9 : decode cX6_lowerByLots 9 = .ok (.ifCond .le 72, 3) := by decide +kernel
theorem dX6_lowerByLots_12 : decode cX6_lowerByLots 12 = .ok (.aload_n 0, 1) := by decide +kernel
theorem dX6_lowerByLots_13 : decode cX6_lowerByLots 13 = .ok (.getfield 14, 3) := by decide +kernel
theorem dX6_lowerByLots_16 : decode cX6_lowerByLots 16 = .ok (.aload_n 0, 1) := by decide +kernel
theorem dX6_lowerByLots_17 : decode cX6_lowerByLots 17 = .ok (.getfield 35, 3) := by decide +kernel
theorem dX6_lowerByLots_20 : decode cX6_lowerByLots 20 = .ok (.iload_n 1, 1) := by decide +kernel
theorem dX6_lowerByLots_21 : decode cX6_lowerByLots 21 = .ok (.invokevirtual 215, 3) := by decide +kernel
theorem dX6_lowerByLots_24 : decode cX6_lowerByLots 24 = .ok (.invokevirtual 227, 3) := by decide +kernel
theorem dX6_lowerByLots_27 : decode cX6_lowerByLots 27 = .ok (.istore_n 2, 1) := by decide +kernel
theorem dX6_lowerByLots_28 : decode cX6_lowerByLots 28 = .ok (.aload_n 0, 1) := by decide +kernel
theorem dX6_lowerByLots_29 : decode cX6_lowerByLots 29 = .ok (.getfield 35, 3) := by decide +kernel
theorem dX6_lowerByLots_32 : decode cX6_lowerByLots 32 = .ok (.bipush 100, 2) := by decide +kernel
theorem dX6_lowerByLots_34 : decode cX6_lowerByLots 34 = .ok (.invokevirtual 215, 3) := by decide +kernel
theorem dX6_lowerByLots_37 : decode cX6_lowerByLots 37 = .ok (.istore_n 3, 1) := by decide +kernel
theorem dX6_lowerByLots_38 : decode cX6_lowerByLots 38 = .ok (.iload_n 2, 1) := by decide +kernel
theorem dX6_lowerByLots_39 : decode cX6_lowerByLots 39 = .ok (.iconst (-1), 1) := by decide +kernel
theorem dX6_lowerByLots_40 : decode cX6_lowerByLots 40 = .ok (.if_icmp .eq 41, 3) := by decide +kernel
theorem dX6_lowerByLots_43 : decode cX6_lowerByLots 43 = .ok (.iload_n 3, 1) := by decide +kernel
theorem dX6_lowerByLots_44 : decode cX6_lowerByLots 44 = .ok (.ifCond .le 37, 3) := by decide +kernel
theorem dX6_lowerByLots_47 : decode cX6_lowerByLots 47 = .ok (.aload_n 0, 1) := by decide +kernel
theorem dX6_lowerByLots_48 : decode cX6_lowerByLots 48 = .ok (.getfield 14, 3) := by decide +kernel
theorem dX6_lowerByLots_51 : decode cX6_lowerByLots 51 = .ok (.iload_n 2, 1) := by decide +kernel
theorem dX6_lowerByLots_52 : decode cX6_lowerByLots 52 = .ok (.invokevirtual 71, 3) := by decide +kernel
theorem dX6_lowerByLots_55 : decode cX6_lowerByLots 55 = .ok (.iload_n 3, 1) := by decide +kernel
theorem dX6_lowerByLots_56 : decode cX6_lowerByLots 56 = .ok (.isub, 1) := by decide +kernel
theorem dX6_lowerByLots_57 : decode cX6_lowerByLots 57 = .ok (.invokestatic 50, 3) := by decide +kernel
theorem dX6_lowerByLots_60 : decode cX6_lowerByLots 60 = .ok (.ifCond .eq 21, 3) := by decide +kernel
theorem dX6_lowerByLots_63 : decode cX6_lowerByLots 63 = .ok (.aload_n 0, 1) := by decide +kernel
theorem dX6_lowerByLots_64 : decode cX6_lowerByLots 64 = .ok (.getfield 14, 3) := by decide +kernel
theorem dX6_lowerByLots_67 : decode cX6_lowerByLots 67 = .ok (.iload_n 2, 1) := by decide +kernel
theorem dX6_lowerByLots_68 : decode cX6_lowerByLots 68 = .ok (.aload_n 0, 1) := by decide +kernel
theorem dX6_lowerByLots_69 : decode cX6_lowerByLots 69 = .ok (.getfield 14, 3) := by decide +kernel
theorem dX6_lowerByLots_72 : decode cX6_lowerByLots 72 = .ok (.iload_n 2, 1) := by decide +kernel
theorem dX6_lowerByLots_73 : decode cX6_lowerByLots 73 = .ok (.invokevirtual 71, 3) := by decide +kernel
theorem dX6_lowerByLots_76 : decode cX6_lowerByLots 76 = .ok (.iload_n 3, 1) := by decide +kernel
theorem dX6_lowerByLots_77 : decode cX6_lowerByLots 77 = .ok (.isub, 1) := by decide +kernel
theorem dX6_lowerByLots_78 : decode cX6_lowerByLots 78 = .ok (.invokevirtual 76, 3) := by decide +kernel
theorem dX6_lowerByLots_81 : decode cX6_lowerByLots 81 = .ok (.return_, 1) := by decide +kernel
set_option maxRecDepth 100000 in
theorem ok_X6_lowerByLots {G : GX} (hAp : Ap G) : ∀ d, ∀ e ∈ tb_X6_lowerByLots, Snd G mts yX6_lowerByLots.cls cX6_lowerByLots 4 (none) d none e.1 e.2 := by
  intro d
  unfold tb_X6_lowerByLots
  refine fa_c (s_la_n dX6_lowerByLots_0 rfl) ?_
  refine fa_c (gf_X6_0 w_196 dX6_lowerByLots_1) ?_
  refine fa_c (s_cv mo_X2_standingCount co_X2 (by decide) (fun _ _ => ⟨_, rfl⟩) dX6_lowerByLots_4 w_320 w_321 w_322 (by decide)) ?_
  refine fa_c (s_st_n dX6_lowerByLots_7 rfl (by decide)) ?_
  refine fa_c (s_li_n dX6_lowerByLots_8 rfl) ?_
  refine fa_c (s_if_le dX6_lowerByLots_9 (by decide)) ?_
  refine fa_c (s_la_n dX6_lowerByLots_12 rfl) ?_
  refine fa_c (gf_X6_0 w_196 dX6_lowerByLots_13) ?_
  refine fa_c (s_la_n dX6_lowerByLots_16 rfl) ?_
  refine fa_c (gf_X6_3 w_199 dX6_lowerByLots_17) ?_
  refine fa_c (s_li_n dX6_lowerByLots_20 rfl) ?_
  refine fa_c (s_cv mo_X4_draw co_X4 (by decide) (fun _ _ => ⟨_, rfl⟩) dX6_lowerByLots_21 w_358 w_359 w_360 (by decide)) ?_
  refine fa_c (s_cv mo_X2_standingAt co_X2 (by decide) (fun _ _ => ⟨_, rfl⟩) dX6_lowerByLots_24 w_372 w_373 w_374 (by decide)) ?_
  refine fa_c (s_st_n dX6_lowerByLots_27 rfl (by decide)) ?_
  refine fa_c (s_la_n dX6_lowerByLots_28 rfl) ?_
  refine fa_c (gf_X6_3 w_199 dX6_lowerByLots_29) ?_
  refine fa_c (s_bipush dX6_lowerByLots_32 (by decide)) ?_
  refine fa_c (s_cv mo_X4_draw co_X4 (by decide) (fun _ _ => ⟨_, rfl⟩) dX6_lowerByLots_34 w_358 w_359 w_360 (by decide)) ?_
  refine fa_c (s_st_n dX6_lowerByLots_37 rfl (by decide)) ?_
  refine fa_c (s_li_n dX6_lowerByLots_38 rfl) ?_
  refine fa_c (s_iconst dX6_lowerByLots_39 (by decide)) ?_
  refine fa_c (s_ic_eq dX6_lowerByLots_40 (by decide)) ?_
  refine fa_c (s_li_n dX6_lowerByLots_43 rfl) ?_
  refine fa_c (s_if_le dX6_lowerByLots_44 (by decide)) ?_
  refine fa_c (s_la_n dX6_lowerByLots_47 rfl) ?_
  refine fa_c (gf_X6_0 w_196 dX6_lowerByLots_48) ?_
  refine fa_c (s_li_n dX6_lowerByLots_51 rfl) ?_
  refine fa_c (s_cv mo_X2_keyOf co_X2 (by decide) (fun _ _ => ⟨_, rfl⟩) dX6_lowerByLots_52 w_247 w_248 w_249 (by decide)) ?_
  refine fa_c (s_li_n dX6_lowerByLots_55 rfl) ?_
  refine fa_c (s_i_sub dX6_lowerByLots_56) ?_
  refine fa_c (s_cs mo_X6_isKey dX6_lowerByLots_57 w_219 w_220 (by decide)) ?_
  refine fa_c (s_if_eq dX6_lowerByLots_60 (by decide)) ?_
  refine fa_c (s_la_n dX6_lowerByLots_63 rfl) ?_
  refine fa_c (gf_X6_0 w_196 dX6_lowerByLots_64) ?_
  refine fa_c (s_li_n dX6_lowerByLots_67 rfl) ?_
  refine fa_c (s_la_n dX6_lowerByLots_68 rfl) ?_
  refine fa_c (gf_X6_0 w_196 dX6_lowerByLots_69) ?_
  refine fa_c (s_li_n dX6_lowerByLots_72 rfl) ?_
  refine fa_c (s_cv mo_X2_keyOf co_X2 (by decide) (fun _ _ => ⟨_, rfl⟩) dX6_lowerByLots_73 w_247 w_248 w_249 (by decide)) ?_
  refine fa_c (s_li_n dX6_lowerByLots_76 rfl) ?_
  refine fa_c (s_i_sub dX6_lowerByLots_77) ?_
  refine fa_c (s_cv mo_X2_lowerTo co_X2 (by decide) (fun _ _ => ⟨_, rfl⟩) dX6_lowerByLots_78 w_252 w_253 w_254 (by decide)) ?_
  refine fa_c (s_rv dX6_lowerByLots_81 rfl) ?_
  exact fun e he => absurd he List.not_mem_nil
theorem cl_X6_lowerByLots {G : GX} (hAp : Ap G) : Cl1 (Ct G mts) n_X6_lowerByLots tb_X6_lowerByLots := ct_cl (y := n_X6_lowerByLots) (yn := yX6_lowerByLots) rfl (by decide +kernel) (ok_X6_lowerByLots hAp)
theorem dX6_takeByLots_0 : decode cX6_takeByLots 0 = .ok (.aload_n 0, 1) := by decide +kernel
theorem dX6_takeByLots_1 : decode cX6_takeByLots 1 = .ok (.getfield 14, 3) := by decide +kernel
theorem dX6_takeByLots_4 : decode cX6_takeByLots 4 = .ok (.invokevirtual 87, 3) := by decide +kernel
theorem dX6_takeByLots_7 : decode cX6_takeByLots 7 = .ok (.istore_n 1, 1) := by decide +kernel
theorem dX6_takeByLots_8 : decode cX6_takeByLots 8 = .ok (.iload_n 1, 1) := by decide +kernel
theorem dX6_takeByLots_9 : decode cX6_takeByLots 9 = .ok (.iconst (-1), 1) := by decide +kernel
theorem dX6_takeByLots_10 : decode cX6_takeByLots 10 = .ok (.if_icmp .eq 11, 3) := by decide +kernel
theorem dX6_takeByLots_13 : decode cX6_takeByLots 13 = .ok (.aload_n 0, 1) := by decide +kernel
theorem dX6_takeByLots_14 : decode cX6_takeByLots 14 = .ok (.getfield 14, 3) := by decide +kernel
theorem dX6_takeByLots_17 : decode cX6_takeByLots 17 = .ok (.iload_n 1, 1) := by decide +kernel
theorem dX6_takeByLots_18 : decode cX6_takeByLots 18 = .ok (.invokevirtual 91, 3) := by decide +kernel
theorem dX6_takeByLots_21 : decode cX6_takeByLots 21 = .ok (.return_, 1) := by decide +kernel
set_option maxRecDepth 100000 in
theorem ok_X6_takeByLots {G : GX} (hAp : Ap G) : ∀ d, ∀ e ∈ tb_X6_takeByLots, Snd G mts yX6_takeByLots.cls cX6_takeByLots 2 (none) d none e.1 e.2 := by
  intro d
  unfold tb_X6_takeByLots
  refine fa_c (s_la_n dX6_takeByLots_0 rfl) ?_
  refine fa_c (gf_X6_0 w_196 dX6_takeByLots_1) ?_
  refine fa_c (s_cv mo_X2_soonest co_X2 (by decide) (fun _ _ => ⟨_, rfl⟩) dX6_takeByLots_4 w_300 w_301 w_302 (by decide)) ?_
  refine fa_c (s_st_n dX6_takeByLots_7 rfl (by decide)) ?_
  refine fa_c (s_li_n dX6_takeByLots_8 rfl) ?_
  refine fa_c (s_iconst dX6_takeByLots_9 (by decide)) ?_
  refine fa_c (s_ic_eq dX6_takeByLots_10 (by decide)) ?_
  refine fa_c (s_la_n dX6_takeByLots_13 rfl) ?_
  refine fa_c (gf_X6_0 w_196 dX6_takeByLots_14) ?_
  refine fa_c (s_li_n dX6_takeByLots_17 rfl) ?_
  refine fa_c (s_cv mo_X2_takeOut co_X2 (by decide) (fun _ _ => ⟨_, rfl⟩) dX6_takeByLots_18 w_304 w_305 w_306 (by decide)) ?_
  refine fa_c (s_rv dX6_takeByLots_21 rfl) ?_
  exact fun e he => absurd he List.not_mem_nil
theorem cl_X6_takeByLots {G : GX} (hAp : Ap G) : Cl1 (Ct G mts) n_X6_takeByLots tb_X6_takeByLots := ct_cl (y := n_X6_takeByLots) (yn := yX6_takeByLots) rfl (by decide +kernel) (ok_X6_takeByLots hAp)
theorem dX6_between_0 : decode cX6_between 0 = .ok (.iload_n 0, 1) := by decide +kernel
theorem dX6_between_1 : decode cX6_between 1 = .ok (.iload_n 1, 1) := by decide +kernel
theorem dX6_between_2 : decode cX6_between 2 = .ok (.if_icmp .lt 12, 3) := by decide +kernel
theorem dX6_between_5 : decode cX6_between 5 = .ok (.iload_n 0, 1) := by decide +kernel
theorem dX6_between_6 : decode cX6_between 6 = .ok (.iload_n 2, 1) := by decide +kernel
theorem dX6_between_7 : decode cX6_between 7 = .ok (.if_icmp .gt 7, 3) := by decide +kernel
theorem dX6_between_10 : decode cX6_between 10 = .ok (.iconst 1, 1) := by decide +kernel
theorem dX6_between_11 : decode cX6_between 11 = .ok (.goto 4, 3) := by decide +kernel
theorem dX6_between_14 : decode cX6_between 14 = .ok (.iconst 0, 1) := by decide +kernel
theorem dX6_between_15 : decode cX6_between 15 = .ok (.ireturn, 1) := by decide +kernel
set_option maxRecDepth 100000 in
theorem ok_X6_between {G : GX} (hAp : Ap G) : ∀ d, ∀ e ∈ tb_X6_between, Snd G mts yX6_between.cls cX6_between 3 (some .boolean) d none e.1 e.2 := by
  intro d
  unfold tb_X6_between
  refine fa_c (s_li_n dX6_between_0 rfl) ?_
  refine fa_c (s_li_n dX6_between_1 rfl) ?_
  refine fa_c (s_ic_lt dX6_between_2 (by decide)) ?_
  refine fa_c (s_li_n dX6_between_5 rfl) ?_
  refine fa_c (s_li_n dX6_between_6 rfl) ?_
  refine fa_c (s_ic_gt dX6_between_7 (by decide)) ?_
  refine fa_c (s_iconst dX6_between_10 (by decide)) ?_
  refine fa_c (s_go dX6_between_11 (by decide)) ?_
  refine fa_c (s_iconst dX6_between_14 (by decide)) ?_
  refine fa_c (s_rz dX6_between_15 rfl) ?_
  exact fun e he => absurd he List.not_mem_nil
theorem cl_X6_between {G : GX} (hAp : Ap G) : Cl1 (Ct G mts) n_X6_between tb_X6_between := ct_cl (y := n_X6_between) (yn := yX6_between) rfl (by decide +kernel) (ok_X6_between hAp)
theorem dX6_isKey_0 : decode cX6_isKey 0 = .ok (.iload_n 0, 1) := by decide +kernel
theorem dX6_isKey_1 : decode cX6_isKey 1 = .ok (.sipush (-9999), 3) := by decide +kernel
theorem dX6_isKey_4 : decode cX6_isKey 4 = .ok (.sipush 9999, 3) := by decide +kernel
theorem dX6_isKey_7 : decode cX6_isKey 7 = .ok (.invokestatic 46, 3) := by decide +kernel
theorem dX6_isKey_10 : decode cX6_isKey 10 = .ok (.ireturn, 1) := by decide +kernel
set_option maxRecDepth 100000 in
theorem ok_X6_isKey {G : GX} (hAp : Ap G) : ∀ d, ∀ e ∈ tb_X6_isKey, Snd G mts yX6_isKey.cls cX6_isKey 1 (some .boolean) d none e.1 e.2 := by
  intro d
  unfold tb_X6_isKey
  refine fa_c (s_li_n dX6_isKey_0 rfl) ?_
  refine fa_c (s_sipush dX6_isKey_1 (by decide)) ?_
  refine fa_c (s_sipush dX6_isKey_4 (by decide)) ?_
  refine fa_c (s_cs mo_X6_between dX6_isKey_7 w_216 w_217 (by decide)) ?_
  refine fa_c (s_rz dX6_isKey_10 rfl) ?_
  exact fun e he => absurd he List.not_mem_nil
theorem cl_X6_isKey {G : GX} (hAp : Ap G) : Cl1 (Ct G mts) n_X6_isKey tb_X6_isKey := ct_cl (y := n_X6_isKey) (yn := yX6_isKey) rfl (by decide +kernel) (ok_X6_isKey hAp)
theorem dX6_flag_0 : decode cX6_flag 0 = .ok (.iload_n 0, 1) := by decide +kernel
theorem dX6_flag_1 : decode cX6_flag 1 = .ok (.ifCond .eq 7, 3) := by decide +kernel
theorem dX6_flag_4 : decode cX6_flag 4 = .ok (.iconst 1, 1) := by decide +kernel
theorem dX6_flag_5 : decode cX6_flag 5 = .ok (.goto 4, 3) := by decide +kernel
theorem dX6_flag_8 : decode cX6_flag 8 = .ok (.iconst 0, 1) := by decide +kernel
theorem dX6_flag_9 : decode cX6_flag 9 = .ok (.ireturn, 1) := by decide +kernel
set_option maxRecDepth 100000 in
theorem ok_X6_flag {G : GX} (hAp : Ap G) : ∀ d, ∀ e ∈ tb_X6_flag, Snd G mts yX6_flag.cls cX6_flag 1 (some .int) d none e.1 e.2 := by
  intro d
  unfold tb_X6_flag
  refine fa_c (s_li_n dX6_flag_0 rfl) ?_
  refine fa_c (s_if_eq dX6_flag_1 (by decide)) ?_
  refine fa_c (s_iconst dX6_flag_4 (by decide)) ?_
  refine fa_c (s_go dX6_flag_5 (by decide)) ?_
  refine fa_c (s_iconst dX6_flag_8 (by decide)) ?_
  refine fa_c (s_ri dX6_flag_9 rfl) ?_
  exact fun e he => absurd he List.not_mem_nil
theorem cl_X6_flag {G : GX} (hAp : Ap G) : Cl1 (Ct G mts) n_X6_flag tb_X6_flag := ct_cl (y := n_X6_flag) (yn := yX6_flag) rfl (by decide +kernel) (ok_X6_flag hAp)
theorem dX7_in_0 : decode cX7_in 0 = .ok (.iload_n 0, 1) := by decide +kernel
theorem dX7_in_1 : decode cX7_in 1 = .ok (.iload_n 1, 1) := by decide +kernel
theorem dX7_in_2 : decode cX7_in 2 = .ok (.if_icmp .lt 12, 3) := by decide +kernel
theorem dX7_in_5 : decode cX7_in 5 = .ok (.iload_n 0, 1) := by decide +kernel
theorem dX7_in_6 : decode cX7_in 6 = .ok (.iload_n 2, 1) := by decide +kernel
theorem dX7_in_7 : decode cX7_in 7 = .ok (.if_icmp .gt 7, 3) := by decide +kernel
theorem dX7_in_10 : decode cX7_in 10 = .ok (.iconst 1, 1) := by decide +kernel
theorem dX7_in_11 : decode cX7_in 11 = .ok (.goto 4, 3) := by decide +kernel
theorem dX7_in_14 : decode cX7_in 14 = .ok (.iconst 0, 1) := by decide +kernel
theorem dX7_in_15 : decode cX7_in 15 = .ok (.ireturn, 1) := by decide +kernel
set_option maxRecDepth 100000 in
theorem ok_X7_in {G : GX} (hAp : Ap G) : ∀ d, ∀ e ∈ tb_X7_in, Snd G mts yX7_in.cls cX7_in 3 (some .boolean) d none e.1 e.2 := by
  intro d
  unfold tb_X7_in
  refine fa_c (s_li_n dX7_in_0 rfl) ?_
  refine fa_c (s_li_n dX7_in_1 rfl) ?_
  refine fa_c (s_ic_lt dX7_in_2 (by decide)) ?_
  refine fa_c (s_li_n dX7_in_5 rfl) ?_
  refine fa_c (s_li_n dX7_in_6 rfl) ?_
  refine fa_c (s_ic_gt dX7_in_7 (by decide)) ?_
  refine fa_c (s_iconst dX7_in_10 (by decide)) ?_
  refine fa_c (s_go dX7_in_11 (by decide)) ?_
  refine fa_c (s_iconst dX7_in_14 (by decide)) ?_
  refine fa_c (s_rz dX7_in_15 rfl) ?_
  exact fun e he => absurd he List.not_mem_nil
theorem cl_X7_in {G : GX} (hAp : Ap G) : Cl1 (Ct G mts) n_X7_in tb_X7_in := ct_cl (y := n_X7_in) (yn := yX7_in) rfl (by decide +kernel) (ok_X7_in hAp)
theorem dX7_own_0 : decode cX7_own 0 = .ok (.aload_n 0, 1) := by decide +kernel
theorem dX7_own_1 : decode cX7_own 1 = .ok (.iconst 0, 1) := by decide +kernel
theorem dX7_own_2 : decode cX7_own 2 = .ok (.putfield 50, 3) := by decide +kernel
theorem dX7_own_5 : decode cX7_own 5 = .ok (.aload_n 0, 1) := by decide +kernel
theorem dX7_own_6 : decode cX7_own 6 = .ok (.aload_n 0, 1) := by decide +kernel
theorem dX7_own_7 : decode cX7_own 7 = .ok (.getfield 54, 3) := by decide +kernel
theorem dX7_own_10 : decode cX7_own 10 = .ok (.putfield 57, 3) := by decide +kernel
theorem dX7_own_13 : decode cX7_own 13 = .ok (.return_, 1) := by decide +kernel
set_option maxRecDepth 100000 in
theorem ok_X7_own {G : GX} (hAp : Ap G) : ∀ d, ∀ e ∈ tb_X7_own, Snd G mts yX7_own.cls cX7_own 1 (none) d none e.1 e.2 := by
  intro d
  unfold tb_X7_own
  refine fa_c (s_la_n dX7_own_0 rfl) ?_
  refine fa_c (s_iconst dX7_own_1 (by decide)) ?_
  refine fa_c (pf_X7_10 hAp w_643 dX7_own_2) ?_
  refine fa_c (s_la_n dX7_own_5 rfl) ?_
  refine fa_c (s_la_n dX7_own_6 rfl) ?_
  refine fa_c (gf_X7_0 w_633 dX7_own_7) ?_
  refine fa_c (pf_X7_11 hAp w_644 dX7_own_10) ?_
  refine fa_c (s_rv dX7_own_13 rfl) ?_
  exact fun e he => absurd he List.not_mem_nil
theorem cl_X7_own {G : GX} (hAp : Ap G) : Cl1 (Ct G mts) n_X7_own tb_X7_own := ct_cl (y := n_X7_own) (yn := yX7_own) rfl (by decide +kernel) (ok_X7_own hAp)
theorem dX7_isSooner_0 : decode cX7_isSooner 0 = .ok (.aload_n 0, 1) := by decide +kernel
theorem dX7_isSooner_1 : decode cX7_isSooner 1 = .ok (.getfield 13, 3) := by decide +kernel
theorem dX7_isSooner_4 : decode cX7_isSooner 4 = .ok (.iload_n 1, 1) := by decide +kernel
theorem dX7_isSooner_5 : decode cX7_isSooner 5 = .ok (.iaload, 1) := by decide +kernel
theorem dX7_isSooner_6 : decode cX7_isSooner 6 = .ok (.aload_n 0, 1) := by decide +kernel
theorem dX7_isSooner_7 : decode cX7_isSooner 7 = .ok (.getfield 13, 3) := by decide +kernel
theorem dX7_isSooner_10 : decode cX7_isSooner 10 = .ok (.iload_n 2, 1) := by decide +kernel
theorem dX7_isSooner_11 : decode cX7_isSooner 11 = .ok (.iaload, 1) := by decide +kernel
theorem dX7_isSooner_12 : decode cX7_isSooner 12 = .ok (.if_icmp .lt 23, 3) := by decide +kernel
theorem dX7_isSooner_15 : decode cX7_isSooner 15 = .ok (.aload_n 0, 1) := by decide +kernel
theorem dX7_isSooner_16 : decode cX7_isSooner 16 = .ok (.getfield 13, 3) := by decide +kernel
theorem dX7_isSooner_19 : decode cX7_isSooner 19 = .ok (.iload_n 1, 1) := by decide +kernel
theorem dX7_isSooner_20 : decode cX7_isSooner 20 = .ok (.iaload, 1) := by decide +kernel
theorem dX7_isSooner_21 : decode cX7_isSooner 21 = .ok (.aload_n 0, 1) := by decide +kernel
theorem dX7_isSooner_22 : decode cX7_isSooner 22 = .ok (.getfield 13, 3) := by decide +kernel
theorem dX7_isSooner_25 : decode cX7_isSooner 25 = .ok (.iload_n 2, 1) := by decide +kernel
theorem dX7_isSooner_26 : decode cX7_isSooner 26 = .ok (.iaload, 1) := by decide +kernel
theorem dX7_isSooner_27 : decode cX7_isSooner 27 = .ok (.if_icmp .ne 12, 3) := by decide +kernel
theorem dX7_isSooner_30 : decode cX7_isSooner 30 = .ok (.iload_n 1, 1) := by decide +kernel
theorem dX7_isSooner_31 : decode cX7_isSooner 31 = .ok (.iload_n 2, 1) := by decide +kernel
theorem dX7_isSooner_32 : decode cX7_isSooner 32 = .ok (.if_icmp .ge 7, 3) := by decide +kernel
theorem dX7_isSooner_35 : decode cX7_isSooner 35 = .ok (.iconst 1, 1) := by decide +kernel
theorem dX7_isSooner_36 : decode cX7_isSooner 36 = .ok (.goto 4, 3) := by decide +kernel
theorem dX7_isSooner_39 : decode cX7_isSooner 39 = .ok (.iconst 0, 1) := by decide +kernel
theorem dX7_isSooner_40 : decode cX7_isSooner 40 = .ok (.ireturn, 1) := by decide +kernel
set_option maxRecDepth 100000 in
theorem ok_X7_isSooner {G : GX} (hAp : Ap G) : ∀ d, ∀ e ∈ tb_X7_isSooner, Snd G mts yX7_isSooner.cls cX7_isSooner 3 (some .boolean) d none e.1 e.2 := by
  intro d
  unfold tb_X7_isSooner
  refine fa_c (s_la_n dX7_isSooner_0 rfl) ?_
  refine fa_c (gf_X7_2 w_635 dX7_isSooner_1) ?_
  refine fa_c (s_li_n dX7_isSooner_4 rfl) ?_
  refine fa_c (s_ia dX7_isSooner_5) ?_
  refine fa_c (s_la_n dX7_isSooner_6 rfl) ?_
  refine fa_c (gf_X7_2 w_635 dX7_isSooner_7) ?_
  refine fa_c (s_li_n dX7_isSooner_10 rfl) ?_
  refine fa_c (s_ia dX7_isSooner_11) ?_
  refine fa_c (s_ic_lt dX7_isSooner_12 (by decide)) ?_
  refine fa_c (s_la_n dX7_isSooner_15 rfl) ?_
  refine fa_c (gf_X7_2 w_635 dX7_isSooner_16) ?_
  refine fa_c (s_li_n dX7_isSooner_19 rfl) ?_
  refine fa_c (s_ia dX7_isSooner_20) ?_
  refine fa_c (s_la_n dX7_isSooner_21 rfl) ?_
  refine fa_c (gf_X7_2 w_635 dX7_isSooner_22) ?_
  refine fa_c (s_li_n dX7_isSooner_25 rfl) ?_
  refine fa_c (s_ia dX7_isSooner_26) ?_
  refine fa_c (s_ic_ne dX7_isSooner_27 (by decide)) ?_
  refine fa_c (s_li_n dX7_isSooner_30 rfl) ?_
  refine fa_c (s_li_n dX7_isSooner_31 rfl) ?_
  refine fa_c (s_ic_ge dX7_isSooner_32 (by decide)) ?_
  refine fa_c (s_iconst dX7_isSooner_35 (by decide)) ?_
  refine fa_c (s_go dX7_isSooner_36 (by decide)) ?_
  refine fa_c (s_iconst dX7_isSooner_39 (by decide)) ?_
  refine fa_c (s_rz dX7_isSooner_40 rfl) ?_
  exact fun e he => absurd he List.not_mem_nil
theorem cl_X7_isSooner {G : GX} (hAp : Ap G) : Cl1 (Ct G mts) n_X7_isSooner tb_X7_isSooner := ct_cl (y := n_X7_isSooner) (yn := yX7_isSooner) rfl (by decide +kernel) (ok_X7_isSooner hAp)
theorem dX7_rank_0 : decode cX7_rank 0 = .ok (.iconst 0, 1) := by decide +kernel
theorem dX7_rank_1 : decode cX7_rank 1 = .ok (.istore_n 2, 1) := by decide +kernel
theorem dX7_rank_2 : decode cX7_rank 2 = .ok (.aload_n 0, 1) := by decide +kernel
theorem dX7_rank_3 : decode cX7_rank 3 = .ok (.getfield 50, 3) := by decide +kernel
theorem dX7_rank_6 : decode cX7_rank 6 = .ok (.istore_n 3, 1) := by decide +kernel
theorem dX7_rank_7 : decode cX7_rank 7 = .ok (.iload_n 3, 1) := by decide +kernel
theorem dX7_rank_8 : decode cX7_rank 8 = .ok (.aload_n 0, 1) := by decide +kernel
theorem dX7_rank_9 : decode cX7_rank 9 = .ok (.getfield 57, 3) := by decide +kernel
theorem dX7_rank_12 : decode cX7_rank 12 = .ok (.if_icmp .ge 36, 3) := by decide +kernel
theorem dX7_rank_15 : decode cX7_rank 15 = .ok (.iload_n 2, 1) := by decide +kernel
theorem dX7_rank_16 : decode cX7_rank 16 = .ok (.aload_n 0, 1) := by decide +kernel
theorem dX7_rank_17 : decode cX7_rank 17 = .ok (.getfield 16, 3) := by decide +kernel
theorem dX7_rank_20 : decode cX7_rank 20 = .ok (.iload_n 3, 1) := by decide +kernel
theorem dX7_rank_21 : decode cX7_rank 21 = .ok (.baload, 1) := by decide +kernel
theorem dX7_rank_22 : decode cX7_rank 22 = .ok (.ifCond .eq 17, 3) := by decide +kernel
theorem dX7_rank_25 : decode cX7_rank 25 = .ok (.aload_n 0, 1) := by decide +kernel
theorem dX7_rank_26 : decode cX7_rank 26 = .ok (.getfield 20, 3) := by decide +kernel
theorem dX7_rank_29 : decode cX7_rank 29 = .ok (.iload_n 3, 1) := by decide +kernel
theorem dX7_rank_30 : decode cX7_rank 30 = .ok (.iaload, 1) := by decide +kernel
theorem dX7_rank_31 : decode cX7_rank 31 = .ok (.iload_n 1, 1) := by decide +kernel
theorem dX7_rank_32 : decode cX7_rank 32 = .ok (.if_icmp .ne 7, 3) := by decide +kernel
theorem dX7_rank_35 : decode cX7_rank 35 = .ok (.iconst 1, 1) := by decide +kernel
theorem dX7_rank_36 : decode cX7_rank 36 = .ok (.goto 4, 3) := by decide +kernel
theorem dX7_rank_39 : decode cX7_rank 39 = .ok (.iconst 0, 1) := by decide +kernel
theorem dX7_rank_40 : decode cX7_rank 40 = .ok (.iadd, 1) := by decide +kernel
theorem dX7_rank_41 : decode cX7_rank 41 = .ok (.istore_n 2, 1) := by decide +kernel
theorem dX7_rank_42 : decode cX7_rank 42 = .ok (.iinc 3 1, 3) := by decide +kernel
theorem dX7_rank_45 : decode cX7_rank 45 = .ok (.goto (-38), 3) := by decide +kernel
theorem dX7_rank_48 : decode cX7_rank 48 = .ok (.iload_n 2, 1) := by decide +kernel
theorem dX7_rank_49 : decode cX7_rank 49 = .ok (.ireturn, 1) := by decide +kernel
set_option maxRecDepth 100000 in
theorem ok_X7_rank {G : GX} (hAp : Ap G) : ∀ d, ∀ e ∈ tb_X7_rank, Snd G mts yX7_rank.cls cX7_rank 4 (some .int) d none e.1 e.2 := by
  intro d
  unfold tb_X7_rank
  refine fa_c (s_iconst dX7_rank_0 (by decide)) ?_
  refine fa_c (s_st_n dX7_rank_1 rfl (by decide)) ?_
  refine fa_c (s_la_n dX7_rank_2 rfl) ?_
  refine fa_c (gf_X7_10 w_643 dX7_rank_3) ?_
  refine fa_c (s_st_n dX7_rank_6 rfl (by decide)) ?_
  refine fa_c (s_li_n dX7_rank_7 rfl) ?_
  refine fa_c (s_la_n dX7_rank_8 rfl) ?_
  refine fa_c (gf_X7_11 w_644 dX7_rank_9) ?_
  refine fa_c (s_ic_ge dX7_rank_12 (by decide)) ?_
  refine fa_c (s_li_n dX7_rank_15 rfl) ?_
  refine fa_c (s_la_n dX7_rank_16 rfl) ?_
  refine fa_c (gf_X7_3 w_636 dX7_rank_17) ?_
  refine fa_c (s_li_n dX7_rank_20 rfl) ?_
  refine fa_c (s_ba dX7_rank_21) ?_
  refine fa_c (s_if_eq dX7_rank_22 (by decide)) ?_
  refine fa_c (s_la_n dX7_rank_25 rfl) ?_
  refine fa_c (gf_X7_4 w_637 dX7_rank_26) ?_
  refine fa_c (s_li_n dX7_rank_29 rfl) ?_
  refine fa_c (s_ia dX7_rank_30) ?_
  refine fa_c (s_li_n dX7_rank_31 rfl) ?_
  refine fa_c (s_ic_ne dX7_rank_32 (by decide)) ?_
  refine fa_c (s_iconst dX7_rank_35 (by decide)) ?_
  refine fa_c (s_go dX7_rank_36 (by decide)) ?_
  refine fa_c (s_iconst dX7_rank_39 (by decide)) ?_
  refine fa_c (s_i_add dX7_rank_40) ?_
  refine fa_c (s_st_n dX7_rank_41 rfl (by decide)) ?_
  refine fa_c (s_inc dX7_rank_42 (by decide) (by decide)) ?_
  refine fa_c (s_go dX7_rank_45 (by decide)) ?_
  refine fa_c (s_li_n dX7_rank_48 rfl) ?_
  refine fa_c (s_ri dX7_rank_49 rfl) ?_
  exact fun e he => absurd he List.not_mem_nil
theorem cl_X7_rank {G : GX} (hAp : Ap G) : Cl1 (Ct G mts) n_X7_rank tb_X7_rank := ct_cl (y := n_X7_rank) (yn := yX7_rank) rfl (by decide +kernel) (ok_X7_rank hAp)
theorem dX7_link_0 : decode cX7_link 0 = .ok (.aload_n 0, 1) := by decide +kernel
theorem dX7_link_1 : decode cX7_link 1 = .ok (.iload_n 1, 1) := by decide +kernel
theorem dX7_link_2 : decode cX7_link 2 = .ok (.iload_n 2, 1) := by decide +kernel
theorem dX7_link_3 : decode cX7_link 3 = .ok (.invokevirtual 60, 3) := by decide +kernel
theorem dX7_link_6 : decode cX7_link 6 = .ok (.ifCond .eq 7, 3) := by decide +kernel
theorem dX7_link_9 : decode cX7_link 9 = .ok (.iload_n 1, 1) := by decide +kernel
theorem dX7_link_10 : decode cX7_link 10 = .ok (.goto 4, 3) := by decide +kernel
theorem dX7_link_13 : decode cX7_link 13 = .ok (.iload_n 2, 1) := by decide +kernel
theorem dX7_link_14 : decode cX7_link 14 = .ok (.istore_n 3, 1) := by decide +kernel
theorem dX7_link_15 : decode cX7_link 15 = .ok (.iload_n 1, 1) := by decide +kernel
theorem dX7_link_16 : decode cX7_link 16 = .ok (.iload_n 2, 1) := by decide +kernel
theorem dX7_link_17 : decode cX7_link 17 = .ok (.iadd, 1) := by decide +kernel
theorem dX7_link_18 : decode cX7_link 18 = .ok (.iload_n 3, 1) := by decide +kernel
theorem dX7_link_19 : decode cX7_link 19 = .ok (.isub, 1) := by decide +kernel
theorem dX7_link_20 : decode cX7_link 20 = .ok (.istore 4, 2) := by decide +kernel
theorem dX7_link_22 : decode cX7_link 22 = .ok (.aload_n 0, 1) := by decide +kernel
theorem dX7_link_23 : decode cX7_link 23 = .ok (.getfield 20, 3) := by decide +kernel
theorem dX7_link_26 : decode cX7_link 26 = .ok (.iload 4, 2) := by decide +kernel
theorem dX7_link_28 : decode cX7_link 28 = .ok (.iload_n 3, 1) := by decide +kernel
theorem dX7_link_29 : decode cX7_link 29 = .ok (.iastore, 1) := by decide +kernel
theorem dX7_link_30 : decode cX7_link 30 = .ok (.aload_n 0, 1) := by decide +kernel
theorem dX7_link_31 : decode cX7_link 31 = .ok (.getfield 26, 3) := by decide +kernel
theorem dX7_link_34 : decode cX7_link 34 = .ok (.iload 4, 2) := by decide +kernel
theorem dX7_link_36 : decode cX7_link 36 = .ok (.aload_n 0, 1) := by decide +kernel
theorem dX7_link_37 : decode cX7_link 37 = .ok (.getfield 64, 3) := by decide +kernel
theorem dX7_link_40 : decode cX7_link 40 = .ok (.iastore, 1) := by decide +kernel
theorem dX7_link_41 : decode cX7_link 41 = .ok (.aload_n 0, 1) := by decide +kernel
theorem dX7_link_42 : decode cX7_link 42 = .ok (.dup, 1) := by decide +kernel
theorem dX7_link_43 : decode cX7_link 43 = .ok (.getfield 64, 3) := by decide +kernel
theorem dX7_link_46 : decode cX7_link 46 = .ok (.iconst 1, 1) := by decide +kernel
theorem dX7_link_47 : decode cX7_link 47 = .ok (.iadd, 1) := by decide +kernel
theorem dX7_link_48 : decode cX7_link 48 = .ok (.putfield 64, 3) := by decide +kernel
theorem dX7_link_51 : decode cX7_link 51 = .ok (.aload_n 0, 1) := by decide +kernel
theorem dX7_link_52 : decode cX7_link 52 = .ok (.dup, 1) := by decide +kernel
theorem dX7_link_53 : decode cX7_link 53 = .ok (.getfield 67, 3) := by decide +kernel
theorem dX7_link_56 : decode cX7_link 56 = .ok (.iconst 1, 1) := by decide +kernel
theorem dX7_link_57 : decode cX7_link 57 = .ok (.iadd, 1) := by decide +kernel
theorem dX7_link_58 : decode cX7_link 58 = .ok (.putfield 67, 3) := by decide +kernel
theorem dX7_link_61 : decode cX7_link 61 = .ok (.return_, 1) := by decide +kernel
set_option maxRecDepth 100000 in
theorem ok_X7_link {G : GX} (hAp : Ap G) : ∀ d, ∀ e ∈ tb_X7_link, Snd G mts yX7_link.cls cX7_link 5 (none) d none e.1 e.2 := by
  intro d
  unfold tb_X7_link
  refine fa_c (s_la_n dX7_link_0 rfl) ?_
  refine fa_c (s_li_n dX7_link_1 rfl) ?_
  refine fa_c (s_li_n dX7_link_2 rfl) ?_
  refine fa_c (s_cv mo_X7_isSooner co_X7 (by decide) (fun _ _ => ⟨_, rfl⟩) dX7_link_3 w_740 w_742 w_22 (by decide)) ?_
  refine fa_c (s_if_eq dX7_link_6 (by decide)) ?_
  refine fa_c (s_li_n dX7_link_9 rfl) ?_
  refine fa_c (s_go dX7_link_10 (by decide)) ?_
  refine fa_c (s_li_n dX7_link_13 rfl) ?_
  refine fa_c (s_st_n dX7_link_14 rfl (by decide)) ?_
  refine fa_c (s_li_n dX7_link_15 rfl) ?_
  refine fa_c (s_li_n dX7_link_16 rfl) ?_
  refine fa_c (s_i_add dX7_link_17) ?_
  refine fa_c (s_li_n dX7_link_18 rfl) ?_
  refine fa_c (s_i_sub dX7_link_19) ?_
  refine fa_c (s_st dX7_link_20 (by decide)) ?_
  refine fa_c (s_la_n dX7_link_22 rfl) ?_
  refine fa_c (gf_X7_4 w_637 dX7_link_23) ?_
  refine fa_c (s_li dX7_link_26) ?_
  refine fa_c (s_li_n dX7_link_28 rfl) ?_
  refine fa_c (s_is hAp dX7_link_29) ?_
  refine fa_c (s_la_n dX7_link_30 rfl) ?_
  refine fa_c (gf_X7_6 w_639 dX7_link_31) ?_
  refine fa_c (s_li dX7_link_34) ?_
  refine fa_c (s_la_n dX7_link_36 rfl) ?_
  refine fa_c (gf_X7_7 w_640 dX7_link_37) ?_
  refine fa_c (s_is hAp dX7_link_40) ?_
  refine fa_c (s_la_n dX7_link_41 rfl) ?_
  refine fa_c (s_i_dup dX7_link_42) ?_
  refine fa_c (gf_X7_7 w_640 dX7_link_43) ?_
  refine fa_c (s_iconst dX7_link_46 (by decide)) ?_
  refine fa_c (s_i_add dX7_link_47) ?_
  refine fa_c (pf_X7_7 hAp w_640 dX7_link_48) ?_
  refine fa_c (s_la_n dX7_link_51 rfl) ?_
  refine fa_c (s_i_dup dX7_link_52) ?_
  refine fa_c (gf_X7_8 w_641 dX7_link_53) ?_
  refine fa_c (s_iconst dX7_link_56 (by decide)) ?_
  refine fa_c (s_i_add dX7_link_57) ?_
  refine fa_c (pf_X7_8 hAp w_641 dX7_link_58) ?_
  refine fa_c (s_rv dX7_link_61 rfl) ?_
  exact fun e he => absurd he List.not_mem_nil
theorem cl_X7_link {G : GX} (hAp : Ap G) : Cl1 (Ct G mts) n_X7_link tb_X7_link := ct_cl (y := n_X7_link) (yn := yX7_link) rfl (by decide +kernel) (ok_X7_link hAp)
theorem dX7_cut_0 : decode cX7_cut 0 = .ok (.aload_n 0, 1) := by decide +kernel
theorem dX7_cut_1 : decode cX7_cut 1 = .ok (.getfield 20, 3) := by decide +kernel
theorem dX7_cut_4 : decode cX7_cut 4 = .ok (.iload_n 1, 1) := by decide +kernel
theorem dX7_cut_5 : decode cX7_cut 5 = .ok (.iconst (-1), 1) := by decide +kernel
theorem dX7_cut_6 : decode cX7_cut 6 = .ok (.iastore, 1) := by decide +kernel
theorem dX7_cut_7 : decode cX7_cut 7 = .ok (.aload_n 0, 1) := by decide +kernel
theorem dX7_cut_8 : decode cX7_cut 8 = .ok (.getfield 23, 3) := by decide +kernel
theorem dX7_cut_11 : decode cX7_cut 11 = .ok (.iload_n 1, 1) := by decide +kernel
theorem dX7_cut_12 : decode cX7_cut 12 = .ok (.iconst 0, 1) := by decide +kernel
theorem dX7_cut_13 : decode cX7_cut 13 = .ok (.bastore, 1) := by decide +kernel
theorem dX7_cut_14 : decode cX7_cut 14 = .ok (.aload_n 0, 1) := by decide +kernel
theorem dX7_cut_15 : decode cX7_cut 15 = .ok (.dup, 1) := by decide +kernel
theorem dX7_cut_16 : decode cX7_cut 16 = .ok (.getfield 70, 3) := by decide +kernel
theorem dX7_cut_19 : decode cX7_cut 19 = .ok (.iconst 1, 1) := by decide +kernel
theorem dX7_cut_20 : decode cX7_cut 20 = .ok (.iadd, 1) := by decide +kernel
theorem dX7_cut_21 : decode cX7_cut 21 = .ok (.putfield 70, 3) := by decide +kernel
theorem dX7_cut_24 : decode cX7_cut 24 = .ok (.return_, 1) := by decide +kernel
set_option maxRecDepth 100000 in
theorem ok_X7_cut {G : GX} (hAp : Ap G) : ∀ d, ∀ e ∈ tb_X7_cut, Snd G mts yX7_cut.cls cX7_cut 2 (none) d none e.1 e.2 := by
  intro d
  unfold tb_X7_cut
  refine fa_c (s_la_n dX7_cut_0 rfl) ?_
  refine fa_c (gf_X7_4 w_637 dX7_cut_1) ?_
  refine fa_c (s_li_n dX7_cut_4 rfl) ?_
  refine fa_c (s_iconst dX7_cut_5 (by decide)) ?_
  refine fa_c (s_is hAp dX7_cut_6) ?_
  refine fa_c (s_la_n dX7_cut_7 rfl) ?_
  refine fa_c (gf_X7_5 w_638 dX7_cut_8) ?_
  refine fa_c (s_li_n dX7_cut_11 rfl) ?_
  refine fa_c (s_iconst dX7_cut_12 (by decide)) ?_
  refine fa_c (s_bs hAp dX7_cut_13) ?_
  refine fa_c (s_la_n dX7_cut_14 rfl) ?_
  refine fa_c (s_i_dup dX7_cut_15) ?_
  refine fa_c (gf_X7_9 w_642 dX7_cut_16) ?_
  refine fa_c (s_iconst dX7_cut_19 (by decide)) ?_
  refine fa_c (s_i_add dX7_cut_20) ?_
  refine fa_c (pf_X7_9 hAp w_642 dX7_cut_21) ?_
  refine fa_c (s_rv dX7_cut_24 rfl) ?_
  exact fun e he => absurd he List.not_mem_nil
theorem cl_X7_cut {G : GX} (hAp : Ap G) : Cl1 (Ct G mts) n_X7_cut tb_X7_cut := ct_cl (y := n_X7_cut) (yn := yX7_cut) rfl (by decide +kernel) (ok_X7_cut hAp)
theorem dX7_isOf_0 : decode cX7_isOf 0 = .ok (.aload_n 0, 1) := by decide +kernel
theorem dX7_isOf_1 : decode cX7_isOf 1 = .ok (.getfield 16, 3) := by decide +kernel
theorem dX7_isOf_4 : decode cX7_isOf 4 = .ok (.iload_n 1, 1) := by decide +kernel
theorem dX7_isOf_5 : decode cX7_isOf 5 = .ok (.baload, 1) := by decide +kernel
theorem dX7_isOf_6 : decode cX7_isOf 6 = .ok (.ifCond .eq 33, 3) := by decide +kernel
theorem dX7_isOf_9 : decode cX7_isOf 9 = .ok (.iload_n 2, 1) := by decide +kernel
theorem dX7_isOf_10 : decode cX7_isOf 10 = .ok (.ifCond .eq 15, 3) := by decide +kernel
theorem dX7_isOf_13 : decode cX7_isOf 13 = .ok (.aload_n 0, 1) := by decide +kernel
theorem dX7_isOf_14 : decode cX7_isOf 14 = .ok (.getfield 23, 3) := by decide +kernel
theorem dX7_isOf_17 : decode cX7_isOf 17 = .ok (.iload_n 1, 1) := by decide +kernel
theorem dX7_isOf_18 : decode cX7_isOf 18 = .ok (.baload, 1) := by decide +kernel
theorem dX7_isOf_19 : decode cX7_isOf 19 = .ok (.ifCond .eq 20, 3) := by decide +kernel
theorem dX7_isOf_22 : decode cX7_isOf 22 = .ok (.goto 13, 3) := by decide +kernel
theorem dX7_isOf_25 : decode cX7_isOf 25 = .ok (.aload_n 0, 1) := by decide +kernel
theorem dX7_isOf_26 : decode cX7_isOf 26 = .ok (.getfield 20, 3) := by decide +kernel
theorem dX7_isOf_29 : decode cX7_isOf 29 = .ok (.iload_n 1, 1) := by decide +kernel
theorem dX7_isOf_30 : decode cX7_isOf 30 = .ok (.iaload, 1) := by decide +kernel
theorem dX7_isOf_31 : decode cX7_isOf 31 = .ok (.iconst (-1), 1) := by decide +kernel
theorem dX7_isOf_32 : decode cX7_isOf 32 = .ok (.if_icmp .ne 7, 3) := by decide +kernel
theorem dX7_isOf_35 : decode cX7_isOf 35 = .ok (.iconst 1, 1) := by decide +kernel
theorem dX7_isOf_36 : decode cX7_isOf 36 = .ok (.goto 4, 3) := by decide +kernel
theorem dX7_isOf_39 : decode cX7_isOf 39 = .ok (.iconst 0, 1) := by decide +kernel
theorem dX7_isOf_40 : decode cX7_isOf 40 = .ok (.ireturn, 1) := by decide +kernel
set_option maxRecDepth 100000 in
theorem ok_X7_isOf {G : GX} (hAp : Ap G) : ∀ d, ∀ e ∈ tb_X7_isOf, Snd G mts yX7_isOf.cls cX7_isOf 3 (some .boolean) d none e.1 e.2 := by
  intro d
  unfold tb_X7_isOf
  refine fa_c (s_la_n dX7_isOf_0 rfl) ?_
  refine fa_c (gf_X7_3 w_636 dX7_isOf_1) ?_
  refine fa_c (s_li_n dX7_isOf_4 rfl) ?_
  refine fa_c (s_ba dX7_isOf_5) ?_
  refine fa_c (s_if_eq dX7_isOf_6 (by decide)) ?_
  refine fa_c (s_li_n dX7_isOf_9 rfl) ?_
  refine fa_c (s_if_eq dX7_isOf_10 (by decide)) ?_
  refine fa_c (s_la_n dX7_isOf_13 rfl) ?_
  refine fa_c (gf_X7_5 w_638 dX7_isOf_14) ?_
  refine fa_c (s_li_n dX7_isOf_17 rfl) ?_
  refine fa_c (s_ba dX7_isOf_18) ?_
  refine fa_c (s_if_eq dX7_isOf_19 (by decide)) ?_
  refine fa_c (s_go dX7_isOf_22 (by decide)) ?_
  refine fa_c (s_la_n dX7_isOf_25 rfl) ?_
  refine fa_c (gf_X7_4 w_637 dX7_isOf_26) ?_
  refine fa_c (s_li_n dX7_isOf_29 rfl) ?_
  refine fa_c (s_ia dX7_isOf_30) ?_
  refine fa_c (s_iconst dX7_isOf_31 (by decide)) ?_
  refine fa_c (s_ic_ne dX7_isOf_32 (by decide)) ?_
  refine fa_c (s_iconst dX7_isOf_35 (by decide)) ?_
  refine fa_c (s_go dX7_isOf_36 (by decide)) ?_
  refine fa_c (s_iconst dX7_isOf_39 (by decide)) ?_
  refine fa_c (s_rz dX7_isOf_40 rfl) ?_
  exact fun e he => absurd he List.not_mem_nil
theorem cl_X7_isOf {G : GX} (hAp : Ap G) : Cl1 (Ct G mts) n_X7_isOf tb_X7_isOf := ct_cl (y := n_X7_isOf) (yn := yX7_isOf) rfl (by decide +kernel) (ok_X7_isOf hAp)
theorem dX7_ofRank_0 : decode cX7_ofRank 0 = .ok (.iconst (-1), 1) := by decide +kernel
theorem dX7_ofRank_1 : decode cX7_ofRank 1 = .ok (.istore 4, 2) := by decide +kernel
theorem dX7_ofRank_3 : decode cX7_ofRank 3 = .ok (.aload_n 0, 1) := by decide +kernel
theorem dX7_ofRank_4 : decode cX7_ofRank 4 = .ok (.getfield 57, 3) := by decide +kernel
theorem dX7_ofRank_7 : decode cX7_ofRank 7 = .ok (.iconst 1, 1) := by decide +kernel
theorem dX7_ofRank_8 : decode cX7_ofRank 8 = .ok (.isub, 1) := by decide +kernel
theorem dX7_ofRank_9 : decode cX7_ofRank 9 = .ok (.istore 5, 2) := by decide +kernel
theorem dX7_ofRank_11 : decode cX7_ofRank 11 = .ok (.iload 5, 2) := by decide +kernel
theorem dX7_ofRank_13 : decode cX7_ofRank 13 = .ok (.iload_n 2, 1) := by decide +kernel
theorem dX7_ofRank_14 : decode cX7_ofRank 14 = .ok (.if_icmp .le 38, 3) := by decide +kernel
theorem dX7_ofRank_17 : decode cX7_ofRank 17 = .ok (.aload_n 0, 1) := by decide +kernel
theorem dX7_ofRank_18 : decode cX7_ofRank 18 = .ok (.iload 5, 2) := by decide +kernel
theorem dX7_ofRank_20 : decode cX7_ofRank 20 = .ok (.iload_n 3, 1) := by decide +kernel
theorem dX7_ofRank_21 : decode cX7_ofRank 21 = .ok (.invokevirtual 73, 3) := by decide +kernel
theorem dX7_ofRank_24 : decode cX7_ofRank 24 = .ok (.ifCond .eq 18, 3) := by decide +kernel
theorem dX7_ofRank_27 : decode cX7_ofRank 27 = .ok (.aload_n 0, 1) := by decide +kernel
theorem dX7_ofRank_28 : decode cX7_ofRank 28 = .ok (.iload 5, 2) := by decide +kernel
theorem dX7_ofRank_30 : decode cX7_ofRank 30 = .ok (.invokevirtual 77, 3) := by decide +kernel
theorem dX7_ofRank_33 : decode cX7_ofRank 33 = .ok (.iload_n 1, 1) := by decide +kernel
theorem dX7_ofRank_34 : decode cX7_ofRank 34 = .ok (.if_icmp .ne 8, 3) := by decide +kernel
theorem dX7_ofRank_37 : decode cX7_ofRank 37 = .ok (.iload 5, 2) := by decide +kernel
theorem dX7_ofRank_39 : decode cX7_ofRank 39 = .ok (.goto 5, 3) := by decide +kernel
theorem dX7_ofRank_42 : decode cX7_ofRank 42 = .ok (.iload 4, 2) := by decide +kernel
theorem dX7_ofRank_44 : decode cX7_ofRank 44 = .ok (.istore 4, 2) := by decide +kernel
theorem dX7_ofRank_46 : decode cX7_ofRank 46 = .ok (.iinc 5 (-1), 3) := by decide +kernel
theorem dX7_ofRank_49 : decode cX7_ofRank 49 = .ok (.goto (-38), 3) := by decide +kernel
theorem dX7_ofRank_52 : decode cX7_ofRank 52 = .ok (.iload 4, 2) := by decide +kernel
theorem dX7_ofRank_54 : decode cX7_ofRank 54 = .ok (.ireturn, 1) := by decide +kernel
set_option maxRecDepth 100000 in
theorem ok_X7_ofRank {G : GX} (hAp : Ap G) : ∀ d, ∀ e ∈ tb_X7_ofRank, Snd G mts yX7_ofRank.cls cX7_ofRank 6 (some .int) d none e.1 e.2 := by
  intro d
  unfold tb_X7_ofRank
  refine fa_c (s_iconst dX7_ofRank_0 (by decide)) ?_
  refine fa_c (s_st dX7_ofRank_1 (by decide)) ?_
  refine fa_c (s_la_n dX7_ofRank_3 rfl) ?_
  refine fa_c (gf_X7_11 w_644 dX7_ofRank_4) ?_
  refine fa_c (s_iconst dX7_ofRank_7 (by decide)) ?_
  refine fa_c (s_i_sub dX7_ofRank_8) ?_
  refine fa_c (s_st dX7_ofRank_9 (by decide)) ?_
  refine fa_c (s_li dX7_ofRank_11) ?_
  refine fa_c (s_li_n dX7_ofRank_13 rfl) ?_
  refine fa_c (s_ic_le dX7_ofRank_14 (by decide)) ?_
  refine fa_c (s_la_n dX7_ofRank_17 rfl) ?_
  refine fa_c (s_li dX7_ofRank_18) ?_
  refine fa_c (s_li_n dX7_ofRank_20 rfl) ?_
  refine fa_c (s_cv mo_X7_isOf co_X7 (by decide) (fun _ _ => ⟨_, rfl⟩) dX7_ofRank_21 w_756 w_758 w_26 (by decide)) ?_
  refine fa_c (s_if_eq dX7_ofRank_24 (by decide)) ?_
  refine fa_c (s_la_n dX7_ofRank_27 rfl) ?_
  refine fa_c (s_li dX7_ofRank_28) ?_
  refine fa_c (s_cv mo_X7_rank co_X7 (by decide) (fun _ _ => ⟨_, rfl⟩) dX7_ofRank_30 w_760 w_762 w_27 (by decide)) ?_
  refine fa_c (s_li_n dX7_ofRank_33 rfl) ?_
  refine fa_c (s_ic_ne dX7_ofRank_34 (by decide)) ?_
  refine fa_c (s_li dX7_ofRank_37) ?_
  refine fa_c (s_go dX7_ofRank_39 (by decide)) ?_
  refine fa_c (s_li dX7_ofRank_42) ?_
  refine fa_c (s_st dX7_ofRank_44 (by decide)) ?_
  refine fa_c (s_inc dX7_ofRank_46 (by decide) (by decide)) ?_
  refine fa_c (s_go dX7_ofRank_49 (by decide)) ?_
  refine fa_c (s_li dX7_ofRank_52) ?_
  refine fa_c (s_ri dX7_ofRank_54 rfl) ?_
  exact fun e he => absurd he List.not_mem_nil
theorem cl_X7_ofRank {G : GX} (hAp : Ap G) : Cl1 (Ct G mts) n_X7_ofRank tb_X7_ofRank := ct_cl (y := n_X7_ofRank) (yn := yX7_ofRank) rfl (by decide +kernel) (ok_X7_ofRank hAp)
theorem dX7_twice_0 : decode cX7_twice 0 = .ok (.iconst (-1), 1) := by decide +kernel
theorem dX7_twice_1 : decode cX7_twice 1 = .ok (.istore_n 2, 1) := by decide +kernel
theorem dX7_twice_2 : decode cX7_twice 2 = .ok (.aload_n 0, 1) := by decide +kernel
theorem dX7_twice_3 : decode cX7_twice 3 = .ok (.getfield 57, 3) := by decide +kernel
theorem dX7_twice_6 : decode cX7_twice 6 = .ok (.aload_n 0, 1) := by decide +kernel
theorem dX7_twice_7 : decode cX7_twice 7 = .ok (.getfield 50, 3) := by decide +kernel
theorem dX7_twice_10 : decode cX7_twice 10 = .ok (.isub, 1) := by decide +kernel
theorem dX7_twice_11 : decode cX7_twice 11 = .ok (.istore_n 3, 1) := by decide +kernel
theorem dX7_twice_12 : decode cX7_twice 12 = .ok (.iload_n 3, 1) := by decide +kernel
theorem dX7_twice_13 : decode cX7_twice 13 = .ok (.ifCond .lt 55, 3) := by decide +kernel
theorem dX7_twice_16 : decode cX7_twice 16 = .ok (.aload_n 0, 1) := by decide +kernel
theorem dX7_twice_17 : decode cX7_twice 17 = .ok (.iload_n 3, 1) := by decide +kernel
theorem dX7_twice_18 : decode cX7_twice 18 = .ok (.aload_n 0, 1) := by decide +kernel
theorem dX7_twice_19 : decode cX7_twice 19 = .ok (.getfield 50, 3) := by decide +kernel
theorem dX7_twice_22 : decode cX7_twice 22 = .ok (.iconst 1, 1) := by decide +kernel
theorem dX7_twice_23 : decode cX7_twice 23 = .ok (.isub, 1) := by decide +kernel
theorem dX7_twice_24 : decode cX7_twice 24 = .ok (.iload_n 1, 1) := by decide +kernel
theorem dX7_twice_25 : decode cX7_twice 25 = .ok (.invokevirtual 81, 3) := by decide +kernel
theorem dX7_twice_28 : decode cX7_twice 28 = .ok (.istore 4, 2) := by decide +kernel
theorem dX7_twice_30 : decode cX7_twice 30 = .ok (.iload 4, 2) := by decide +kernel
theorem dX7_twice_32 : decode cX7_twice 32 = .ok (.iconst (-1), 1) := by decide +kernel
theorem dX7_twice_33 : decode cX7_twice 33 = .ok (.if_icmp .ne 7, 3) := by decide +kernel
theorem dX7_twice_36 : decode cX7_twice 36 = .ok (.iconst (-1), 1) := by decide +kernel
theorem dX7_twice_37 : decode cX7_twice 37 = .ok (.goto 11, 3) := by decide +kernel
theorem dX7_twice_40 : decode cX7_twice 40 = .ok (.aload_n 0, 1) := by decide +kernel
theorem dX7_twice_41 : decode cX7_twice 41 = .ok (.iload_n 3, 1) := by decide +kernel
theorem dX7_twice_42 : decode cX7_twice 42 = .ok (.iload 4, 2) := by decide +kernel
theorem dX7_twice_44 : decode cX7_twice 44 = .ok (.iload_n 1, 1) := by decide +kernel
theorem dX7_twice_45 : decode cX7_twice 45 = .ok (.invokevirtual 81, 3) := by decide +kernel
theorem dX7_twice_48 : decode cX7_twice 48 = .ok (.istore 5, 2) := by decide +kernel
theorem dX7_twice_50 : decode cX7_twice 50 = .ok (.iload 5, 2) := by decide +kernel
theorem dX7_twice_52 : decode cX7_twice 52 = .ok (.iconst (-1), 1) := by decide +kernel
theorem dX7_twice_53 : decode cX7_twice 53 = .ok (.if_icmp .ne 7, 3) := by decide +kernel
theorem dX7_twice_56 : decode cX7_twice 56 = .ok (.iload_n 2, 1) := by decide +kernel
theorem dX7_twice_57 : decode cX7_twice 57 = .ok (.goto 4, 3) := by decide +kernel
theorem dX7_twice_60 : decode cX7_twice 60 = .ok (.iload_n 3, 1) := by decide +kernel
theorem dX7_twice_61 : decode cX7_twice 61 = .ok (.istore_n 2, 1) := by decide +kernel
theorem dX7_twice_62 : decode cX7_twice 62 = .ok (.iinc 3 (-1), 3) := by decide +kernel
theorem dX7_twice_65 : decode cX7_twice 65 = .ok (.goto (-53), 3) := by decide +kernel
theorem dX7_twice_68 : decode cX7_twice 68 = .ok (.iload_n 2, 1) := by decide +kernel
theorem dX7_twice_69 : decode cX7_twice 69 = .ok (.ireturn, 1) := by decide +kernel
set_option maxRecDepth 100000 in
theorem ok_X7_twice {G : GX} (hAp : Ap G) : ∀ d, ∀ e ∈ tb_X7_twice, Snd G mts yX7_twice.cls cX7_twice 6 (some .int) d none e.1 e.2 := by
  intro d
  unfold tb_X7_twice
  refine fa_c (s_iconst dX7_twice_0 (by decide)) ?_
  refine fa_c (s_st_n dX7_twice_1 rfl (by decide)) ?_
  refine fa_c (s_la_n dX7_twice_2 rfl) ?_
  refine fa_c (gf_X7_11 w_644 dX7_twice_3) ?_
  refine fa_c (s_la_n dX7_twice_6 rfl) ?_
  refine fa_c (gf_X7_10 w_643 dX7_twice_7) ?_
  refine fa_c (s_i_sub dX7_twice_10) ?_
  refine fa_c (s_st_n dX7_twice_11 rfl (by decide)) ?_
  refine fa_c (s_li_n dX7_twice_12 rfl) ?_
  refine fa_c (s_if_lt dX7_twice_13 (by decide)) ?_
  refine fa_c (s_la_n dX7_twice_16 rfl) ?_
  refine fa_c (s_li_n dX7_twice_17 rfl) ?_
  refine fa_c (s_la_n dX7_twice_18 rfl) ?_
  refine fa_c (gf_X7_10 w_643 dX7_twice_19) ?_
  refine fa_c (s_iconst dX7_twice_22 (by decide)) ?_
  refine fa_c (s_i_sub dX7_twice_23) ?_
  refine fa_c (s_li_n dX7_twice_24 rfl) ?_
  refine fa_c (s_cv mo_X7_ofRank co_X7 (by decide) (fun _ _ => ⟨_, rfl⟩) dX7_twice_25 w_752 w_754 w_25 (by decide)) ?_
  refine fa_c (s_st dX7_twice_28 (by decide)) ?_
  refine fa_c (s_li dX7_twice_30) ?_
  refine fa_c (s_iconst dX7_twice_32 (by decide)) ?_
  refine fa_c (s_ic_ne dX7_twice_33 (by decide)) ?_
  refine fa_c (s_iconst dX7_twice_36 (by decide)) ?_
  refine fa_c (s_go dX7_twice_37 (by decide)) ?_
  refine fa_c (s_la_n dX7_twice_40 rfl) ?_
  refine fa_c (s_li_n dX7_twice_41 rfl) ?_
  refine fa_c (s_li dX7_twice_42) ?_
  refine fa_c (s_li_n dX7_twice_44 rfl) ?_
  refine fa_c (s_cv mo_X7_ofRank co_X7 (by decide) (fun _ _ => ⟨_, rfl⟩) dX7_twice_45 w_752 w_754 w_25 (by decide)) ?_
  refine fa_c (s_st dX7_twice_48 (by decide)) ?_
  refine fa_c (s_li dX7_twice_50) ?_
  refine fa_c (s_iconst dX7_twice_52 (by decide)) ?_
  refine fa_c (s_ic_ne dX7_twice_53 (by decide)) ?_
  refine fa_c (s_li_n dX7_twice_56 rfl) ?_
  refine fa_c (s_go dX7_twice_57 (by decide)) ?_
  refine fa_c (s_li_n dX7_twice_60 rfl) ?_
  refine fa_c (s_st_n dX7_twice_61 rfl (by decide)) ?_
  refine fa_c (s_inc dX7_twice_62 (by decide) (by decide)) ?_
  refine fa_c (s_go dX7_twice_65 (by decide)) ?_
  refine fa_c (s_li_n dX7_twice_68 rfl) ?_
  refine fa_c (s_ri dX7_twice_69 rfl) ?_
  exact fun e he => absurd he List.not_mem_nil
theorem cl_X7_twice {G : GX} (hAp : Ap G) : Cl1 (Ct G mts) n_X7_twice tb_X7_twice := ct_cl (y := n_X7_twice) (yn := yX7_twice) rfl (by decide +kernel) (ok_X7_twice hAp)
theorem dX7_settle_0 : decode cX7_settle 0 = .ok (.aload_n 0, 1) := by decide +kernel
theorem dX7_settle_1 : decode cX7_settle 1 = .ok (.iconst 1, 1) := by decide +kernel
theorem dX7_settle_2 : decode cX7_settle 2 = .ok (.invokevirtual 85, 3) := by decide +kernel
theorem dX7_settle_5 : decode cX7_settle 5 = .ok (.istore_n 1, 1) := by decide +kernel
theorem dX7_settle_6 : decode cX7_settle 6 = .ok (.iload_n 1, 1) := by decide +kernel
theorem dX7_settle_7 : decode cX7_settle 7 = .ok (.iconst (-1), 1) := by decide +kernel
theorem dX7_settle_8 : decode cX7_settle 8 = .ok (.if_icmp .eq 49, 3) := by decide +kernel
theorem dX7_settle_11 : decode cX7_settle 11 = .ok (.aload_n 0, 1) := by decide +kernel
theorem dX7_settle_12 : decode cX7_settle 12 = .ok (.iload_n 1, 1) := by decide +kernel
theorem dX7_settle_13 : decode cX7_settle 13 = .ok (.aload_n 0, 1) := by decide +kernel
theorem dX7_settle_14 : decode cX7_settle 14 = .ok (.getfield 50, 3) := by decide +kernel
theorem dX7_settle_17 : decode cX7_settle 17 = .ok (.iconst 1, 1) := by decide +kernel
theorem dX7_settle_18 : decode cX7_settle 18 = .ok (.isub, 1) := by decide +kernel
theorem dX7_settle_19 : decode cX7_settle 19 = .ok (.iconst 1, 1) := by decide +kernel
theorem dX7_settle_20 : decode cX7_settle 20 = .ok (.invokevirtual 81, 3) := by decide +kernel
theorem dX7_settle_23 : decode cX7_settle 23 = .ok (.istore_n 2, 1) := by decide +kernel
theorem dX7_settle_24 : decode cX7_settle 24 = .ok (.aload_n 0, 1) := by decide +kernel
theorem dX7_settle_25 : decode cX7_settle 25 = .ok (.iload_n 1, 1) := by decide +kernel
theorem dX7_settle_26 : decode cX7_settle 26 = .ok (.iload_n 2, 1) := by decide +kernel
theorem dX7_settle_27 : decode cX7_settle 27 = .ok (.iconst 1, 1) := by decide +kernel
theorem dX7_settle_28 : decode cX7_settle 28 = .ok (.invokevirtual 81, 3) := by decide +kernel
theorem dX7_settle_31 : decode cX7_settle 31 = .ok (.istore_n 3, 1) := by decide +kernel
theorem dX7_settle_32 : decode cX7_settle 32 = .ok (.aload_n 0, 1) := by decide +kernel
theorem dX7_settle_33 : decode cX7_settle 33 = .ok (.iload_n 2, 1) := by decide +kernel
theorem dX7_settle_34 : decode cX7_settle 34 = .ok (.invokevirtual 89, 3) := by decide +kernel
theorem dX7_settle_37 : decode cX7_settle 37 = .ok (.aload_n 0, 1) := by decide +kernel
theorem dX7_settle_38 : decode cX7_settle 38 = .ok (.iload_n 3, 1) := by decide +kernel
theorem dX7_settle_39 : decode cX7_settle 39 = .ok (.invokevirtual 89, 3) := by decide +kernel
theorem dX7_settle_42 : decode cX7_settle 42 = .ok (.aload_n 0, 1) := by decide +kernel
theorem dX7_settle_43 : decode cX7_settle 43 = .ok (.iload_n 2, 1) := by decide +kernel
theorem dX7_settle_44 : decode cX7_settle 44 = .ok (.iload_n 3, 1) := by decide +kernel
theorem dX7_settle_45 : decode cX7_settle 45 = .ok (.invokevirtual 93, 3) := by decide +kernel
theorem dX7_settle_48 : decode cX7_settle 48 = .ok (.aload_n 0, 1) := by decide +kernel
theorem dX7_settle_49 : decode cX7_settle 49 = .ok (.iconst 1, 1) := by decide +kernel
theorem dX7_settle_50 : decode cX7_settle 50 = .ok (.invokevirtual 85, 3) := by decide +kernel
theorem dX7_settle_53 : decode cX7_settle 53 = .ok (.istore_n 1, 1) := by decide +kernel
theorem dX7_settle_54 : decode cX7_settle 54 = .ok (.goto (-48), 3) := by decide +kernel
theorem dX7_settle_57 : decode cX7_settle 57 = .ok (.return_, 1) := by decide +kernel
set_option maxRecDepth 100000 in
theorem ok_X7_settle {G : GX} (hAp : Ap G) : ∀ d, ∀ e ∈ tb_X7_settle, Snd G mts yX7_settle.cls cX7_settle 4 (none) d none e.1 e.2 := by
  intro d
  unfold tb_X7_settle
  refine fa_c (s_la_n dX7_settle_0 rfl) ?_
  refine fa_c (s_iconst dX7_settle_1 (by decide)) ?_
  refine fa_c (s_cv mo_X7_twice co_X7 (by decide) (fun _ _ => ⟨_, rfl⟩) dX7_settle_2 w_748 w_750 w_24 (by decide)) ?_
  refine fa_c (s_st_n dX7_settle_5 rfl (by decide)) ?_
  refine fa_c (s_li_n dX7_settle_6 rfl) ?_
  refine fa_c (s_iconst dX7_settle_7 (by decide)) ?_
  refine fa_c (s_ic_eq dX7_settle_8 (by decide)) ?_
  refine fa_c (s_la_n dX7_settle_11 rfl) ?_
  refine fa_c (s_li_n dX7_settle_12 rfl) ?_
  refine fa_c (s_la_n dX7_settle_13 rfl) ?_
  refine fa_c (gf_X7_10 w_643 dX7_settle_14) ?_
  refine fa_c (s_iconst dX7_settle_17 (by decide)) ?_
  refine fa_c (s_i_sub dX7_settle_18) ?_
  refine fa_c (s_iconst dX7_settle_19 (by decide)) ?_
  refine fa_c (s_cv mo_X7_ofRank co_X7 (by decide) (fun _ _ => ⟨_, rfl⟩) dX7_settle_20 w_752 w_754 w_25 (by decide)) ?_
  refine fa_c (s_st_n dX7_settle_23 rfl (by decide)) ?_
  refine fa_c (s_la_n dX7_settle_24 rfl) ?_
  refine fa_c (s_li_n dX7_settle_25 rfl) ?_
  refine fa_c (s_li_n dX7_settle_26 rfl) ?_
  refine fa_c (s_iconst dX7_settle_27 (by decide)) ?_
  refine fa_c (s_cv mo_X7_ofRank co_X7 (by decide) (fun _ _ => ⟨_, rfl⟩) dX7_settle_28 w_752 w_754 w_25 (by decide)) ?_
  refine fa_c (s_st_n dX7_settle_31 rfl (by decide)) ?_
  refine fa_c (s_la_n dX7_settle_32 rfl) ?_
  refine fa_c (s_li_n dX7_settle_33 rfl) ?_
  refine fa_c (s_cv mo_X7_cut co_X7 (by decide) (fun _ _ => ⟨_, rfl⟩) dX7_settle_34 w_764 w_766 w_28 (by decide)) ?_
  refine fa_c (s_la_n dX7_settle_37 rfl) ?_
  refine fa_c (s_li_n dX7_settle_38 rfl) ?_
  refine fa_c (s_cv mo_X7_cut co_X7 (by decide) (fun _ _ => ⟨_, rfl⟩) dX7_settle_39 w_764 w_766 w_28 (by decide)) ?_
  refine fa_c (s_la_n dX7_settle_42 rfl) ?_
  refine fa_c (s_li_n dX7_settle_43 rfl) ?_
  refine fa_c (s_li_n dX7_settle_44 rfl) ?_
  refine fa_c (s_cv mo_X7_link co_X7 (by decide) (fun _ _ => ⟨_, rfl⟩) dX7_settle_45 w_768 w_770 w_29 (by decide)) ?_
  refine fa_c (s_la_n dX7_settle_48 rfl) ?_
  refine fa_c (s_iconst dX7_settle_49 (by decide)) ?_
  refine fa_c (s_cv mo_X7_twice co_X7 (by decide) (fun _ _ => ⟨_, rfl⟩) dX7_settle_50 w_748 w_750 w_24 (by decide)) ?_
  refine fa_c (s_st_n dX7_settle_53 rfl (by decide)) ?_
  refine fa_c (s_go dX7_settle_54 (by decide)) ?_
  refine fa_c (s_rv dX7_settle_57 rfl) ?_
  exact fun e he => absurd he List.not_mem_nil
theorem cl_X7_settle {G : GX} (hAp : Ap G) : Cl1 (Ct G mts) n_X7_settle tb_X7_settle := ct_cl (y := n_X7_settle) (yn := yX7_settle) rfl (by decide +kernel) (ok_X7_settle hAp)
theorem dX7_joinAll_0 : decode cX7_joinAll 0 = .ok (.aload_n 0, 1) := by decide +kernel
theorem dX7_joinAll_1 : decode cX7_joinAll 1 = .ok (.iconst 0, 1) := by decide +kernel
theorem dX7_joinAll_2 : decode cX7_joinAll 2 = .ok (.invokevirtual 85, 3) := by decide +kernel
theorem dX7_joinAll_5 : decode cX7_joinAll 5 = .ok (.istore_n 1, 1) := by decide +kernel
theorem dX7_joinAll_6 : decode cX7_joinAll 6 = .ok (.iload_n 1, 1) := by decide +kernel
theorem dX7_joinAll_7 : decode cX7_joinAll 7 = .ok (.iconst (-1), 1) := by decide +kernel
theorem dX7_joinAll_8 : decode cX7_joinAll 8 = .ok (.if_icmp .eq 37, 3) := by decide +kernel
theorem dX7_joinAll_11 : decode cX7_joinAll 11 = .ok (.aload_n 0, 1) := by decide +kernel
theorem dX7_joinAll_12 : decode cX7_joinAll 12 = .ok (.iload_n 1, 1) := by decide +kernel
theorem dX7_joinAll_13 : decode cX7_joinAll 13 = .ok (.aload_n 0, 1) := by decide +kernel
theorem dX7_joinAll_14 : decode cX7_joinAll 14 = .ok (.getfield 50, 3) := by decide +kernel
theorem dX7_joinAll_17 : decode cX7_joinAll 17 = .ok (.iconst 1, 1) := by decide +kernel
theorem dX7_joinAll_18 : decode cX7_joinAll 18 = .ok (.isub, 1) := by decide +kernel
theorem dX7_joinAll_19 : decode cX7_joinAll 19 = .ok (.iconst 0, 1) := by decide +kernel
theorem dX7_joinAll_20 : decode cX7_joinAll 20 = .ok (.invokevirtual 81, 3) := by decide +kernel
theorem dX7_joinAll_23 : decode cX7_joinAll 23 = .ok (.istore_n 2, 1) := by decide +kernel
theorem dX7_joinAll_24 : decode cX7_joinAll 24 = .ok (.aload_n 0, 1) := by decide +kernel
theorem dX7_joinAll_25 : decode cX7_joinAll 25 = .ok (.iload_n 2, 1) := by decide +kernel
theorem dX7_joinAll_26 : decode cX7_joinAll 26 = .ok (.aload_n 0, 1) := by decide +kernel
theorem dX7_joinAll_27 : decode cX7_joinAll 27 = .ok (.iload_n 1, 1) := by decide +kernel
theorem dX7_joinAll_28 : decode cX7_joinAll 28 = .ok (.iload_n 2, 1) := by decide +kernel
theorem dX7_joinAll_29 : decode cX7_joinAll 29 = .ok (.iconst 0, 1) := by decide +kernel
theorem dX7_joinAll_30 : decode cX7_joinAll 30 = .ok (.invokevirtual 81, 3) := by decide +kernel
theorem dX7_joinAll_33 : decode cX7_joinAll 33 = .ok (.invokevirtual 93, 3) := by decide +kernel
theorem dX7_joinAll_36 : decode cX7_joinAll 36 = .ok (.aload_n 0, 1) := by decide +kernel
theorem dX7_joinAll_37 : decode cX7_joinAll 37 = .ok (.iconst 0, 1) := by decide +kernel
theorem dX7_joinAll_38 : decode cX7_joinAll 38 = .ok (.invokevirtual 85, 3) := by decide +kernel
theorem dX7_joinAll_41 : decode cX7_joinAll 41 = .ok (.istore_n 1, 1) := by decide +kernel
theorem dX7_joinAll_42 : decode cX7_joinAll 42 = .ok (.goto (-36), 3) := by decide +kernel
theorem dX7_joinAll_45 : decode cX7_joinAll 45 = .ok (.return_, 1) := by decide +kernel
set_option maxRecDepth 100000 in
theorem ok_X7_joinAll {G : GX} (hAp : Ap G) : ∀ d, ∀ e ∈ tb_X7_joinAll, Snd G mts yX7_joinAll.cls cX7_joinAll 3 (none) d none e.1 e.2 := by
  intro d
  unfold tb_X7_joinAll
  refine fa_c (s_la_n dX7_joinAll_0 rfl) ?_
  refine fa_c (s_iconst dX7_joinAll_1 (by decide)) ?_
  refine fa_c (s_cv mo_X7_twice co_X7 (by decide) (fun _ _ => ⟨_, rfl⟩) dX7_joinAll_2 w_748 w_750 w_24 (by decide)) ?_
  refine fa_c (s_st_n dX7_joinAll_5 rfl (by decide)) ?_
  refine fa_c (s_li_n dX7_joinAll_6 rfl) ?_
  refine fa_c (s_iconst dX7_joinAll_7 (by decide)) ?_
  refine fa_c (s_ic_eq dX7_joinAll_8 (by decide)) ?_
  refine fa_c (s_la_n dX7_joinAll_11 rfl) ?_
  refine fa_c (s_li_n dX7_joinAll_12 rfl) ?_
  refine fa_c (s_la_n dX7_joinAll_13 rfl) ?_
  refine fa_c (gf_X7_10 w_643 dX7_joinAll_14) ?_
  refine fa_c (s_iconst dX7_joinAll_17 (by decide)) ?_
  refine fa_c (s_i_sub dX7_joinAll_18) ?_
  refine fa_c (s_iconst dX7_joinAll_19 (by decide)) ?_
  refine fa_c (s_cv mo_X7_ofRank co_X7 (by decide) (fun _ _ => ⟨_, rfl⟩) dX7_joinAll_20 w_752 w_754 w_25 (by decide)) ?_
  refine fa_c (s_st_n dX7_joinAll_23 rfl (by decide)) ?_
  refine fa_c (s_la_n dX7_joinAll_24 rfl) ?_
  refine fa_c (s_li_n dX7_joinAll_25 rfl) ?_
  refine fa_c (s_la_n dX7_joinAll_26 rfl) ?_
  refine fa_c (s_li_n dX7_joinAll_27 rfl) ?_
  refine fa_c (s_li_n dX7_joinAll_28 rfl) ?_
  refine fa_c (s_iconst dX7_joinAll_29 (by decide)) ?_
  refine fa_c (s_cv mo_X7_ofRank co_X7 (by decide) (fun _ _ => ⟨_, rfl⟩) dX7_joinAll_30 w_752 w_754 w_25 (by decide)) ?_
  refine fa_c (s_cv mo_X7_link co_X7 (by decide) (fun _ _ => ⟨_, rfl⟩) dX7_joinAll_33 w_768 w_770 w_29 (by decide)) ?_
  refine fa_c (s_la_n dX7_joinAll_36 rfl) ?_
  refine fa_c (s_iconst dX7_joinAll_37 (by decide)) ?_
  refine fa_c (s_cv mo_X7_twice co_X7 (by decide) (fun _ _ => ⟨_, rfl⟩) dX7_joinAll_38 w_748 w_750 w_24 (by decide)) ?_
  refine fa_c (s_st_n dX7_joinAll_41 rfl (by decide)) ?_
  refine fa_c (s_go dX7_joinAll_42 (by decide)) ?_
  refine fa_c (s_rv dX7_joinAll_45 rfl) ?_
  exact fun e he => absurd he List.not_mem_nil
theorem cl_X7_joinAll {G : GX} (hAp : Ap G) : Cl1 (Ct G mts) n_X7_joinAll tb_X7_joinAll := ct_cl (y := n_X7_joinAll) (yn := yX7_joinAll) rfl (by decide +kernel) (ok_X7_joinAll hAp)
theorem dX7_add_0 : decode cX7_add 0 = .ok (.aload_n 0, 1) := by decide +kernel
theorem dX7_add_1 : decode cX7_add 1 = .ok (.getfield 7, 3) := by decide +kernel
theorem dX7_add_4 : decode cX7_add 4 = .ok (.iload_n 1, 1) := by decide +kernel
theorem dX7_add_5 : decode cX7_add 5 = .ok (.iload_n 2, 1) := by decide +kernel
theorem dX7_add_6 : decode cX7_add 6 = .ok (.iastore, 1) := by decide +kernel
theorem dX7_add_7 : decode cX7_add 7 = .ok (.aload_n 0, 1) := by decide +kernel
theorem dX7_add_8 : decode cX7_add 8 = .ok (.getfield 13, 3) := by decide +kernel
theorem dX7_add_11 : decode cX7_add 11 = .ok (.iload_n 1, 1) := by decide +kernel
theorem dX7_add_12 : decode cX7_add 12 = .ok (.iload_n 3, 1) := by decide +kernel
theorem dX7_add_13 : decode cX7_add 13 = .ok (.iastore, 1) := by decide +kernel
theorem dX7_add_14 : decode cX7_add 14 = .ok (.aload_n 0, 1) := by decide +kernel
theorem dX7_add_15 : decode cX7_add 15 = .ok (.getfield 16, 3) := by decide +kernel
theorem dX7_add_18 : decode cX7_add 18 = .ok (.iload_n 1, 1) := by decide +kernel
theorem dX7_add_19 : decode cX7_add 19 = .ok (.iconst 1, 1) := by decide +kernel
theorem dX7_add_20 : decode cX7_add 20 = .ok (.bastore, 1) := by decide +kernel
theorem dX7_add_21 : decode cX7_add 21 = .ok (.aload_n 0, 1) := by decide +kernel
theorem dX7_add_22 : decode cX7_add 22 = .ok (.getfield 20, 3) := by decide +kernel
theorem dX7_add_25 : decode cX7_add 25 = .ok (.iload_n 1, 1) := by decide +kernel
theorem dX7_add_26 : decode cX7_add 26 = .ok (.iconst (-1), 1) := by decide +kernel
theorem dX7_add_27 : decode cX7_add 27 = .ok (.iastore, 1) := by decide +kernel
theorem dX7_add_28 : decode cX7_add 28 = .ok (.aload_n 0, 1) := by decide +kernel
theorem dX7_add_29 : decode cX7_add 29 = .ok (.getfield 23, 3) := by decide +kernel
theorem dX7_add_32 : decode cX7_add 32 = .ok (.iload_n 1, 1) := by decide +kernel
theorem dX7_add_33 : decode cX7_add 33 = .ok (.iconst 0, 1) := by decide +kernel
theorem dX7_add_34 : decode cX7_add 34 = .ok (.bastore, 1) := by decide +kernel
theorem dX7_add_35 : decode cX7_add 35 = .ok (.aload_n 0, 1) := by decide +kernel
theorem dX7_add_36 : decode cX7_add 36 = .ok (.getfield 26, 3) := by decide +kernel
theorem dX7_add_39 : decode cX7_add 39 = .ok (.iload_n 1, 1) := by decide +kernel
theorem dX7_add_40 : decode cX7_add 40 = .ok (.iconst 0, 1) := by decide +kernel
theorem dX7_add_41 : decode cX7_add 41 = .ok (.iastore, 1) := by decide +kernel
theorem dX7_add_42 : decode cX7_add 42 = .ok (.aload_n 0, 1) := by decide +kernel
theorem dX7_add_43 : decode cX7_add 43 = .ok (.iload_n 1, 1) := by decide +kernel
theorem dX7_add_44 : decode cX7_add 44 = .ok (.iconst 1, 1) := by decide +kernel
theorem dX7_add_45 : decode cX7_add 45 = .ok (.iadd, 1) := by decide +kernel
theorem dX7_add_46 : decode cX7_add 46 = .ok (.putfield 57, 3) := by decide +kernel
theorem dX7_add_49 : decode cX7_add 49 = .ok (.return_, 1) := by decide +kernel
set_option maxRecDepth 100000 in
theorem ok_X7_add {G : GX} (hAp : Ap G) : ∀ d, ∀ e ∈ tb_X7_add, Snd G mts yX7_add.cls cX7_add 4 (none) d none e.1 e.2 := by
  intro d
  unfold tb_X7_add
  refine fa_c (s_la_n dX7_add_0 rfl) ?_
  refine fa_c (gf_X7_1 w_634 dX7_add_1) ?_
  refine fa_c (s_li_n dX7_add_4 rfl) ?_
  refine fa_c (s_li_n dX7_add_5 rfl) ?_
  refine fa_c (s_is hAp dX7_add_6) ?_
  refine fa_c (s_la_n dX7_add_7 rfl) ?_
  refine fa_c (gf_X7_2 w_635 dX7_add_8) ?_
  refine fa_c (s_li_n dX7_add_11 rfl) ?_
  refine fa_c (s_li_n dX7_add_12 rfl) ?_
  refine fa_c (s_is hAp dX7_add_13) ?_
  refine fa_c (s_la_n dX7_add_14 rfl) ?_
  refine fa_c (gf_X7_3 w_636 dX7_add_15) ?_
  refine fa_c (s_li_n dX7_add_18 rfl) ?_
  refine fa_c (s_iconst dX7_add_19 (by decide)) ?_
  refine fa_c (s_bs hAp dX7_add_20) ?_
  refine fa_c (s_la_n dX7_add_21 rfl) ?_
  refine fa_c (gf_X7_4 w_637 dX7_add_22) ?_
  refine fa_c (s_li_n dX7_add_25 rfl) ?_
  refine fa_c (s_iconst dX7_add_26 (by decide)) ?_
  refine fa_c (s_is hAp dX7_add_27) ?_
  refine fa_c (s_la_n dX7_add_28 rfl) ?_
  refine fa_c (gf_X7_5 w_638 dX7_add_29) ?_
  refine fa_c (s_li_n dX7_add_32 rfl) ?_
  refine fa_c (s_iconst dX7_add_33 (by decide)) ?_
  refine fa_c (s_bs hAp dX7_add_34) ?_
  refine fa_c (s_la_n dX7_add_35 rfl) ?_
  refine fa_c (gf_X7_6 w_639 dX7_add_36) ?_
  refine fa_c (s_li_n dX7_add_39 rfl) ?_
  refine fa_c (s_iconst dX7_add_40 (by decide)) ?_
  refine fa_c (s_is hAp dX7_add_41) ?_
  refine fa_c (s_la_n dX7_add_42 rfl) ?_
  refine fa_c (s_li_n dX7_add_43 rfl) ?_
  refine fa_c (s_iconst dX7_add_44 (by decide)) ?_
  refine fa_c (s_i_add dX7_add_45) ?_
  refine fa_c (pf_X7_11 hAp w_644 dX7_add_46) ?_
  refine fa_c (s_rv dX7_add_49 rfl) ?_
  exact fun e he => absurd he List.not_mem_nil
theorem cl_X7_add {G : GX} (hAp : Ap G) : Cl1 (Ct G mts) n_X7_add tb_X7_add := ct_cl (y := n_X7_add) (yn := yX7_add) rfl (by decide +kernel) (ok_X7_add hAp)
theorem dX7_lowerTo_0 : decode cX7_lowerTo 0 = .ok (.aload_n 0, 1) := by decide +kernel
theorem dX7_lowerTo_1 : decode cX7_lowerTo 1 = .ok (.getfield 13, 3) := by decide +kernel
theorem dX7_lowerTo_4 : decode cX7_lowerTo 4 = .ok (.iload_n 1, 1) := by decide +kernel
theorem dX7_lowerTo_5 : decode cX7_lowerTo 5 = .ok (.iload_n 2, 1) := by decide +kernel
theorem dX7_lowerTo_6 : decode cX7_lowerTo 6 = .ok (.iastore, 1) := by decide +kernel
theorem dX7_lowerTo_7 : decode cX7_lowerTo 7 = .ok (.aload_n 0, 1) := by decide +kernel
theorem dX7_lowerTo_8 : decode cX7_lowerTo 8 = .ok (.getfield 20, 3) := by decide +kernel
theorem dX7_lowerTo_11 : decode cX7_lowerTo 11 = .ok (.iload_n 1, 1) := by decide +kernel
theorem dX7_lowerTo_12 : decode cX7_lowerTo 12 = .ok (.iaload, 1) := by decide +kernel
theorem dX7_lowerTo_13 : decode cX7_lowerTo 13 = .ok (.iconst (-1), 1) := by decide +kernel
theorem dX7_lowerTo_14 : decode cX7_lowerTo 14 = .ok (.if_icmp .eq 28, 3) := by decide +kernel
theorem dX7_lowerTo_17 : decode cX7_lowerTo 17 = .ok (.aload_n 0, 1) := by decide +kernel
theorem dX7_lowerTo_18 : decode cX7_lowerTo 18 = .ok (.iload_n 1, 1) := by decide +kernel
theorem dX7_lowerTo_19 : decode cX7_lowerTo 19 = .ok (.aload_n 0, 1) := by decide +kernel
theorem dX7_lowerTo_20 : decode cX7_lowerTo 20 = .ok (.getfield 20, 3) := by decide +kernel
theorem dX7_lowerTo_23 : decode cX7_lowerTo 23 = .ok (.iload_n 1, 1) := by decide +kernel
theorem dX7_lowerTo_24 : decode cX7_lowerTo 24 = .ok (.iaload, 1) := by decide +kernel
theorem dX7_lowerTo_25 : decode cX7_lowerTo 25 = .ok (.invokevirtual 60, 3) := by decide +kernel
theorem dX7_lowerTo_28 : decode cX7_lowerTo 28 = .ok (.ifCond .eq 14, 3) := by decide +kernel
theorem dX7_lowerTo_31 : decode cX7_lowerTo 31 = .ok (.aload_n 0, 1) := by decide +kernel
theorem dX7_lowerTo_32 : decode cX7_lowerTo 32 = .ok (.getfield 23, 3) := by decide +kernel
theorem dX7_lowerTo_35 : decode cX7_lowerTo 35 = .ok (.iload_n 1, 1) := by decide +kernel
theorem dX7_lowerTo_36 : decode cX7_lowerTo 36 = .ok (.iconst 1, 1) := by decide +kernel
theorem dX7_lowerTo_37 : decode cX7_lowerTo 37 = .ok (.bastore, 1) := by decide +kernel
theorem dX7_lowerTo_38 : decode cX7_lowerTo 38 = .ok (.aload_n 0, 1) := by decide +kernel
theorem dX7_lowerTo_39 : decode cX7_lowerTo 39 = .ok (.invokevirtual 97, 3) := by decide +kernel
theorem dX7_lowerTo_42 : decode cX7_lowerTo 42 = .ok (.return_, 1) := by decide +kernel
set_option maxRecDepth 100000 in
theorem ok_X7_lowerTo {G : GX} (hAp : Ap G) : ∀ d, ∀ e ∈ tb_X7_lowerTo, Snd G mts yX7_lowerTo.cls cX7_lowerTo 3 (none) d none e.1 e.2 := by
  intro d
  unfold tb_X7_lowerTo
  refine fa_c (s_la_n dX7_lowerTo_0 rfl) ?_
  refine fa_c (gf_X7_2 w_635 dX7_lowerTo_1) ?_
  refine fa_c (s_li_n dX7_lowerTo_4 rfl) ?_
  refine fa_c (s_li_n dX7_lowerTo_5 rfl) ?_
  refine fa_c (s_is hAp dX7_lowerTo_6) ?_
  refine fa_c (s_la_n dX7_lowerTo_7 rfl) ?_
  refine fa_c (gf_X7_4 w_637 dX7_lowerTo_8) ?_
  refine fa_c (s_li_n dX7_lowerTo_11 rfl) ?_
  refine fa_c (s_ia dX7_lowerTo_12) ?_
  refine fa_c (s_iconst dX7_lowerTo_13 (by decide)) ?_
  refine fa_c (s_ic_eq dX7_lowerTo_14 (by decide)) ?_
  refine fa_c (s_la_n dX7_lowerTo_17 rfl) ?_
  refine fa_c (s_li_n dX7_lowerTo_18 rfl) ?_
  refine fa_c (s_la_n dX7_lowerTo_19 rfl) ?_
  refine fa_c (gf_X7_4 w_637 dX7_lowerTo_20) ?_
  refine fa_c (s_li_n dX7_lowerTo_23 rfl) ?_
  refine fa_c (s_ia dX7_lowerTo_24) ?_
  refine fa_c (s_cv mo_X7_isSooner co_X7 (by decide) (fun _ _ => ⟨_, rfl⟩) dX7_lowerTo_25 w_740 w_742 w_22 (by decide)) ?_
  refine fa_c (s_if_eq dX7_lowerTo_28 (by decide)) ?_
  refine fa_c (s_la_n dX7_lowerTo_31 rfl) ?_
  refine fa_c (gf_X7_5 w_638 dX7_lowerTo_32) ?_
  refine fa_c (s_li_n dX7_lowerTo_35 rfl) ?_
  refine fa_c (s_iconst dX7_lowerTo_36 (by decide)) ?_
  refine fa_c (s_bs hAp dX7_lowerTo_37) ?_
  refine fa_c (s_la_n dX7_lowerTo_38 rfl) ?_
  refine fa_c (s_cv mo_X7_settle co_X7 (by decide) (fun _ _ => ⟨_, rfl⟩) dX7_lowerTo_39 w_744 w_746 w_23 (by decide)) ?_
  refine fa_c (s_rv dX7_lowerTo_42 rfl) ?_
  exact fun e he => absurd he List.not_mem_nil
theorem cl_X7_lowerTo {G : GX} (hAp : Ap G) : Cl1 (Ct G mts) n_X7_lowerTo tb_X7_lowerTo := ct_cl (y := n_X7_lowerTo) (yn := yX7_lowerTo) rfl (by decide +kernel) (ok_X7_lowerTo hAp)
theorem dX7_remove_0 : decode cX7_remove 0 = .ok (.aload_n 0, 1) := by decide +kernel
theorem dX7_remove_1 : decode cX7_remove 1 = .ok (.getfield 20, 3) := by decide +kernel
theorem dX7_remove_4 : decode cX7_remove 4 = .ok (.iload_n 1, 1) := by decide +kernel
theorem dX7_remove_5 : decode cX7_remove 5 = .ok (.iaload, 1) := by decide +kernel
theorem dX7_remove_6 : decode cX7_remove 6 = .ok (.iconst (-1), 1) := by decide +kernel
theorem dX7_remove_7 : decode cX7_remove 7 = .ok (.if_icmp .eq 8, 3) := by decide +kernel
theorem dX7_remove_10 : decode cX7_remove 10 = .ok (.aload_n 0, 1) := by decide +kernel
theorem dX7_remove_11 : decode cX7_remove 11 = .ok (.iload_n 1, 1) := by decide +kernel
theorem dX7_remove_12 : decode cX7_remove 12 = .ok (.invokevirtual 89, 3) := by decide +kernel
theorem dX7_remove_15 : decode cX7_remove 15 = .ok (.aload_n 0, 1) := by decide +kernel
theorem dX7_remove_16 : decode cX7_remove 16 = .ok (.getfield 50, 3) := by decide +kernel
theorem dX7_remove_19 : decode cX7_remove 19 = .ok (.istore_n 2, 1) := by decide +kernel
theorem dX7_remove_20 : decode cX7_remove 20 = .ok (.iload_n 2, 1) := by decide +kernel
theorem dX7_remove_21 : decode cX7_remove 21 = .ok (.aload_n 0, 1) := by decide +kernel
theorem dX7_remove_22 : decode cX7_remove 22 = .ok (.getfield 57, 3) := by decide +kernel
theorem dX7_remove_25 : decode cX7_remove 25 = .ok (.if_icmp .ge 78, 3) := by decide +kernel
theorem dX7_remove_28 : decode cX7_remove 28 = .ok (.aload_n 0, 1) := by decide +kernel
theorem dX7_remove_29 : decode cX7_remove 29 = .ok (.getfield 16, 3) := by decide +kernel
theorem dX7_remove_32 : decode cX7_remove 32 = .ok (.iload_n 2, 1) := by decide +kernel
theorem dX7_remove_33 : decode cX7_remove 33 = .ok (.baload, 1) := by decide +kernel
theorem dX7_remove_34 : decode cX7_remove 34 = .ok (.ifCond .eq 17, 3) := by decide +kernel
theorem dX7_remove_37 : decode cX7_remove 37 = .ok (.aload_n 0, 1) := by decide +kernel
theorem dX7_remove_38 : decode cX7_remove 38 = .ok (.getfield 20, 3) := by decide +kernel
theorem dX7_remove_41 : decode cX7_remove 41 = .ok (.iload_n 2, 1) := by decide +kernel
theorem dX7_remove_42 : decode cX7_remove 42 = .ok (.iaload, 1) := by decide +kernel
theorem dX7_remove_43 : decode cX7_remove 43 = .ok (.iload_n 1, 1) := by decide +kernel
theorem dX7_remove_44 : decode cX7_remove 44 = .ok (.if_icmp .ne 7, 3) := by decide +kernel
theorem dX7_remove_47 : decode cX7_remove 47 = .ok (.iconst 1, 1) := by decide +kernel
theorem dX7_remove_48 : decode cX7_remove 48 = .ok (.goto 4, 3) := by decide +kernel
theorem dX7_remove_51 : decode cX7_remove 51 = .ok (.iconst 0, 1) := by decide +kernel
theorem dX7_remove_52 : decode cX7_remove 52 = .ok (.istore_n 3, 1) := by decide +kernel
theorem dX7_remove_53 : decode cX7_remove 53 = .ok (.aload_n 0, 1) := by decide +kernel
theorem dX7_remove_54 : decode cX7_remove 54 = .ok (.getfield 20, 3) := by decide +kernel
theorem dX7_remove_57 : decode cX7_remove 57 = .ok (.iload_n 2, 1) := by decide +kernel
theorem dX7_remove_58 : decode cX7_remove 58 = .ok (.iload_n 3, 1) := by decide +kernel
theorem dX7_remove_59 : decode cX7_remove 59 = .ok (.ifCond .eq 7, 3) := by decide +kernel
theorem dX7_remove_62 : decode cX7_remove 62 = .ok (.iconst (-1), 1) := by decide +kernel
theorem dX7_remove_63 : decode cX7_remove 63 = .ok (.goto 9, 3) := by decide +kernel
theorem dX7_remove_66 : decode cX7_remove 66 = .ok (.aload_n 0, 1) := by decide +kernel
theorem dX7_remove_67 : decode cX7_remove 67 = .ok (.getfield 20, 3) := by decide +kernel
theorem dX7_remove_70 : decode cX7_remove 70 = .ok (.iload_n 2, 1) := by decide +kernel
theorem dX7_remove_71 : decode cX7_remove 71 = .ok (.iaload, 1) := by decide +kernel
theorem dX7_remove_72 : decode cX7_remove 72 = .ok (.iastore, 1) := by decide +kernel
theorem dX7_remove_73 : decode cX7_remove 73 = .ok (.aload_n 0, 1) := by decide +kernel
theorem dX7_remove_74 : decode cX7_remove 74 = .ok (.getfield 23, 3) := by decide +kernel
theorem dX7_remove_77 : decode cX7_remove 77 = .ok (.iload_n 2, 1) := by decide +kernel
theorem dX7_remove_78 : decode cX7_remove 78 = .ok (.iload_n 3, 1) := by decide +kernel
theorem dX7_remove_79 : decode cX7_remove 79 = .ok (.ifCond .ne 16, 3) := by decide +kernel
theorem dX7_remove_82 : decode cX7_remove 82 = .ok (.aload_n 0, 1) := by decide +kernel
theorem dX7_remove_83 : decode cX7_remove 83 = .ok (.getfield 23, 3) := by decide +kernel
theorem dX7_remove_86 : decode cX7_remove 86 = .ok (.iload_n 2, 1) := by decide +kernel
theorem dX7_remove_87 : decode cX7_remove 87 = .ok (.baload, 1) := by decide +kernel
theorem dX7_remove_88 : decode cX7_remove 88 = .ok (.ifCond .eq 7, 3) := by decide +kernel
theorem dX7_remove_91 : decode cX7_remove 91 = .ok (.iconst 1, 1) := by decide +kernel
theorem dX7_remove_92 : decode cX7_remove 92 = .ok (.goto 4, 3) := by decide +kernel
theorem dX7_remove_95 : decode cX7_remove 95 = .ok (.iconst 0, 1) := by decide +kernel
theorem dX7_remove_96 : decode cX7_remove 96 = .ok (.bastore, 1) := by decide +kernel
theorem dX7_remove_97 : decode cX7_remove 97 = .ok (.iinc 2 1, 3) := by decide +kernel
theorem dX7_remove_100 : decode cX7_remove 100 = .ok (.goto (-80), 3) := by decide +kernel
theorem dX7_remove_103 : decode cX7_remove 103 = .ok (.aload_n 0, 1) := by decide +kernel
theorem dX7_remove_104 : decode cX7_remove 104 = .ok (.getfield 16, 3) := by decide +kernel
theorem dX7_remove_107 : decode cX7_remove 107 = .ok (.iload_n 1, 1) := by decide +kernel
theorem dX7_remove_108 : decode cX7_remove 108 = .ok (.iconst 0, 1) := by decide +kernel
theorem dX7_remove_109 : decode cX7_remove 109 = .ok (.bastore, 1) := by decide +kernel
theorem dX7_remove_110 : decode cX7_remove 110 = .ok (.aload_n 0, 1) := by decide +kernel
theorem dX7_remove_111 : decode cX7_remove 111 = .ok (.invokevirtual 97, 3) := by decide +kernel
theorem dX7_remove_114 : decode cX7_remove 114 = .ok (.aload_n 0, 1) := by decide +kernel
theorem dX7_remove_115 : decode cX7_remove 115 = .ok (.invokevirtual 100, 3) := by decide +kernel
theorem dX7_remove_118 : decode cX7_remove 118 = .ok (.return_, 1) := by decide +kernel
set_option maxRecDepth 100000 in
theorem ok_X7_remove {G : GX} (hAp : Ap G) : ∀ d, ∀ e ∈ tb_X7_remove, Snd G mts yX7_remove.cls cX7_remove 4 (none) d none e.1 e.2 := by
  intro d
  unfold tb_X7_remove
  refine fa_c (s_la_n dX7_remove_0 rfl) ?_
  refine fa_c (gf_X7_4 w_637 dX7_remove_1) ?_
  refine fa_c (s_li_n dX7_remove_4 rfl) ?_
  refine fa_c (s_ia dX7_remove_5) ?_
  refine fa_c (s_iconst dX7_remove_6 (by decide)) ?_
  refine fa_c (s_ic_eq dX7_remove_7 (by decide)) ?_
  refine fa_c (s_la_n dX7_remove_10 rfl) ?_
  refine fa_c (s_li_n dX7_remove_11 rfl) ?_
  refine fa_c (s_cv mo_X7_cut co_X7 (by decide) (fun _ _ => ⟨_, rfl⟩) dX7_remove_12 w_764 w_766 w_28 (by decide)) ?_
  refine fa_c (s_la_n dX7_remove_15 rfl) ?_
  refine fa_c (gf_X7_10 w_643 dX7_remove_16) ?_
  refine fa_c (s_st_n dX7_remove_19 rfl (by decide)) ?_
  refine fa_c (s_li_n dX7_remove_20 rfl) ?_
  refine fa_c (s_la_n dX7_remove_21 rfl) ?_
  refine fa_c (gf_X7_11 w_644 dX7_remove_22) ?_
  refine fa_c (s_ic_ge dX7_remove_25 (by decide)) ?_
  refine fa_c (s_la_n dX7_remove_28 rfl) ?_
  refine fa_c (gf_X7_3 w_636 dX7_remove_29) ?_
  refine fa_c (s_li_n dX7_remove_32 rfl) ?_
  refine fa_c (s_ba dX7_remove_33) ?_
  refine fa_c (s_if_eq dX7_remove_34 (by decide)) ?_
  refine fa_c (s_la_n dX7_remove_37 rfl) ?_
  refine fa_c (gf_X7_4 w_637 dX7_remove_38) ?_
  refine fa_c (s_li_n dX7_remove_41 rfl) ?_
  refine fa_c (s_ia dX7_remove_42) ?_
  refine fa_c (s_li_n dX7_remove_43 rfl) ?_
  refine fa_c (s_ic_ne dX7_remove_44 (by decide)) ?_
  refine fa_c (s_iconst dX7_remove_47 (by decide)) ?_
  refine fa_c (s_go dX7_remove_48 (by decide)) ?_
  refine fa_c (s_iconst dX7_remove_51 (by decide)) ?_
  refine fa_c (s_st_n dX7_remove_52 rfl (by decide)) ?_
  refine fa_c (s_la_n dX7_remove_53 rfl) ?_
  refine fa_c (gf_X7_4 w_637 dX7_remove_54) ?_
  refine fa_c (s_li_n dX7_remove_57 rfl) ?_
  refine fa_c (s_li_n dX7_remove_58 rfl) ?_
  refine fa_c (s_if_eq dX7_remove_59 (by decide)) ?_
  refine fa_c (s_iconst dX7_remove_62 (by decide)) ?_
  refine fa_c (s_go dX7_remove_63 (by decide)) ?_
  refine fa_c (s_la_n dX7_remove_66 rfl) ?_
  refine fa_c (gf_X7_4 w_637 dX7_remove_67) ?_
  refine fa_c (s_li_n dX7_remove_70 rfl) ?_
  refine fa_c (s_ia dX7_remove_71) ?_
  refine fa_c (s_is hAp dX7_remove_72) ?_
  refine fa_c (s_la_n dX7_remove_73 rfl) ?_
  refine fa_c (gf_X7_5 w_638 dX7_remove_74) ?_
  refine fa_c (s_li_n dX7_remove_77 rfl) ?_
  refine fa_c (s_li_n dX7_remove_78 rfl) ?_
  refine fa_c (s_if_ne dX7_remove_79 (by decide)) ?_
  refine fa_c (s_la_n dX7_remove_82 rfl) ?_
  refine fa_c (gf_X7_5 w_638 dX7_remove_83) ?_
  refine fa_c (s_li_n dX7_remove_86 rfl) ?_
  refine fa_c (s_ba dX7_remove_87) ?_
  refine fa_c (s_if_eq dX7_remove_88 (by decide)) ?_
  refine fa_c (s_iconst dX7_remove_91 (by decide)) ?_
  refine fa_c (s_go dX7_remove_92 (by decide)) ?_
  refine fa_c (s_iconst dX7_remove_95 (by decide)) ?_
  refine fa_c (s_bs hAp dX7_remove_96) ?_
  refine fa_c (s_inc dX7_remove_97 (by decide) (by decide)) ?_
  refine fa_c (s_go dX7_remove_100 (by decide)) ?_
  refine fa_c (s_la_n dX7_remove_103 rfl) ?_
  refine fa_c (gf_X7_3 w_636 dX7_remove_104) ?_
  refine fa_c (s_li_n dX7_remove_107 rfl) ?_
  refine fa_c (s_iconst dX7_remove_108 (by decide)) ?_
  refine fa_c (s_bs hAp dX7_remove_109) ?_
  refine fa_c (s_la_n dX7_remove_110 rfl) ?_
  refine fa_c (s_cv mo_X7_settle co_X7 (by decide) (fun _ _ => ⟨_, rfl⟩) dX7_remove_111 w_744 w_746 w_23 (by decide)) ?_
  refine fa_c (s_la_n dX7_remove_114 rfl) ?_
  refine fa_c (s_cv mo_X7_joinAll co_X7 (by decide) (fun _ _ => ⟨_, rfl⟩) dX7_remove_115 w_784 w_786 w_32 (by decide)) ?_
  refine fa_c (s_rv dX7_remove_118 rfl) ?_
  exact fun e he => absurd he List.not_mem_nil
theorem cl_X7_remove {G : GX} (hAp : Ap G) : Cl1 (Ct G mts) n_X7_remove tb_X7_remove := ct_cl (y := n_X7_remove) (yn := yX7_remove) rfl (by decide +kernel) (ok_X7_remove hAp)
theorem dX7_soonest_0 : decode cX7_soonest 0 = .ok (.iconst (-1), 1) := by decide +kernel
theorem dX7_soonest_1 : decode cX7_soonest 1 = .ok (.istore_n 1, 1) := by decide +kernel
theorem dX7_soonest_2 : decode cX7_soonest 2 = .ok (.aload_n 0, 1) := by decide +kernel
theorem dX7_soonest_3 : decode cX7_soonest 3 = .ok (.getfield 50, 3) := by decide +kernel
theorem dX7_soonest_6 : decode cX7_soonest 6 = .ok (.istore_n 2, 1) := by decide +kernel
theorem dX7_soonest_7 : decode cX7_soonest 7 = .ok (.iload_n 2, 1) := by decide +kernel
theorem dX7_soonest_8 : decode cX7_soonest 8 = .ok (.aload_n 0, 1) := by decide +kernel
theorem dX7_soonest_9 : decode cX7_soonest 9 = .ok (.getfield 57, 3) := by decide +kernel
theorem dX7_soonest_12 : decode cX7_soonest 12 = .ok (.if_icmp .ge 38, 3) := by decide +kernel
theorem dX7_soonest_15 : decode cX7_soonest 15 = .ok (.aload_n 0, 1) := by decide +kernel
theorem dX7_soonest_16 : decode cX7_soonest 16 = .ok (.getfield 16, 3) := by decide +kernel
theorem dX7_soonest_19 : decode cX7_soonest 19 = .ok (.iload_n 2, 1) := by decide +kernel
theorem dX7_soonest_20 : decode cX7_soonest 20 = .ok (.baload, 1) := by decide +kernel
theorem dX7_soonest_21 : decode cX7_soonest 21 = .ok (.ifCond .eq 21, 3) := by decide +kernel
theorem dX7_soonest_24 : decode cX7_soonest 24 = .ok (.iload_n 1, 1) := by decide +kernel
theorem dX7_soonest_25 : decode cX7_soonest 25 = .ok (.iconst (-1), 1) := by decide +kernel
theorem dX7_soonest_26 : decode cX7_soonest 26 = .ok (.if_icmp .eq 12, 3) := by decide +kernel
theorem dX7_soonest_29 : decode cX7_soonest 29 = .ok (.aload_n 0, 1) := by decide +kernel
theorem dX7_soonest_30 : decode cX7_soonest 30 = .ok (.iload_n 2, 1) := by decide +kernel
theorem dX7_soonest_31 : decode cX7_soonest 31 = .ok (.iload_n 1, 1) := by decide +kernel
theorem dX7_soonest_32 : decode cX7_soonest 32 = .ok (.invokevirtual 60, 3) := by decide +kernel
theorem dX7_soonest_35 : decode cX7_soonest 35 = .ok (.ifCond .eq 7, 3) := by decide +kernel
theorem dX7_soonest_38 : decode cX7_soonest 38 = .ok (.iload_n 2, 1) := by decide +kernel
theorem dX7_soonest_39 : decode cX7_soonest 39 = .ok (.goto 4, 3) := by decide +kernel
theorem dX7_soonest_42 : decode cX7_soonest 42 = .ok (.iload_n 1, 1) := by decide +kernel
theorem dX7_soonest_43 : decode cX7_soonest 43 = .ok (.istore_n 1, 1) := by decide +kernel
theorem dX7_soonest_44 : decode cX7_soonest 44 = .ok (.iinc 2 1, 3) := by decide +kernel
theorem dX7_soonest_47 : decode cX7_soonest 47 = .ok (.goto (-40), 3) := by decide +kernel
theorem dX7_soonest_50 : decode cX7_soonest 50 = .ok (.iload_n 1, 1) := by decide +kernel
theorem dX7_soonest_51 : decode cX7_soonest 51 = .ok (.ireturn, 1) := by decide +kernel
set_option maxRecDepth 100000 in
theorem ok_X7_soonest {G : GX} (hAp : Ap G) : ∀ d, ∀ e ∈ tb_X7_soonest, Snd G mts yX7_soonest.cls cX7_soonest 3 (some .int) d none e.1 e.2 := by
  intro d
  unfold tb_X7_soonest
  refine fa_c (s_iconst dX7_soonest_0 (by decide)) ?_
  refine fa_c (s_st_n dX7_soonest_1 rfl (by decide)) ?_
  refine fa_c (s_la_n dX7_soonest_2 rfl) ?_
  refine fa_c (gf_X7_10 w_643 dX7_soonest_3) ?_
  refine fa_c (s_st_n dX7_soonest_6 rfl (by decide)) ?_
  refine fa_c (s_li_n dX7_soonest_7 rfl) ?_
  refine fa_c (s_la_n dX7_soonest_8 rfl) ?_
  refine fa_c (gf_X7_11 w_644 dX7_soonest_9) ?_
  refine fa_c (s_ic_ge dX7_soonest_12 (by decide)) ?_
  refine fa_c (s_la_n dX7_soonest_15 rfl) ?_
  refine fa_c (gf_X7_3 w_636 dX7_soonest_16) ?_
  refine fa_c (s_li_n dX7_soonest_19 rfl) ?_
  refine fa_c (s_ba dX7_soonest_20) ?_
  refine fa_c (s_if_eq dX7_soonest_21 (by decide)) ?_
  refine fa_c (s_li_n dX7_soonest_24 rfl) ?_
  refine fa_c (s_iconst dX7_soonest_25 (by decide)) ?_
  refine fa_c (s_ic_eq dX7_soonest_26 (by decide)) ?_
  refine fa_c (s_la_n dX7_soonest_29 rfl) ?_
  refine fa_c (s_li_n dX7_soonest_30 rfl) ?_
  refine fa_c (s_li_n dX7_soonest_31 rfl) ?_
  refine fa_c (s_cv mo_X7_isSooner co_X7 (by decide) (fun _ _ => ⟨_, rfl⟩) dX7_soonest_32 w_740 w_742 w_22 (by decide)) ?_
  refine fa_c (s_if_eq dX7_soonest_35 (by decide)) ?_
  refine fa_c (s_li_n dX7_soonest_38 rfl) ?_
  refine fa_c (s_go dX7_soonest_39 (by decide)) ?_
  refine fa_c (s_li_n dX7_soonest_42 rfl) ?_
  refine fa_c (s_st_n dX7_soonest_43 rfl (by decide)) ?_
  refine fa_c (s_inc dX7_soonest_44 (by decide) (by decide)) ?_
  refine fa_c (s_go dX7_soonest_47 (by decide)) ?_
  refine fa_c (s_li_n dX7_soonest_50 rfl) ?_
  refine fa_c (s_ri dX7_soonest_51 rfl) ?_
  exact fun e he => absurd he List.not_mem_nil
theorem cl_X7_soonest {G : GX} (hAp : Ap G) : Cl1 (Ct G mts) n_X7_soonest tb_X7_soonest := ct_cl (y := n_X7_soonest) (yn := yX7_soonest) rfl (by decide +kernel) (ok_X7_soonest hAp)
theorem dX7_standing_0 : decode cX7_standing 0 = .ok (.iconst 0, 1) := by decide +kernel
theorem dX7_standing_1 : decode cX7_standing 1 = .ok (.istore_n 1, 1) := by decide +kernel
theorem dX7_standing_2 : decode cX7_standing 2 = .ok (.aload_n 0, 1) := by decide +kernel
theorem dX7_standing_3 : decode cX7_standing 3 = .ok (.getfield 50, 3) := by decide +kernel
theorem dX7_standing_6 : decode cX7_standing 6 = .ok (.istore_n 2, 1) := by decide +kernel
theorem dX7_standing_7 : decode cX7_standing 7 = .ok (.iload_n 2, 1) := by decide +kernel
theorem dX7_standing_8 : decode cX7_standing 8 = .ok (.aload_n 0, 1) := by decide +kernel
theorem dX7_standing_9 : decode cX7_standing 9 = .ok (.getfield 57, 3) := by decide +kernel
theorem dX7_standing_12 : decode cX7_standing 12 = .ok (.if_icmp .ge 26, 3) := by decide +kernel
theorem dX7_standing_15 : decode cX7_standing 15 = .ok (.iload_n 1, 1) := by decide +kernel
theorem dX7_standing_16 : decode cX7_standing 16 = .ok (.aload_n 0, 1) := by decide +kernel
theorem dX7_standing_17 : decode cX7_standing 17 = .ok (.getfield 16, 3) := by decide +kernel
theorem dX7_standing_20 : decode cX7_standing 20 = .ok (.iload_n 2, 1) := by decide +kernel
theorem dX7_standing_21 : decode cX7_standing 21 = .ok (.baload, 1) := by decide +kernel
theorem dX7_standing_22 : decode cX7_standing 22 = .ok (.ifCond .eq 7, 3) := by decide +kernel
theorem dX7_standing_25 : decode cX7_standing 25 = .ok (.iconst 1, 1) := by decide +kernel
theorem dX7_standing_26 : decode cX7_standing 26 = .ok (.goto 4, 3) := by decide +kernel
theorem dX7_standing_29 : decode cX7_standing 29 = .ok (.iconst 0, 1) := by decide +kernel
theorem dX7_standing_30 : decode cX7_standing 30 = .ok (.iadd, 1) := by decide +kernel
theorem dX7_standing_31 : decode cX7_standing 31 = .ok (.istore_n 1, 1) := by decide +kernel
theorem dX7_standing_32 : decode cX7_standing 32 = .ok (.iinc 2 1, 3) := by decide +kernel
theorem dX7_standing_35 : decode cX7_standing 35 = .ok (.goto (-28), 3) := by decide +kernel
theorem dX7_standing_38 : decode cX7_standing 38 = .ok (.iload_n 1, 1) := by decide +kernel
theorem dX7_standing_39 : decode cX7_standing 39 = .ok (.ireturn, 1) := by decide +kernel
set_option maxRecDepth 100000 in
theorem ok_X7_standing {G : GX} (hAp : Ap G) : ∀ d, ∀ e ∈ tb_X7_standing, Snd G mts yX7_standing.cls cX7_standing 3 (some .int) d none e.1 e.2 := by
  intro d
  unfold tb_X7_standing
  refine fa_c (s_iconst dX7_standing_0 (by decide)) ?_
  refine fa_c (s_st_n dX7_standing_1 rfl (by decide)) ?_
  refine fa_c (s_la_n dX7_standing_2 rfl) ?_
  refine fa_c (gf_X7_10 w_643 dX7_standing_3) ?_
  refine fa_c (s_st_n dX7_standing_6 rfl (by decide)) ?_
  refine fa_c (s_li_n dX7_standing_7 rfl) ?_
  refine fa_c (s_la_n dX7_standing_8 rfl) ?_
  refine fa_c (gf_X7_11 w_644 dX7_standing_9) ?_
  refine fa_c (s_ic_ge dX7_standing_12 (by decide)) ?_
  refine fa_c (s_li_n dX7_standing_15 rfl) ?_
  refine fa_c (s_la_n dX7_standing_16 rfl) ?_
  refine fa_c (gf_X7_3 w_636 dX7_standing_17) ?_
  refine fa_c (s_li_n dX7_standing_20 rfl) ?_
  refine fa_c (s_ba dX7_standing_21) ?_
  refine fa_c (s_if_eq dX7_standing_22 (by decide)) ?_
  refine fa_c (s_iconst dX7_standing_25 (by decide)) ?_
  refine fa_c (s_go dX7_standing_26 (by decide)) ?_
  refine fa_c (s_iconst dX7_standing_29 (by decide)) ?_
  refine fa_c (s_i_add dX7_standing_30) ?_
  refine fa_c (s_st_n dX7_standing_31 rfl (by decide)) ?_
  refine fa_c (s_inc dX7_standing_32 (by decide) (by decide)) ?_
  refine fa_c (s_go dX7_standing_35 (by decide)) ?_
  refine fa_c (s_li_n dX7_standing_38 rfl) ?_
  refine fa_c (s_ri dX7_standing_39 rfl) ?_
  exact fun e he => absurd he List.not_mem_nil
theorem cl_X7_standing {G : GX} (hAp : Ap G) : Cl1 (Ct G mts) n_X7_standing tb_X7_standing := ct_cl (y := n_X7_standing) (yn := yX7_standing) rfl (by decide +kernel) (ok_X7_standing hAp)
theorem dX7_isJob_0 : decode cX7_isJob 0 = .ok (.aload_n 0, 1) := by decide +kernel
theorem dX7_isJob_1 : decode cX7_isJob 1 = .ok (.invokevirtual 103, 3) := by decide +kernel
theorem dX7_isJob_4 : decode cX7_isJob 4 = .ok (.iload_n 1, 1) := by decide +kernel
theorem dX7_isJob_5 : decode cX7_isJob 5 = .ok (.iconst 0, 1) := by decide +kernel
theorem dX7_isJob_6 : decode cX7_isJob 6 = .ok (.aload_n 0, 1) := by decide +kernel
theorem dX7_isJob_7 : decode cX7_isJob 7 = .ok (.getfield 54, 3) := by decide +kernel
theorem dX7_isJob_10 : decode cX7_isJob 10 = .ok (.iconst 1, 1) := by decide +kernel
theorem dX7_isJob_11 : decode cX7_isJob 11 = .ok (.isub, 1) := by decide +kernel
theorem dX7_isJob_12 : decode cX7_isJob 12 = .ok (.invokestatic 106, 3) := by decide +kernel
theorem dX7_isJob_15 : decode cX7_isJob 15 = .ok (.ireturn, 1) := by decide +kernel
set_option maxRecDepth 100000 in
theorem ok_X7_isJob {G : GX} (hAp : Ap G) : ∀ d, ∀ e ∈ tb_X7_isJob, Snd G mts yX7_isJob.cls cX7_isJob 2 (some .boolean) d none e.1 e.2 := by
  intro d
  unfold tb_X7_isJob
  refine fa_c (s_la_n dX7_isJob_0 rfl) ?_
  refine fa_c (s_cv mo_X7_own co_X7 (by decide) (fun _ _ => ⟨_, rfl⟩) dX7_isJob_1 w_713 w_715 w_18 (by decide)) ?_
  refine fa_c (s_li_n dX7_isJob_4 rfl) ?_
  refine fa_c (s_iconst dX7_isJob_5 (by decide)) ?_
  refine fa_c (s_la_n dX7_isJob_6 rfl) ?_
  refine fa_c (gf_X7_0 w_633 dX7_isJob_7) ?_
  refine fa_c (s_iconst dX7_isJob_10 (by decide)) ?_
  refine fa_c (s_i_sub dX7_isJob_11) ?_
  refine fa_c (s_cs mo_X7_in dX7_isJob_12 w_717 w_718 (by decide)) ?_
  refine fa_c (s_rz dX7_isJob_15 rfl) ?_
  exact fun e he => absurd he List.not_mem_nil
theorem cl_X7_isJob {G : GX} (hAp : Ap G) : Cl1 (Ct G mts) n_X7_isJob tb_X7_isJob := ct_cl (y := n_X7_isJob) (yn := yX7_isJob) rfl (by decide +kernel) (ok_X7_isJob hAp)
theorem dX7_put_0 : decode cX7_put 0 = .ok (.aload_n 0, 1) := by decide +kernel
theorem dX7_put_1 : decode cX7_put 1 = .ok (.invokevirtual 103, 3) := by decide +kernel
theorem dX7_put_4 : decode cX7_put 4 = .ok (.iload_n 1, 1) := by decide +kernel
theorem dX7_put_5 : decode cX7_put 5 = .ok (.iconst 0, 1) := by decide +kernel
theorem dX7_put_6 : decode cX7_put 6 = .ok (.iconst 1, 1) := by decide +kernel
theorem dX7_put_7 : decode cX7_put 7 = .ok (.invokestatic 106, 3) := by decide +kernel
theorem dX7_put_10 : decode cX7_put 10 = .ok (.ifCond .eq 16, 3) := by decide +kernel
theorem dX7_put_13 : decode cX7_put 13 = .ok (.iload_n 2, 1) := by decide +kernel
theorem dX7_put_14 : decode cX7_put 14 = .ok (.sipush (-9999), 3) := by decide +kernel
theorem dX7_put_17 : decode cX7_put 17 = .ok (.sipush 9999, 3) := by decide +kernel
theorem dX7_put_20 : decode cX7_put 20 = .ok (.invokestatic 106, 3) := by decide +kernel
theorem dX7_put_23 : decode cX7_put 23 = .ok (.ifCond .ne 6, 3) := by decide +kernel
theorem dX7_put_26 : decode cX7_put 26 = .ok (.ldc 110, 2) := by decide +kernel
theorem dX7_put_28 : decode cX7_put 28 = .ok (.ireturn, 1) := by decide +kernel
theorem dX7_put_29 : decode cX7_put 29 = .ok (.aload_n 0, 1) := by decide +kernel
theorem dX7_put_30 : decode cX7_put 30 = .ok (.getfield 54, 3) := by decide +kernel
theorem dX7_put_33 : decode cX7_put 33 = .ok (.bipush 40, 2) := by decide +kernel
theorem dX7_put_35 : decode cX7_put 35 = .ok (.if_icmp .ne 6, 3) := by decide +kernel
theorem dX7_put_38 : decode cX7_put 38 = .ok (.ldc 111, 2) := by decide +kernel
theorem dX7_put_40 : decode cX7_put 40 = .ok (.ireturn, 1) := by decide +kernel
theorem dX7_put_41 : decode cX7_put 41 = .ok (.aload_n 0, 1) := by decide +kernel
theorem dX7_put_42 : decode cX7_put 42 = .ok (.aload_n 0, 1) := by decide +kernel
theorem dX7_put_43 : decode cX7_put 43 = .ok (.getfield 54, 3) := by decide +kernel
theorem dX7_put_46 : decode cX7_put 46 = .ok (.iload_n 1, 1) := by decide +kernel
theorem dX7_put_47 : decode cX7_put 47 = .ok (.iload_n 2, 1) := by decide +kernel
theorem dX7_put_48 : decode cX7_put 48 = .ok (.invokevirtual 112, 3) := by decide +kernel
theorem dX7_put_51 : decode cX7_put 51 = .ok (.aload_n 0, 1) := by decide +kernel
theorem dX7_put_52 : decode cX7_put 52 = .ok (.dup, 1) := by decide +kernel
theorem dX7_put_53 : decode cX7_put 53 = .ok (.getfield 54, 3) := by decide +kernel
theorem dX7_put_56 : decode cX7_put 56 = .ok (.iconst 1, 1) := by decide +kernel
theorem dX7_put_57 : decode cX7_put 57 = .ok (.iadd, 1) := by decide +kernel
theorem dX7_put_58 : decode cX7_put 58 = .ok (.putfield 54, 3) := by decide +kernel
theorem dX7_put_61 : decode cX7_put 61 = .ok (.aload_n 0, 1) := by decide +kernel
theorem dX7_put_62 : decode cX7_put 62 = .ok (.getfield 54, 3) := by decide +kernel
theorem dX7_put_65 : decode cX7_put 65 = .ok (.iconst 1, 1) := by decide +kernel
theorem dX7_put_66 : decode cX7_put 66 = .ok (.isub, 1) := by decide +kernel
theorem dX7_put_67 : decode cX7_put 67 = .ok (.ireturn, 1) := by decide +kernel
set_option maxRecDepth 100000 in
theorem ok_X7_put {G : GX} (hAp : Ap G) : ∀ d, ∀ e ∈ tb_X7_put, Snd G mts yX7_put.cls cX7_put 3 (some .int) d none e.1 e.2 := by
  intro d
  unfold tb_X7_put
  refine fa_c (s_la_n dX7_put_0 rfl) ?_
  refine fa_c (s_cv mo_X7_own co_X7 (by decide) (fun _ _ => ⟨_, rfl⟩) dX7_put_1 w_713 w_715 w_18 (by decide)) ?_
  refine fa_c (s_li_n dX7_put_4 rfl) ?_
  refine fa_c (s_iconst dX7_put_5 (by decide)) ?_
  refine fa_c (s_iconst dX7_put_6 (by decide)) ?_
  refine fa_c (s_cs mo_X7_in dX7_put_7 w_717 w_718 (by decide)) ?_
  refine fa_c (s_if_eq dX7_put_10 (by decide)) ?_
  refine fa_c (s_li_n dX7_put_13 rfl) ?_
  refine fa_c (s_sipush dX7_put_14 (by decide)) ?_
  refine fa_c (s_sipush dX7_put_17 (by decide)) ?_
  refine fa_c (s_cs mo_X7_in dX7_put_20 w_717 w_718 (by decide)) ?_
  refine fa_c (s_if_ne dX7_put_23 (by decide)) ?_
  refine fa_c (s_ldc dX7_put_26 w_720) ?_
  refine fa_c (s_ri dX7_put_28 rfl) ?_
  refine fa_c (s_la_n dX7_put_29 rfl) ?_
  refine fa_c (gf_X7_0 w_633 dX7_put_30) ?_
  refine fa_c (s_bipush dX7_put_33 (by decide)) ?_
  refine fa_c (s_ic_ne dX7_put_35 (by decide)) ?_
  refine fa_c (s_ldc dX7_put_38 w_721) ?_
  refine fa_c (s_ri dX7_put_40 rfl) ?_
  refine fa_c (s_la_n dX7_put_41 rfl) ?_
  refine fa_c (s_la_n dX7_put_42 rfl) ?_
  refine fa_c (gf_X7_0 w_633 dX7_put_43) ?_
  refine fa_c (s_li_n dX7_put_46 rfl) ?_
  refine fa_c (s_li_n dX7_put_47 rfl) ?_
  refine fa_c (s_cv mo_X7_add co_X7 (by decide) (fun _ _ => ⟨_, rfl⟩) dX7_put_48 w_722 w_724 w_19 (by decide)) ?_
  refine fa_c (s_la_n dX7_put_51 rfl) ?_
  refine fa_c (s_i_dup dX7_put_52) ?_
  refine fa_c (gf_X7_0 w_633 dX7_put_53) ?_
  refine fa_c (s_iconst dX7_put_56 (by decide)) ?_
  refine fa_c (s_i_add dX7_put_57) ?_
  refine fa_c (pf_X7_0 hAp w_633 dX7_put_58) ?_
  refine fa_c (s_la_n dX7_put_61 rfl) ?_
  refine fa_c (gf_X7_0 w_633 dX7_put_62) ?_
  refine fa_c (s_iconst dX7_put_65 (by decide)) ?_
  refine fa_c (s_i_sub dX7_put_66) ?_
  refine fa_c (s_ri dX7_put_67 rfl) ?_
  exact fun e he => absurd he List.not_mem_nil
theorem cl_X7_put {G : GX} (hAp : Ap G) : Cl1 (Ct G mts) n_X7_put tb_X7_put := ct_cl (y := n_X7_put) (yn := yX7_put) rfl (by decide +kernel) (ok_X7_put hAp)
theorem dX7_lower_0 : decode cX7_lower 0 = .ok (.aload_n 0, 1) := by decide +kernel
theorem dX7_lower_1 : decode cX7_lower 1 = .ok (.iload_n 1, 1) := by decide +kernel
theorem dX7_lower_2 : decode cX7_lower 2 = .ok (.invokevirtual 116, 3) := by decide +kernel
theorem dX7_lower_5 : decode cX7_lower 5 = .ok (.ifCond .ne 6, 3) := by decide +kernel
theorem dX7_lower_8 : decode cX7_lower 8 = .ok (.ldc 120, 2) := by decide +kernel
theorem dX7_lower_10 : decode cX7_lower 10 = .ok (.ireturn, 1) := by decide +kernel
theorem dX7_lower_11 : decode cX7_lower 11 = .ok (.iload_n 2, 1) := by decide +kernel
theorem dX7_lower_12 : decode cX7_lower 12 = .ok (.sipush (-9999), 3) := by decide +kernel
theorem dX7_lower_15 : decode cX7_lower 15 = .ok (.sipush 9999, 3) := by decide +kernel
theorem dX7_lower_18 : decode cX7_lower 18 = .ok (.invokestatic 106, 3) := by decide +kernel
theorem dX7_lower_21 : decode cX7_lower 21 = .ok (.ifCond .ne 6, 3) := by decide +kernel
theorem dX7_lower_24 : decode cX7_lower 24 = .ok (.ldc 110, 2) := by decide +kernel
theorem dX7_lower_26 : decode cX7_lower 26 = .ok (.ireturn, 1) := by decide +kernel
theorem dX7_lower_27 : decode cX7_lower 27 = .ok (.aload_n 0, 1) := by decide +kernel
theorem dX7_lower_28 : decode cX7_lower 28 = .ok (.getfield 16, 3) := by decide +kernel
theorem dX7_lower_31 : decode cX7_lower 31 = .ok (.iload_n 1, 1) := by decide +kernel
theorem dX7_lower_32 : decode cX7_lower 32 = .ok (.baload, 1) := by decide +kernel
theorem dX7_lower_33 : decode cX7_lower 33 = .ok (.ifCond .eq 13, 3) := by decide +kernel
theorem dX7_lower_36 : decode cX7_lower 36 = .ok (.iload_n 2, 1) := by decide +kernel
theorem dX7_lower_37 : decode cX7_lower 37 = .ok (.aload_n 0, 1) := by decide +kernel
theorem dX7_lower_38 : decode cX7_lower 38 = .ok (.getfield 13, 3) := by decide +kernel
theorem dX7_lower_41 : decode cX7_lower 41 = .ok (.iload_n 1, 1) := by decide +kernel
theorem dX7_lower_42 : decode cX7_lower 42 = .ok (.iaload, 1) := by decide +kernel
theorem dX7_lower_43 : decode cX7_lower 43 = .ok (.if_icmp .lt 6, 3) := by decide +kernel
theorem dX7_lower_46 : decode cX7_lower 46 = .ok (.ldc 121, 2) := by decide +kernel
theorem dX7_lower_48 : decode cX7_lower 48 = .ok (.ireturn, 1) := by decide +kernel
theorem dX7_lower_49 : decode cX7_lower 49 = .ok (.aload_n 0, 1) := by decide +kernel
theorem dX7_lower_50 : decode cX7_lower 50 = .ok (.iload_n 1, 1) := by decide +kernel
theorem dX7_lower_51 : decode cX7_lower 51 = .ok (.iload_n 2, 1) := by decide +kernel
theorem dX7_lower_52 : decode cX7_lower 52 = .ok (.invokevirtual 122, 3) := by decide +kernel
theorem dX7_lower_55 : decode cX7_lower 55 = .ok (.aload_n 0, 1) := by decide +kernel
theorem dX7_lower_56 : decode cX7_lower 56 = .ok (.getfield 23, 3) := by decide +kernel
theorem dX7_lower_59 : decode cX7_lower 59 = .ok (.iload_n 1, 1) := by decide +kernel
theorem dX7_lower_60 : decode cX7_lower 60 = .ok (.baload, 1) := by decide +kernel
theorem dX7_lower_61 : decode cX7_lower 61 = .ok (.ifCond .eq 7, 3) := by decide +kernel
theorem dX7_lower_64 : decode cX7_lower 64 = .ok (.iconst 1, 1) := by decide +kernel
theorem dX7_lower_65 : decode cX7_lower 65 = .ok (.goto 4, 3) := by decide +kernel
theorem dX7_lower_68 : decode cX7_lower 68 = .ok (.iconst 0, 1) := by decide +kernel
theorem dX7_lower_69 : decode cX7_lower 69 = .ok (.ireturn, 1) := by decide +kernel
set_option maxRecDepth 100000 in
theorem ok_X7_lower {G : GX} (hAp : Ap G) : ∀ d, ∀ e ∈ tb_X7_lower, Snd G mts yX7_lower.cls cX7_lower 3 (some .int) d none e.1 e.2 := by
  intro d
  unfold tb_X7_lower
  refine fa_c (s_la_n dX7_lower_0 rfl) ?_
  refine fa_c (s_li_n dX7_lower_1 rfl) ?_
  refine fa_c (s_cv mo_X7_isJob co_X7 (by decide) (fun _ _ => ⟨_, rfl⟩) dX7_lower_2 w_730 w_732 w_20 (by decide)) ?_
  refine fa_c (s_if_ne dX7_lower_5 (by decide)) ?_
  refine fa_c (s_ldc dX7_lower_8 w_734) ?_
  refine fa_c (s_ri dX7_lower_10 rfl) ?_
  refine fa_c (s_li_n dX7_lower_11 rfl) ?_
  refine fa_c (s_sipush dX7_lower_12 (by decide)) ?_
  refine fa_c (s_sipush dX7_lower_15 (by decide)) ?_
  refine fa_c (s_cs mo_X7_in dX7_lower_18 w_717 w_718 (by decide)) ?_
  refine fa_c (s_if_ne dX7_lower_21 (by decide)) ?_
  refine fa_c (s_ldc dX7_lower_24 w_720) ?_
  refine fa_c (s_ri dX7_lower_26 rfl) ?_
  refine fa_c (s_la_n dX7_lower_27 rfl) ?_
  refine fa_c (gf_X7_3 w_636 dX7_lower_28) ?_
  refine fa_c (s_li_n dX7_lower_31 rfl) ?_
  refine fa_c (s_ba dX7_lower_32) ?_
  refine fa_c (s_if_eq dX7_lower_33 (by decide)) ?_
  refine fa_c (s_li_n dX7_lower_36 rfl) ?_
  refine fa_c (s_la_n dX7_lower_37 rfl) ?_
  refine fa_c (gf_X7_2 w_635 dX7_lower_38) ?_
  refine fa_c (s_li_n dX7_lower_41 rfl) ?_
  refine fa_c (s_ia dX7_lower_42) ?_
  refine fa_c (s_ic_lt dX7_lower_43 (by decide)) ?_
  refine fa_c (s_ldc dX7_lower_46 w_735) ?_
  refine fa_c (s_ri dX7_lower_48 rfl) ?_
  refine fa_c (s_la_n dX7_lower_49 rfl) ?_
  refine fa_c (s_li_n dX7_lower_50 rfl) ?_
  refine fa_c (s_li_n dX7_lower_51 rfl) ?_
  refine fa_c (s_cv mo_X7_lowerTo co_X7 (by decide) (fun _ _ => ⟨_, rfl⟩) dX7_lower_52 w_736 w_738 w_21 (by decide)) ?_
  refine fa_c (s_la_n dX7_lower_55 rfl) ?_
  refine fa_c (gf_X7_5 w_638 dX7_lower_56) ?_
  refine fa_c (s_li_n dX7_lower_59 rfl) ?_
  refine fa_c (s_ba dX7_lower_60) ?_
  refine fa_c (s_if_eq dX7_lower_61 (by decide)) ?_
  refine fa_c (s_iconst dX7_lower_64 (by decide)) ?_
  refine fa_c (s_go dX7_lower_65 (by decide)) ?_
  refine fa_c (s_iconst dX7_lower_68 (by decide)) ?_
  refine fa_c (s_ri dX7_lower_69 rfl) ?_
  exact fun e he => absurd he List.not_mem_nil
theorem cl_X7_lower {G : GX} (hAp : Ap G) : Cl1 (Ct G mts) n_X7_lower tb_X7_lower := ct_cl (y := n_X7_lower) (yn := yX7_lower) rfl (by decide +kernel) (ok_X7_lower hAp)
theorem dX7_take_0 : decode cX7_take 0 = .ok (.aload_n 0, 1) := by decide +kernel
theorem dX7_take_1 : decode cX7_take 1 = .ok (.invokevirtual 103, 3) := by decide +kernel
theorem dX7_take_4 : decode cX7_take 4 = .ok (.aload_n 0, 1) := by decide +kernel
theorem dX7_take_5 : decode cX7_take 5 = .ok (.invokevirtual 125, 3) := by decide +kernel
theorem dX7_take_8 : decode cX7_take 8 = .ok (.istore_n 1, 1) := by decide +kernel
theorem dX7_take_9 : decode cX7_take 9 = .ok (.iload_n 1, 1) := by decide +kernel
theorem dX7_take_10 : decode cX7_take 10 = .ok (.iconst (-1), 1) := by decide +kernel
theorem dX7_take_11 : decode cX7_take 11 = .ok (.if_icmp .ne 6, 3) := by decide +kernel
theorem dX7_take_14 : decode cX7_take 14 = .ok (.ldc 121, 2) := by decide +kernel
theorem dX7_take_16 : decode cX7_take 16 = .ok (.ireturn, 1) := by decide +kernel
theorem dX7_take_17 : decode cX7_take 17 = .ok (.aload_n 0, 1) := by decide +kernel
theorem dX7_take_18 : decode cX7_take 18 = .ok (.iload_n 1, 1) := by decide +kernel
theorem dX7_take_19 : decode cX7_take 19 = .ok (.invokevirtual 129, 3) := by decide +kernel
theorem dX7_take_22 : decode cX7_take 22 = .ok (.iload_n 1, 1) := by decide +kernel
theorem dX7_take_23 : decode cX7_take 23 = .ok (.ireturn, 1) := by decide +kernel
set_option maxRecDepth 100000 in
theorem ok_X7_take {G : GX} (hAp : Ap G) : ∀ d, ∀ e ∈ tb_X7_take, Snd G mts yX7_take.cls cX7_take 2 (some .int) d none e.1 e.2 := by
  intro d
  unfold tb_X7_take
  refine fa_c (s_la_n dX7_take_0 rfl) ?_
  refine fa_c (s_cv mo_X7_own co_X7 (by decide) (fun _ _ => ⟨_, rfl⟩) dX7_take_1 w_713 w_715 w_18 (by decide)) ?_
  refine fa_c (s_la_n dX7_take_4 rfl) ?_
  refine fa_c (s_cv mo_X7_soonest co_X7 (by decide) (fun _ _ => ⟨_, rfl⟩) dX7_take_5 w_776 w_778 w_30 (by decide)) ?_
  refine fa_c (s_st_n dX7_take_8 rfl (by decide)) ?_
  refine fa_c (s_li_n dX7_take_9 rfl) ?_
  refine fa_c (s_iconst dX7_take_10 (by decide)) ?_
  refine fa_c (s_ic_ne dX7_take_11 (by decide)) ?_
  refine fa_c (s_ldc dX7_take_14 w_735) ?_
  refine fa_c (s_ri dX7_take_16 rfl) ?_
  refine fa_c (s_la_n dX7_take_17 rfl) ?_
  refine fa_c (s_li_n dX7_take_18 rfl) ?_
  refine fa_c (s_cv mo_X7_remove co_X7 (by decide) (fun _ _ => ⟨_, rfl⟩) dX7_take_19 w_780 w_782 w_31 (by decide)) ?_
  refine fa_c (s_li_n dX7_take_22 rfl) ?_
  refine fa_c (s_ri dX7_take_23 rfl) ?_
  exact fun e he => absurd he List.not_mem_nil
theorem cl_X7_take {G : GX} (hAp : Ap G) : Cl1 (Ct G mts) n_X7_take tb_X7_take := ct_cl (y := n_X7_take) (yn := yX7_take) rfl (by decide +kernel) (ok_X7_take hAp)
theorem dX7_drop_0 : decode cX7_drop 0 = .ok (.aload_n 0, 1) := by decide +kernel
theorem dX7_drop_1 : decode cX7_drop 1 = .ok (.iload_n 1, 1) := by decide +kernel
theorem dX7_drop_2 : decode cX7_drop 2 = .ok (.invokevirtual 116, 3) := by decide +kernel
theorem dX7_drop_5 : decode cX7_drop 5 = .ok (.ifCond .ne 6, 3) := by decide +kernel
theorem dX7_drop_8 : decode cX7_drop 8 = .ok (.ldc 120, 2) := by decide +kernel
theorem dX7_drop_10 : decode cX7_drop 10 = .ok (.ireturn, 1) := by decide +kernel
theorem dX7_drop_11 : decode cX7_drop 11 = .ok (.aload_n 0, 1) := by decide +kernel
theorem dX7_drop_12 : decode cX7_drop 12 = .ok (.getfield 16, 3) := by decide +kernel
theorem dX7_drop_15 : decode cX7_drop 15 = .ok (.iload_n 1, 1) := by decide +kernel
theorem dX7_drop_16 : decode cX7_drop 16 = .ok (.baload, 1) := by decide +kernel
theorem dX7_drop_17 : decode cX7_drop 17 = .ok (.ifCond .ne 6, 3) := by decide +kernel
theorem dX7_drop_20 : decode cX7_drop 20 = .ok (.ldc 121, 2) := by decide +kernel
theorem dX7_drop_22 : decode cX7_drop 22 = .ok (.ireturn, 1) := by decide +kernel
theorem dX7_drop_23 : decode cX7_drop 23 = .ok (.aload_n 0, 1) := by decide +kernel
theorem dX7_drop_24 : decode cX7_drop 24 = .ok (.iload_n 1, 1) := by decide +kernel
theorem dX7_drop_25 : decode cX7_drop 25 = .ok (.invokevirtual 129, 3) := by decide +kernel
theorem dX7_drop_28 : decode cX7_drop 28 = .ok (.aload_n 0, 1) := by decide +kernel
theorem dX7_drop_29 : decode cX7_drop 29 = .ok (.invokevirtual 132, 3) := by decide +kernel
theorem dX7_drop_32 : decode cX7_drop 32 = .ok (.ireturn, 1) := by decide +kernel
set_option maxRecDepth 100000 in
theorem ok_X7_drop {G : GX} (hAp : Ap G) : ∀ d, ∀ e ∈ tb_X7_drop, Snd G mts yX7_drop.cls cX7_drop 2 (some .int) d none e.1 e.2 := by
  intro d
  unfold tb_X7_drop
  refine fa_c (s_la_n dX7_drop_0 rfl) ?_
  refine fa_c (s_li_n dX7_drop_1 rfl) ?_
  refine fa_c (s_cv mo_X7_isJob co_X7 (by decide) (fun _ _ => ⟨_, rfl⟩) dX7_drop_2 w_730 w_732 w_20 (by decide)) ?_
  refine fa_c (s_if_ne dX7_drop_5 (by decide)) ?_
  refine fa_c (s_ldc dX7_drop_8 w_734) ?_
  refine fa_c (s_ri dX7_drop_10 rfl) ?_
  refine fa_c (s_la_n dX7_drop_11 rfl) ?_
  refine fa_c (gf_X7_3 w_636 dX7_drop_12) ?_
  refine fa_c (s_li_n dX7_drop_15 rfl) ?_
  refine fa_c (s_ba dX7_drop_16) ?_
  refine fa_c (s_if_ne dX7_drop_17 (by decide)) ?_
  refine fa_c (s_ldc dX7_drop_20 w_735) ?_
  refine fa_c (s_ri dX7_drop_22 rfl) ?_
  refine fa_c (s_la_n dX7_drop_23 rfl) ?_
  refine fa_c (s_li_n dX7_drop_24 rfl) ?_
  refine fa_c (s_cv mo_X7_remove co_X7 (by decide) (fun _ _ => ⟨_, rfl⟩) dX7_drop_25 w_780 w_782 w_31 (by decide)) ?_
  refine fa_c (s_la_n dX7_drop_28 rfl) ?_
  refine fa_c (s_cv mo_X7_standing co_X7 (by decide) (fun _ _ => ⟨_, rfl⟩) dX7_drop_29 w_792 w_794 w_33 (by decide)) ?_
  refine fa_c (s_ri dX7_drop_32 rfl) ?_
  exact fun e he => absurd he List.not_mem_nil
theorem cl_X7_drop {G : GX} (hAp : Ap G) : Cl1 (Ct G mts) n_X7_drop tb_X7_drop := ct_cl (y := n_X7_drop) (yn := yX7_drop) rfl (by decide +kernel) (ok_X7_drop hAp)

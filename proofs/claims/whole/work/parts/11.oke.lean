-- written by wip/whole/gen2.py
theorem dX7_goFrom_0 : decode cX7_goFrom 0 = .ok (.iconst 0, 1) := by decide +kernel
theorem dX7_goFrom_1 : decode cX7_goFrom 1 = .ok (.istore_n 3, 1) := by decide +kernel
theorem dX7_goFrom_2 : decode cX7_goFrom 2 = .ok (.iload_n 3, 1) := by decide +kernel
theorem dX7_goFrom_3 : decode cX7_goFrom 3 = .ok (.aload_n 0, 1) := by decide +kernel
theorem dX7_goFrom_4 : decode cX7_goFrom 4 = .ok (.getfield 162, 3) := by decide +kernel
theorem dX7_goFrom_7 : decode cX7_goFrom 7 = .ok (.if_icmp .ge 147, 3) := by decide +kernel
theorem dX7_goFrom_10 : decode cX7_goFrom 10 = .ok (.aload_n 0, 1) := by decide +kernel
theorem dX7_goFrom_11 : decode cX7_goFrom 11 = .ok (.getfield 32, 3) := by decide +kernel
theorem dX7_goFrom_14 : decode cX7_goFrom 14 = .ok (.iload_n 3, 1) := by decide +kernel
theorem dX7_goFrom_15 : decode cX7_goFrom 15 = .ok (.iaload, 1) := by decide +kernel
theorem dX7_goFrom_16 : decode cX7_goFrom 16 = .ok (.iload_n 1, 1) := by decide +kernel
theorem dX7_goFrom_17 : decode cX7_goFrom 17 = .ok (.if_icmp .ne 12, 3) := by decide +kernel
theorem dX7_goFrom_20 : decode cX7_goFrom 20 = .ok (.aload_n 0, 1) := by decide +kernel
theorem dX7_goFrom_21 : decode cX7_goFrom 21 = .ok (.getfield 35, 3) := by decide +kernel
theorem dX7_goFrom_24 : decode cX7_goFrom 24 = .ok (.iload_n 3, 1) := by decide +kernel
theorem dX7_goFrom_25 : decode cX7_goFrom 25 = .ok (.iaload, 1) := by decide +kernel
theorem dX7_goFrom_26 : decode cX7_goFrom 26 = .ok (.goto 23, 3) := by decide +kernel
theorem dX7_goFrom_29 : decode cX7_goFrom 29 = .ok (.aload_n 0, 1) := by decide +kernel
theorem dX7_goFrom_30 : decode cX7_goFrom 30 = .ok (.getfield 35, 3) := by decide +kernel
theorem dX7_goFrom_33 : decode cX7_goFrom 33 = .ok (.iload_n 3, 1) := by decide +kernel
theorem dX7_goFrom_34 : decode cX7_goFrom 34 = .ok (.iaload, 1) := by decide +kernel
theorem dX7_goFrom_35 : decode cX7_goFrom 35 = .ok (.iload_n 1, 1) := by decide +kernel
theorem dX7_goFrom_36 : decode cX7_goFrom 36 = .ok (.if_icmp .ne 12, 3) := by decide +kernel
theorem dX7_goFrom_39 : decode cX7_goFrom 39 = .ok (.aload_n 0, 1) := by decide +kernel
theorem dX7_goFrom_40 : decode cX7_goFrom 40 = .ok (.getfield 32, 3) := by decide +kernel
theorem dX7_goFrom_43 : decode cX7_goFrom 43 = .ok (.iload_n 3, 1) := by decide +kernel
theorem dX7_goFrom_44 : decode cX7_goFrom 44 = .ok (.iaload, 1) := by decide +kernel
theorem dX7_goFrom_45 : decode cX7_goFrom 45 = .ok (.goto 4, 3) := by decide +kernel
theorem dX7_goFrom_48 : decode cX7_goFrom 48 = .ok (.iconst (-1), 1) := by decide +kernel
theorem dX7_goFrom_49 : decode cX7_goFrom 49 = .ok (.istore 4, 2) := by decide +kernel
theorem dX7_goFrom_51 : decode cX7_goFrom 51 = .ok (.iload 4, 2) := by decide +kernel
theorem dX7_goFrom_53 : decode cX7_goFrom 53 = .ok (.iconst (-1), 1) := by decide +kernel
theorem dX7_goFrom_54 : decode cX7_goFrom 54 = .ok (.if_icmp .eq 94, 3) := by decide +kernel
theorem dX7_goFrom_57 : decode cX7_goFrom 57 = .ok (.aload_n 0, 1) := by decide +kernel
theorem dX7_goFrom_58 : decode cX7_goFrom 58 = .ok (.getfield 16, 3) := by decide +kernel
theorem dX7_goFrom_61 : decode cX7_goFrom 61 = .ok (.bipush 40, 2) := by decide +kernel
theorem dX7_goFrom_63 : decode cX7_goFrom 63 = .ok (.iload 4, 2) := by decide +kernel
theorem dX7_goFrom_65 : decode cX7_goFrom 65 = .ok (.iadd, 1) := by decide +kernel
theorem dX7_goFrom_66 : decode cX7_goFrom 66 = .ok (.baload, 1) := by decide +kernel
theorem dX7_goFrom_67 : decode cX7_goFrom 67 = .ok (.ifCond .eq 81, 3) := by decide +kernel
theorem dX7_goFrom_70 : decode cX7_goFrom 70 = .ok (.aload_n 0, 1) := by decide +kernel
theorem dX7_goFrom_71 : decode cX7_goFrom 71 = .ok (.getfield 38, 3) := by decide +kernel
theorem dX7_goFrom_74 : decode cX7_goFrom 74 = .ok (.iload_n 3, 1) := by decide +kernel
theorem dX7_goFrom_75 : decode cX7_goFrom 75 = .ok (.iaload, 1) := by decide +kernel
theorem dX7_goFrom_76 : decode cX7_goFrom 76 = .ok (.iload_n 2, 1) := by decide +kernel
theorem dX7_goFrom_77 : decode cX7_goFrom 77 = .ok (.ifCond .eq 15, 3) := by decide +kernel
theorem dX7_goFrom_80 : decode cX7_goFrom 80 = .ok (.aload_n 0, 1) := by decide +kernel
theorem dX7_goFrom_81 : decode cX7_goFrom 81 = .ok (.getfield 13, 3) := by decide +kernel
theorem dX7_goFrom_84 : decode cX7_goFrom 84 = .ok (.bipush 40, 2) := by decide +kernel
theorem dX7_goFrom_86 : decode cX7_goFrom 86 = .ok (.iload_n 1, 1) := by decide +kernel
theorem dX7_goFrom_87 : decode cX7_goFrom 87 = .ok (.iadd, 1) := by decide +kernel
theorem dX7_goFrom_88 : decode cX7_goFrom 88 = .ok (.iaload, 1) := by decide +kernel
theorem dX7_goFrom_89 : decode cX7_goFrom 89 = .ok (.goto 4, 3) := by decide +kernel
theorem dX7_goFrom_92 : decode cX7_goFrom 92 = .ok (.iconst 0, 1) := by decide +kernel
theorem dX7_goFrom_93 : decode cX7_goFrom 93 = .ok (.iadd, 1) := by decide +kernel
theorem dX7_goFrom_94 : decode cX7_goFrom 94 = .ok (.istore 5, 2) := by decide +kernel
theorem dX7_goFrom_96 : decode cX7_goFrom 96 = .ok (.iload 5, 2) := by decide +kernel
theorem dX7_goFrom_98 : decode cX7_goFrom 98 = .ok (.aload_n 0, 1) := by decide +kernel
theorem dX7_goFrom_99 : decode cX7_goFrom 99 = .ok (.getfield 13, 3) := by decide +kernel
theorem dX7_goFrom_102 : decode cX7_goFrom 102 = .ok (.bipush 40, 2) := by decide +kernel
theorem dX7_goFrom_104 : decode cX7_goFrom 104 = .ok (.iload 4, 2) := by decide +kernel
theorem dX7_goFrom_106 : decode cX7_goFrom 106 = .ok (.iadd, 1) := by decide +kernel
theorem dX7_goFrom_107 : decode cX7_goFrom 107 = .ok (.iaload, 1) := by decide +kernel
theorem dX7_goFrom_108 : decode cX7_goFrom 108 = .ok (.if_icmp .ge 40, 3) := by decide +kernel
theorem dX7_goFrom_111 : decode cX7_goFrom 111 = .ok (.iload 5, 2) := by decide +kernel
theorem dX7_goFrom_113 : decode cX7_goFrom 113 = .ok (.sipush 9999, 3) := by decide +kernel
theorem dX7_goFrom_116 : decode cX7_goFrom 116 = .ok (.if_icmp .ge 32, 3) := by decide +kernel
theorem dX7_goFrom_119 : decode cX7_goFrom 119 = .ok (.aload_n 0, 1) := by decide +kernel
theorem dX7_goFrom_120 : decode cX7_goFrom 120 = .ok (.getfield 41, 3) := by decide +kernel
theorem dX7_goFrom_123 : decode cX7_goFrom 123 = .ok (.iload 4, 2) := by decide +kernel
theorem dX7_goFrom_125 : decode cX7_goFrom 125 = .ok (.iload_n 3, 1) := by decide +kernel
theorem dX7_goFrom_126 : decode cX7_goFrom 126 = .ok (.iastore, 1) := by decide +kernel
theorem dX7_goFrom_127 : decode cX7_goFrom 127 = .ok (.aload_n 0, 1) := by decide +kernel
theorem dX7_goFrom_128 : decode cX7_goFrom 128 = .ok (.dup, 1) := by decide +kernel
theorem dX7_goFrom_129 : decode cX7_goFrom 129 = .ok (.getfield 185, 3) := by decide +kernel
theorem dX7_goFrom_132 : decode cX7_goFrom 132 = .ok (.iconst 1, 1) := by decide +kernel
theorem dX7_goFrom_133 : decode cX7_goFrom 133 = .ok (.iadd, 1) := by decide +kernel
theorem dX7_goFrom_134 : decode cX7_goFrom 134 = .ok (.putfield 185, 3) := by decide +kernel
theorem dX7_goFrom_137 : decode cX7_goFrom 137 = .ok (.aload_n 0, 1) := by decide +kernel
theorem dX7_goFrom_138 : decode cX7_goFrom 138 = .ok (.bipush 40, 2) := by decide +kernel
theorem dX7_goFrom_140 : decode cX7_goFrom 140 = .ok (.iload 4, 2) := by decide +kernel
theorem dX7_goFrom_142 : decode cX7_goFrom 142 = .ok (.iadd, 1) := by decide +kernel
theorem dX7_goFrom_143 : decode cX7_goFrom 143 = .ok (.iload 5, 2) := by decide +kernel
theorem dX7_goFrom_145 : decode cX7_goFrom 145 = .ok (.invokevirtual 122, 3) := by decide +kernel
theorem dX7_goFrom_148 : decode cX7_goFrom 148 = .ok (.iinc 3 1, 3) := by decide +kernel
theorem dX7_goFrom_151 : decode cX7_goFrom 151 = .ok (.goto (-149), 3) := by decide +kernel
theorem dX7_goFrom_154 : decode cX7_goFrom 154 = .ok (.return_, 1) := by decide +kernel
set_option maxRecDepth 100000 in
theorem ok_X7_goFrom {G : GX} (hAp : Ap G) : ∀ d, ∀ e ∈ tb_X7_goFrom, Snd G mts yX7_goFrom.cls cX7_goFrom 6 (none) d none e.1 e.2 := by
  intro d
  unfold tb_X7_goFrom
  refine fa_c (s_iconst dX7_goFrom_0 (by decide)) ?_
  refine fa_c (s_st_n dX7_goFrom_1 rfl (by decide)) ?_
  refine fa_c (s_li_n dX7_goFrom_2 rfl) ?_
  refine fa_c (s_la_n dX7_goFrom_3 rfl) ?_
  refine fa_c (gf_X7_14 w_647 dX7_goFrom_4) ?_
  refine fa_c (s_ic_ge dX7_goFrom_7 (by decide)) ?_
  refine fa_c (s_la_n dX7_goFrom_10 rfl) ?_
  refine fa_c (gf_X7_15 w_648 dX7_goFrom_11) ?_
  refine fa_c (s_li_n dX7_goFrom_14 rfl) ?_
  refine fa_c (s_ia dX7_goFrom_15) ?_
  refine fa_c (s_li_n dX7_goFrom_16 rfl) ?_
  refine fa_c (s_ic_ne dX7_goFrom_17 (by decide)) ?_
  refine fa_c (s_la_n dX7_goFrom_20 rfl) ?_
  refine fa_c (gf_X7_16 w_649 dX7_goFrom_21) ?_
  refine fa_c (s_li_n dX7_goFrom_24 rfl) ?_
  refine fa_c (s_ia dX7_goFrom_25) ?_
  refine fa_c (s_go dX7_goFrom_26 (by decide)) ?_
  refine fa_c (s_la_n dX7_goFrom_29 rfl) ?_
  refine fa_c (gf_X7_16 w_649 dX7_goFrom_30) ?_
  refine fa_c (s_li_n dX7_goFrom_33 rfl) ?_
  refine fa_c (s_ia dX7_goFrom_34) ?_
  refine fa_c (s_li_n dX7_goFrom_35 rfl) ?_
  refine fa_c (s_ic_ne dX7_goFrom_36 (by decide)) ?_
  refine fa_c (s_la_n dX7_goFrom_39 rfl) ?_
  refine fa_c (gf_X7_15 w_648 dX7_goFrom_40) ?_
  refine fa_c (s_li_n dX7_goFrom_43 rfl) ?_
  refine fa_c (s_ia dX7_goFrom_44) ?_
  refine fa_c (s_go dX7_goFrom_45 (by decide)) ?_
  refine fa_c (s_iconst dX7_goFrom_48 (by decide)) ?_
  refine fa_c (s_st dX7_goFrom_49 (by decide)) ?_
  refine fa_c (s_li dX7_goFrom_51) ?_
  refine fa_c (s_iconst dX7_goFrom_53 (by decide)) ?_
  refine fa_c (s_ic_eq dX7_goFrom_54 (by decide)) ?_
  refine fa_c (s_la_n dX7_goFrom_57 rfl) ?_
  refine fa_c (gf_X7_3 w_636 dX7_goFrom_58) ?_
  refine fa_c (s_bipush dX7_goFrom_61 (by decide)) ?_
  refine fa_c (s_li dX7_goFrom_63) ?_
  refine fa_c (s_i_add dX7_goFrom_65) ?_
  refine fa_c (s_ba dX7_goFrom_66) ?_
  refine fa_c (s_if_eq dX7_goFrom_67 (by decide)) ?_
  refine fa_c (s_la_n dX7_goFrom_70 rfl) ?_
  refine fa_c (gf_X7_17 w_650 dX7_goFrom_71) ?_
  refine fa_c (s_li_n dX7_goFrom_74 rfl) ?_
  refine fa_c (s_ia dX7_goFrom_75) ?_
  refine fa_c (s_li_n dX7_goFrom_76 rfl) ?_
  refine fa_c (s_if_eq dX7_goFrom_77 (by decide)) ?_
  refine fa_c (s_la_n dX7_goFrom_80 rfl) ?_
  refine fa_c (gf_X7_2 w_635 dX7_goFrom_81) ?_
  refine fa_c (s_bipush dX7_goFrom_84 (by decide)) ?_
  refine fa_c (s_li_n dX7_goFrom_86 rfl) ?_
  refine fa_c (s_i_add dX7_goFrom_87) ?_
  refine fa_c (s_ia dX7_goFrom_88) ?_
  refine fa_c (s_go dX7_goFrom_89 (by decide)) ?_
  refine fa_c (s_iconst dX7_goFrom_92 (by decide)) ?_
  refine fa_c (s_i_add dX7_goFrom_93) ?_
  refine fa_c (s_st dX7_goFrom_94 (by decide)) ?_
  refine fa_c (s_li dX7_goFrom_96) ?_
  refine fa_c (s_la_n dX7_goFrom_98 rfl) ?_
  refine fa_c (gf_X7_2 w_635 dX7_goFrom_99) ?_
  refine fa_c (s_bipush dX7_goFrom_102 (by decide)) ?_
  refine fa_c (s_li dX7_goFrom_104) ?_
  refine fa_c (s_i_add dX7_goFrom_106) ?_
  refine fa_c (s_ia dX7_goFrom_107) ?_
  refine fa_c (s_ic_ge dX7_goFrom_108 (by decide)) ?_
  refine fa_c (s_li dX7_goFrom_111) ?_
  refine fa_c (s_sipush dX7_goFrom_113 (by decide)) ?_
  refine fa_c (s_ic_ge dX7_goFrom_116 (by decide)) ?_
  refine fa_c (s_la_n dX7_goFrom_119 rfl) ?_
  refine fa_c (gf_X7_18 w_651 dX7_goFrom_120) ?_
  refine fa_c (s_li dX7_goFrom_123) ?_
  refine fa_c (s_li_n dX7_goFrom_125 rfl) ?_
  refine fa_c (s_is hAp dX7_goFrom_126) ?_
  refine fa_c (s_la_n dX7_goFrom_127 rfl) ?_
  refine fa_c (s_i_dup dX7_goFrom_128) ?_
  refine fa_c (gf_X7_19 w_652 dX7_goFrom_129) ?_
  refine fa_c (s_iconst dX7_goFrom_132 (by decide)) ?_
  refine fa_c (s_i_add dX7_goFrom_133) ?_
  refine fa_c (pf_X7_19 hAp w_652 dX7_goFrom_134) ?_
  refine fa_c (s_la_n dX7_goFrom_137 rfl) ?_
  refine fa_c (s_bipush dX7_goFrom_138 (by decide)) ?_
  refine fa_c (s_li dX7_goFrom_140) ?_
  refine fa_c (s_i_add dX7_goFrom_142) ?_
  refine fa_c (s_li dX7_goFrom_143) ?_
  refine fa_c (s_cv mo_X7_lowerTo co_X7 (by decide) (fun _ _ => ⟨_, rfl⟩) dX7_goFrom_145 w_736 w_738 w_21 (by decide)) ?_
  refine fa_c (s_inc dX7_goFrom_148 (by decide) (by decide)) ?_
  refine fa_c (s_go dX7_goFrom_151 (by decide)) ?_
  refine fa_c (s_rv dX7_goFrom_154 rfl) ?_
  exact fun e he => absurd he List.not_mem_nil
theorem cl_X7_goFrom {G : GX} (hAp : Ap G) : Cl1 (Ct G mts) n_X7_goFrom tb_X7_goFrom := ct_cl (y := n_X7_goFrom) (yn := yX7_goFrom) rfl (by decide +kernel) (ok_X7_goFrom hAp)
theorem dX7_lay_0 : decode cX7_lay 0 = .ok (.aload_n 0, 1) := by decide +kernel
theorem dX7_lay_1 : decode cX7_lay 1 = .ok (.getfield 67, 3) := by decide +kernel
theorem dX7_lay_4 : decode cX7_lay 4 = .ok (.istore_n 3, 1) := by decide +kernel
theorem dX7_lay_5 : decode cX7_lay 5 = .ok (.aload_n 0, 1) := by decide +kernel
theorem dX7_lay_6 : decode cX7_lay 6 = .ok (.getfield 70, 3) := by decide +kernel
theorem dX7_lay_9 : decode cX7_lay 9 = .ok (.istore 4, 2) := by decide +kernel
theorem dX7_lay_11 : decode cX7_lay 11 = .ok (.aload_n 0, 1) := by decide +kernel
theorem dX7_lay_12 : decode cX7_lay 12 = .ok (.getfield 64, 3) := by decide +kernel
theorem dX7_lay_15 : decode cX7_lay 15 = .ok (.istore 5, 2) := by decide +kernel
theorem dX7_lay_17 : decode cX7_lay 17 = .ok (.aload_n 0, 1) := by decide +kernel
theorem dX7_lay_18 : decode cX7_lay 18 = .ok (.bipush 40, 2) := by decide +kernel
theorem dX7_lay_20 : decode cX7_lay 20 = .ok (.putfield 50, 3) := by decide +kernel
theorem dX7_lay_23 : decode cX7_lay 23 = .ok (.aload_n 0, 1) := by decide +kernel
theorem dX7_lay_24 : decode cX7_lay 24 = .ok (.iconst 0, 1) := by decide +kernel
theorem dX7_lay_25 : decode cX7_lay 25 = .ok (.putfield 185, 3) := by decide +kernel
theorem dX7_lay_28 : decode cX7_lay 28 = .ok (.iconst 0, 1) := by decide +kernel
theorem dX7_lay_29 : decode cX7_lay 29 = .ok (.istore 6, 2) := by decide +kernel
theorem dX7_lay_31 : decode cX7_lay 31 = .ok (.iload 6, 2) := by decide +kernel
theorem dX7_lay_33 : decode cX7_lay 33 = .ok (.aload_n 0, 1) := by decide +kernel
theorem dX7_lay_34 : decode cX7_lay 34 = .ok (.getfield 159, 3) := by decide +kernel
theorem dX7_lay_37 : decode cX7_lay 37 = .ok (.if_icmp .ge 40, 3) := by decide +kernel
theorem dX7_lay_40 : decode cX7_lay 40 = .ok (.aload_n 0, 1) := by decide +kernel
theorem dX7_lay_41 : decode cX7_lay 41 = .ok (.getfield 41, 3) := by decide +kernel
theorem dX7_lay_44 : decode cX7_lay 44 = .ok (.iload 6, 2) := by decide +kernel
theorem dX7_lay_46 : decode cX7_lay 46 = .ok (.iconst (-1), 1) := by decide +kernel
theorem dX7_lay_47 : decode cX7_lay 47 = .ok (.iastore, 1) := by decide +kernel
theorem dX7_lay_48 : decode cX7_lay 48 = .ok (.aload_n 0, 1) := by decide +kernel
theorem dX7_lay_49 : decode cX7_lay 49 = .ok (.bipush 40, 2) := by decide +kernel
theorem dX7_lay_51 : decode cX7_lay 51 = .ok (.iload 6, 2) := by decide +kernel
theorem dX7_lay_53 : decode cX7_lay 53 = .ok (.iadd, 1) := by decide +kernel
theorem dX7_lay_54 : decode cX7_lay 54 = .ok (.iconst 0, 1) := by decide +kernel
theorem dX7_lay_55 : decode cX7_lay 55 = .ok (.iload 6, 2) := by decide +kernel
theorem dX7_lay_57 : decode cX7_lay 57 = .ok (.iload_n 1, 1) := by decide +kernel
theorem dX7_lay_58 : decode cX7_lay 58 = .ok (.if_icmp .ne 7, 3) := by decide +kernel
theorem dX7_lay_61 : decode cX7_lay 61 = .ok (.iconst 0, 1) := by decide +kernel
theorem dX7_lay_62 : decode cX7_lay 62 = .ok (.goto 6, 3) := by decide +kernel
theorem dX7_lay_65 : decode cX7_lay 65 = .ok (.sipush 9999, 3) := by decide +kernel
theorem dX7_lay_68 : decode cX7_lay 68 = .ok (.invokevirtual 112, 3) := by decide +kernel
theorem dX7_lay_71 : decode cX7_lay 71 = .ok (.iinc 6 1, 3) := by decide +kernel
theorem dX7_lay_74 : decode cX7_lay 74 = .ok (.goto (-43), 3) := by decide +kernel
theorem dX7_lay_77 : decode cX7_lay 77 = .ok (.iconst 0, 1) := by decide +kernel
theorem dX7_lay_78 : decode cX7_lay 78 = .ok (.istore 6, 2) := by decide +kernel
theorem dX7_lay_80 : decode cX7_lay 80 = .ok (.aload_n 0, 1) := by decide +kernel
theorem dX7_lay_81 : decode cX7_lay 81 = .ok (.invokevirtual 125, 3) := by decide +kernel
theorem dX7_lay_84 : decode cX7_lay 84 = .ok (.istore 7, 2) := by decide +kernel
theorem dX7_lay_86 : decode cX7_lay 86 = .ok (.iload 7, 2) := by decide +kernel
theorem dX7_lay_88 : decode cX7_lay 88 = .ok (.iconst (-1), 1) := by decide +kernel
theorem dX7_lay_89 : decode cX7_lay 89 = .ok (.if_icmp .eq 49, 3) := by decide +kernel
theorem dX7_lay_92 : decode cX7_lay 92 = .ok (.aload_n 0, 1) := by decide +kernel
theorem dX7_lay_93 : decode cX7_lay 93 = .ok (.iload 7, 2) := by decide +kernel
theorem dX7_lay_95 : decode cX7_lay 95 = .ok (.invokevirtual 129, 3) := by decide +kernel
theorem dX7_lay_98 : decode cX7_lay 98 = .ok (.iload 6, 2) := by decide +kernel
theorem dX7_lay_100 : decode cX7_lay 100 = .ok (.ifCond .eq 16, 3) := by decide +kernel
theorem dX7_lay_103 : decode cX7_lay 103 = .ok (.aload_n 0, 1) := by decide +kernel
theorem dX7_lay_104 : decode cX7_lay 104 = .ok (.getfield 13, 3) := by decide +kernel
theorem dX7_lay_107 : decode cX7_lay 107 = .ok (.iload 7, 2) := by decide +kernel
theorem dX7_lay_109 : decode cX7_lay 109 = .ok (.iaload, 1) := by decide +kernel
theorem dX7_lay_110 : decode cX7_lay 110 = .ok (.sipush 9999, 3) := by decide +kernel
theorem dX7_lay_113 : decode cX7_lay 113 = .ok (.if_icmp .ge 13, 3) := by decide +kernel
theorem dX7_lay_116 : decode cX7_lay 116 = .ok (.aload_n 0, 1) := by decide +kernel
theorem dX7_lay_117 : decode cX7_lay 117 = .ok (.iload 7, 2) := by decide +kernel
theorem dX7_lay_119 : decode cX7_lay 119 = .ok (.bipush 40, 2) := by decide +kernel
theorem dX7_lay_121 : decode cX7_lay 121 = .ok (.isub, 1) := by decide +kernel
theorem dX7_lay_122 : decode cX7_lay 122 = .ok (.iload_n 2, 1) := by decide +kernel
theorem dX7_lay_123 : decode cX7_lay 123 = .ok (.invokevirtual 188, 3) := by decide +kernel
theorem dX7_lay_126 : decode cX7_lay 126 = .ok (.iinc 6 1, 3) := by decide +kernel
theorem dX7_lay_129 : decode cX7_lay 129 = .ok (.aload_n 0, 1) := by decide +kernel
theorem dX7_lay_130 : decode cX7_lay 130 = .ok (.invokevirtual 125, 3) := by decide +kernel
theorem dX7_lay_133 : decode cX7_lay 133 = .ok (.istore 7, 2) := by decide +kernel
theorem dX7_lay_135 : decode cX7_lay 135 = .ok (.goto (-49), 3) := by decide +kernel
theorem dX7_lay_138 : decode cX7_lay 138 = .ok (.aload_n 0, 1) := by decide +kernel
theorem dX7_lay_139 : decode cX7_lay 139 = .ok (.aload_n 0, 1) := by decide +kernel
theorem dX7_lay_140 : decode cX7_lay 140 = .ok (.getfield 67, 3) := by decide +kernel
theorem dX7_lay_143 : decode cX7_lay 143 = .ok (.iload_n 3, 1) := by decide +kernel
theorem dX7_lay_144 : decode cX7_lay 144 = .ok (.isub, 1) := by decide +kernel
theorem dX7_lay_145 : decode cX7_lay 145 = .ok (.putfield 192, 3) := by decide +kernel
theorem dX7_lay_148 : decode cX7_lay 148 = .ok (.aload_n 0, 1) := by decide +kernel
theorem dX7_lay_149 : decode cX7_lay 149 = .ok (.aload_n 0, 1) := by decide +kernel
theorem dX7_lay_150 : decode cX7_lay 150 = .ok (.getfield 70, 3) := by decide +kernel
theorem dX7_lay_153 : decode cX7_lay 153 = .ok (.iload 4, 2) := by decide +kernel
theorem dX7_lay_155 : decode cX7_lay 155 = .ok (.isub, 1) := by decide +kernel
theorem dX7_lay_156 : decode cX7_lay 156 = .ok (.putfield 195, 3) := by decide +kernel
theorem dX7_lay_159 : decode cX7_lay 159 = .ok (.aload_n 0, 1) := by decide +kernel
theorem dX7_lay_160 : decode cX7_lay 160 = .ok (.iload_n 3, 1) := by decide +kernel
theorem dX7_lay_161 : decode cX7_lay 161 = .ok (.putfield 67, 3) := by decide +kernel
theorem dX7_lay_164 : decode cX7_lay 164 = .ok (.aload_n 0, 1) := by decide +kernel
theorem dX7_lay_165 : decode cX7_lay 165 = .ok (.iload 4, 2) := by decide +kernel
theorem dX7_lay_167 : decode cX7_lay 167 = .ok (.putfield 70, 3) := by decide +kernel
theorem dX7_lay_170 : decode cX7_lay 170 = .ok (.aload_n 0, 1) := by decide +kernel
theorem dX7_lay_171 : decode cX7_lay 171 = .ok (.iload 5, 2) := by decide +kernel
theorem dX7_lay_173 : decode cX7_lay 173 = .ok (.putfield 64, 3) := by decide +kernel
theorem dX7_lay_176 : decode cX7_lay 176 = .ok (.aload_n 0, 1) := by decide +kernel
theorem dX7_lay_177 : decode cX7_lay 177 = .ok (.invokevirtual 103, 3) := by decide +kernel
theorem dX7_lay_180 : decode cX7_lay 180 = .ok (.return_, 1) := by decide +kernel
set_option maxRecDepth 100000 in
theorem ok_X7_lay {G : GX} (hAp : Ap G) : ∀ d, ∀ e ∈ tb_X7_lay, Snd G mts yX7_lay.cls cX7_lay 8 (none) d none e.1 e.2 := by
  intro d
  unfold tb_X7_lay
  refine fa_c (s_la_n dX7_lay_0 rfl) ?_
  refine fa_c (gf_X7_8 w_641 dX7_lay_1) ?_
  refine fa_c (s_st_n dX7_lay_4 rfl (by decide)) ?_
  refine fa_c (s_la_n dX7_lay_5 rfl) ?_
  refine fa_c (gf_X7_9 w_642 dX7_lay_6) ?_
  refine fa_c (s_st dX7_lay_9 (by decide)) ?_
  refine fa_c (s_la_n dX7_lay_11 rfl) ?_
  refine fa_c (gf_X7_7 w_640 dX7_lay_12) ?_
  refine fa_c (s_st dX7_lay_15 (by decide)) ?_
  refine fa_c (s_la_n dX7_lay_17 rfl) ?_
  refine fa_c (s_bipush dX7_lay_18 (by decide)) ?_
  refine fa_c (pf_X7_10 hAp w_643 dX7_lay_20) ?_
  refine fa_c (s_la_n dX7_lay_23 rfl) ?_
  refine fa_c (s_iconst dX7_lay_24 (by decide)) ?_
  refine fa_c (pf_X7_19 hAp w_652 dX7_lay_25) ?_
  refine fa_c (s_iconst dX7_lay_28 (by decide)) ?_
  refine fa_c (s_st dX7_lay_29 (by decide)) ?_
  refine fa_c (s_li dX7_lay_31) ?_
  refine fa_c (s_la_n dX7_lay_33 rfl) ?_
  refine fa_c (gf_X7_13 w_646 dX7_lay_34) ?_
  refine fa_c (s_ic_ge dX7_lay_37 (by decide)) ?_
  refine fa_c (s_la_n dX7_lay_40 rfl) ?_
  refine fa_c (gf_X7_18 w_651 dX7_lay_41) ?_
  refine fa_c (s_li dX7_lay_44) ?_
  refine fa_c (s_iconst dX7_lay_46 (by decide)) ?_
  refine fa_c (s_is hAp dX7_lay_47) ?_
  refine fa_c (s_la_n dX7_lay_48 rfl) ?_
  refine fa_c (s_bipush dX7_lay_49 (by decide)) ?_
  refine fa_c (s_li dX7_lay_51) ?_
  refine fa_c (s_i_add dX7_lay_53) ?_
  refine fa_c (s_iconst dX7_lay_54 (by decide)) ?_
  refine fa_c (s_li dX7_lay_55) ?_
  refine fa_c (s_li_n dX7_lay_57 rfl) ?_
  refine fa_c (s_ic_ne dX7_lay_58 (by decide)) ?_
  refine fa_c (s_iconst dX7_lay_61 (by decide)) ?_
  refine fa_c (s_go dX7_lay_62 (by decide)) ?_
  refine fa_c (s_sipush dX7_lay_65 (by decide)) ?_
  refine fa_c (s_cv mo_X7_add co_X7 (by decide) (fun _ _ => ⟨_, rfl⟩) dX7_lay_68 w_722 w_724 w_19 (by decide)) ?_
  refine fa_c (s_inc dX7_lay_71 (by decide) (by decide)) ?_
  refine fa_c (s_go dX7_lay_74 (by decide)) ?_
  refine fa_c (s_iconst dX7_lay_77 (by decide)) ?_
  refine fa_c (s_st dX7_lay_78 (by decide)) ?_
  refine fa_c (s_la_n dX7_lay_80 rfl) ?_
  refine fa_c (s_cv mo_X7_soonest co_X7 (by decide) (fun _ _ => ⟨_, rfl⟩) dX7_lay_81 w_776 w_778 w_30 (by decide)) ?_
  refine fa_c (s_st dX7_lay_84 (by decide)) ?_
  refine fa_c (s_li dX7_lay_86) ?_
  refine fa_c (s_iconst dX7_lay_88 (by decide)) ?_
  refine fa_c (s_ic_eq dX7_lay_89 (by decide)) ?_
  refine fa_c (s_la_n dX7_lay_92 rfl) ?_
  refine fa_c (s_li dX7_lay_93) ?_
  refine fa_c (s_cv mo_X7_remove co_X7 (by decide) (fun _ _ => ⟨_, rfl⟩) dX7_lay_95 w_780 w_782 w_31 (by decide)) ?_
  refine fa_c (s_li dX7_lay_98) ?_
  refine fa_c (s_if_eq dX7_lay_100 (by decide)) ?_
  refine fa_c (s_la_n dX7_lay_103 rfl) ?_
  refine fa_c (gf_X7_2 w_635 dX7_lay_104) ?_
  refine fa_c (s_li dX7_lay_107) ?_
  refine fa_c (s_ia dX7_lay_109) ?_
  refine fa_c (s_sipush dX7_lay_110 (by decide)) ?_
  refine fa_c (s_ic_ge dX7_lay_113 (by decide)) ?_
  refine fa_c (s_la_n dX7_lay_116 rfl) ?_
  refine fa_c (s_li dX7_lay_117) ?_
  refine fa_c (s_bipush dX7_lay_119 (by decide)) ?_
  refine fa_c (s_i_sub dX7_lay_121) ?_
  refine fa_c (s_li_n dX7_lay_122 rfl) ?_
  refine fa_c (s_cv mo_X7_goFrom co_X7 (by decide) (fun _ _ => ⟨_, rfl⟩) dX7_lay_123 w_897 w_899 w_43 (by decide)) ?_
  refine fa_c (s_inc dX7_lay_126 (by decide) (by decide)) ?_
  refine fa_c (s_la_n dX7_lay_129 rfl) ?_
  refine fa_c (s_cv mo_X7_soonest co_X7 (by decide) (fun _ _ => ⟨_, rfl⟩) dX7_lay_130 w_776 w_778 w_30 (by decide)) ?_
  refine fa_c (s_st dX7_lay_133 (by decide)) ?_
  refine fa_c (s_go dX7_lay_135 (by decide)) ?_
  refine fa_c (s_la_n dX7_lay_138 rfl) ?_
  refine fa_c (s_la_n dX7_lay_139 rfl) ?_
  refine fa_c (gf_X7_8 w_641 dX7_lay_140) ?_
  refine fa_c (s_li_n dX7_lay_143 rfl) ?_
  refine fa_c (s_i_sub dX7_lay_144) ?_
  refine fa_c (pf_X7_20 hAp w_653 dX7_lay_145) ?_
  refine fa_c (s_la_n dX7_lay_148 rfl) ?_
  refine fa_c (s_la_n dX7_lay_149 rfl) ?_
  refine fa_c (gf_X7_9 w_642 dX7_lay_150) ?_
  refine fa_c (s_li dX7_lay_153) ?_
  refine fa_c (s_i_sub dX7_lay_155) ?_
  refine fa_c (pf_X7_21 hAp w_654 dX7_lay_156) ?_
  refine fa_c (s_la_n dX7_lay_159 rfl) ?_
  refine fa_c (s_li_n dX7_lay_160 rfl) ?_
  refine fa_c (pf_X7_8 hAp w_641 dX7_lay_161) ?_
  refine fa_c (s_la_n dX7_lay_164 rfl) ?_
  refine fa_c (s_li dX7_lay_165) ?_
  refine fa_c (pf_X7_9 hAp w_642 dX7_lay_167) ?_
  refine fa_c (s_la_n dX7_lay_170 rfl) ?_
  refine fa_c (s_li dX7_lay_171) ?_
  refine fa_c (pf_X7_7 hAp w_640 dX7_lay_173) ?_
  refine fa_c (s_la_n dX7_lay_176 rfl) ?_
  refine fa_c (s_cv mo_X7_own co_X7 (by decide) (fun _ _ => ⟨_, rfl⟩) dX7_lay_177 w_713 w_715 w_18 (by decide)) ?_
  refine fa_c (s_rv dX7_lay_180 rfl) ?_
  exact fun e he => absurd he List.not_mem_nil
theorem cl_X7_lay {G : GX} (hAp : Ap G) : Cl1 (Ct G mts) n_X7_lay tb_X7_lay := ct_cl (y := n_X7_lay) (yn := yX7_lay) rfl (by decide +kernel) (ok_X7_lay hAp)
theorem dX7_hanging_0 : decode cX7_hanging 0 = .ok (.iconst 0, 1) := by decide +kernel
theorem dX7_hanging_1 : decode cX7_hanging 1 = .ok (.istore_n 2, 1) := by decide +kernel
theorem dX7_hanging_2 : decode cX7_hanging 2 = .ok (.iconst 0, 1) := by decide +kernel
theorem dX7_hanging_3 : decode cX7_hanging 3 = .ok (.istore_n 3, 1) := by decide +kernel
theorem dX7_hanging_4 : decode cX7_hanging 4 = .ok (.iload_n 3, 1) := by decide +kernel
theorem dX7_hanging_5 : decode cX7_hanging 5 = .ok (.aload_n 0, 1) := by decide +kernel
theorem dX7_hanging_6 : decode cX7_hanging 6 = .ok (.getfield 159, 3) := by decide +kernel
theorem dX7_hanging_9 : decode cX7_hanging 9 = .ok (.if_icmp .ge 52, 3) := by decide +kernel
theorem dX7_hanging_12 : decode cX7_hanging 12 = .ok (.iload_n 2, 1) := by decide +kernel
theorem dX7_hanging_13 : decode cX7_hanging 13 = .ok (.aload_n 0, 1) := by decide +kernel
theorem dX7_hanging_14 : decode cX7_hanging 14 = .ok (.getfield 41, 3) := by decide +kernel
theorem dX7_hanging_17 : decode cX7_hanging 17 = .ok (.iload_n 3, 1) := by decide +kernel
theorem dX7_hanging_18 : decode cX7_hanging 18 = .ok (.iaload, 1) := by decide +kernel
theorem dX7_hanging_19 : decode cX7_hanging 19 = .ok (.iconst (-1), 1) := by decide +kernel
theorem dX7_hanging_20 : decode cX7_hanging 20 = .ok (.if_icmp .ne 7, 3) := by decide +kernel
theorem dX7_hanging_23 : decode cX7_hanging 23 = .ok (.iconst 0, 1) := by decide +kernel
theorem dX7_hanging_24 : decode cX7_hanging 24 = .ok (.goto 29, 3) := by decide +kernel
theorem dX7_hanging_27 : decode cX7_hanging 27 = .ok (.iload_n 1, 1) := by decide +kernel
theorem dX7_hanging_28 : decode cX7_hanging 28 = .ok (.ifCond .eq 14, 3) := by decide +kernel
theorem dX7_hanging_31 : decode cX7_hanging 31 = .ok (.iconst 1, 1) := by decide +kernel
theorem dX7_hanging_32 : decode cX7_hanging 32 = .ok (.aload_n 0, 1) := by decide +kernel
theorem dX7_hanging_33 : decode cX7_hanging 33 = .ok (.getfield 41, 3) := by decide +kernel
theorem dX7_hanging_36 : decode cX7_hanging 36 = .ok (.iload_n 3, 1) := by decide +kernel
theorem dX7_hanging_37 : decode cX7_hanging 37 = .ok (.iaload, 1) := by decide +kernel
theorem dX7_hanging_38 : decode cX7_hanging 38 = .ok (.ishl, 1) := by decide +kernel
theorem dX7_hanging_39 : decode cX7_hanging 39 = .ok (.goto 14, 3) := by decide +kernel
theorem dX7_hanging_42 : decode cX7_hanging 42 = .ok (.aload_n 0, 1) := by decide +kernel
theorem dX7_hanging_43 : decode cX7_hanging 43 = .ok (.getfield 38, 3) := by decide +kernel
theorem dX7_hanging_46 : decode cX7_hanging 46 = .ok (.aload_n 0, 1) := by decide +kernel
theorem dX7_hanging_47 : decode cX7_hanging 47 = .ok (.getfield 41, 3) := by decide +kernel
theorem dX7_hanging_50 : decode cX7_hanging 50 = .ok (.iload_n 3, 1) := by decide +kernel
theorem dX7_hanging_51 : decode cX7_hanging 51 = .ok (.iaload, 1) := by decide +kernel
theorem dX7_hanging_52 : decode cX7_hanging 52 = .ok (.iaload, 1) := by decide +kernel
theorem dX7_hanging_53 : decode cX7_hanging 53 = .ok (.iadd, 1) := by decide +kernel
theorem dX7_hanging_54 : decode cX7_hanging 54 = .ok (.istore_n 2, 1) := by decide +kernel
theorem dX7_hanging_55 : decode cX7_hanging 55 = .ok (.iinc 3 1, 3) := by decide +kernel
theorem dX7_hanging_58 : decode cX7_hanging 58 = .ok (.goto (-54), 3) := by decide +kernel
theorem dX7_hanging_61 : decode cX7_hanging 61 = .ok (.iload_n 2, 1) := by decide +kernel
theorem dX7_hanging_62 : decode cX7_hanging 62 = .ok (.ireturn, 1) := by decide +kernel
set_option maxRecDepth 100000 in
theorem ok_X7_hanging {G : GX} (hAp : Ap G) : ∀ d, ∀ e ∈ tb_X7_hanging, Snd G mts yX7_hanging.cls cX7_hanging 4 (some .int) d none e.1 e.2 := by
  intro d
  unfold tb_X7_hanging
  refine fa_c (s_iconst dX7_hanging_0 (by decide)) ?_
  refine fa_c (s_st_n dX7_hanging_1 rfl (by decide)) ?_
  refine fa_c (s_iconst dX7_hanging_2 (by decide)) ?_
  refine fa_c (s_st_n dX7_hanging_3 rfl (by decide)) ?_
  refine fa_c (s_li_n dX7_hanging_4 rfl) ?_
  refine fa_c (s_la_n dX7_hanging_5 rfl) ?_
  refine fa_c (gf_X7_13 w_646 dX7_hanging_6) ?_
  refine fa_c (s_ic_ge dX7_hanging_9 (by decide)) ?_
  refine fa_c (s_li_n dX7_hanging_12 rfl) ?_
  refine fa_c (s_la_n dX7_hanging_13 rfl) ?_
  refine fa_c (gf_X7_18 w_651 dX7_hanging_14) ?_
  refine fa_c (s_li_n dX7_hanging_17 rfl) ?_
  refine fa_c (s_ia dX7_hanging_18) ?_
  refine fa_c (s_iconst dX7_hanging_19 (by decide)) ?_
  refine fa_c (s_ic_ne dX7_hanging_20 (by decide)) ?_
  refine fa_c (s_iconst dX7_hanging_23 (by decide)) ?_
  refine fa_c (s_go dX7_hanging_24 (by decide)) ?_
  refine fa_c (s_li_n dX7_hanging_27 rfl) ?_
  refine fa_c (s_if_eq dX7_hanging_28 (by decide)) ?_
  refine fa_c (s_iconst dX7_hanging_31 (by decide)) ?_
  refine fa_c (s_la_n dX7_hanging_32 rfl) ?_
  refine fa_c (gf_X7_18 w_651 dX7_hanging_33) ?_
  refine fa_c (s_li_n dX7_hanging_36 rfl) ?_
  refine fa_c (s_ia dX7_hanging_37) ?_
  refine fa_c (s_i_shl dX7_hanging_38) ?_
  refine fa_c (s_go dX7_hanging_39 (by decide)) ?_
  refine fa_c (s_la_n dX7_hanging_42 rfl) ?_
  refine fa_c (gf_X7_17 w_650 dX7_hanging_43) ?_
  refine fa_c (s_la_n dX7_hanging_46 rfl) ?_
  refine fa_c (gf_X7_18 w_651 dX7_hanging_47) ?_
  refine fa_c (s_li_n dX7_hanging_50 rfl) ?_
  refine fa_c (s_ia dX7_hanging_51) ?_
  refine fa_c (s_ia dX7_hanging_52) ?_
  refine fa_c (s_i_add dX7_hanging_53) ?_
  refine fa_c (s_st_n dX7_hanging_54 rfl (by decide)) ?_
  refine fa_c (s_inc dX7_hanging_55 (by decide) (by decide)) ?_
  refine fa_c (s_go dX7_hanging_58 (by decide)) ?_
  refine fa_c (s_li_n dX7_hanging_61 rfl) ?_
  refine fa_c (s_ri dX7_hanging_62 rfl) ?_
  exact fun e he => absurd he List.not_mem_nil
theorem cl_X7_hanging {G : GX} (hAp : Ap G) : Cl1 (Ct G mts) n_X7_hanging tb_X7_hanging := ct_cl (y := n_X7_hanging) (yn := yX7_hanging) rfl (by decide +kernel) (ok_X7_hanging hAp)
theorem dX7_tree_0 : decode cX7_tree 0 = .ok (.aload_n 0, 1) := by decide +kernel
theorem dX7_tree_1 : decode cX7_tree 1 = .ok (.iload_n 1, 1) := by decide +kernel
theorem dX7_tree_2 : decode cX7_tree 2 = .ok (.invokevirtual 182, 3) := by decide +kernel
theorem dX7_tree_5 : decode cX7_tree 5 = .ok (.ifCond .ne 6, 3) := by decide +kernel
theorem dX7_tree_8 : decode cX7_tree 8 = .ok (.ldc 120, 2) := by decide +kernel
theorem dX7_tree_10 : decode cX7_tree 10 = .ok (.ireturn, 1) := by decide +kernel
theorem dX7_tree_11 : decode cX7_tree 11 = .ok (.iload_n 2, 1) := by decide +kernel
theorem dX7_tree_12 : decode cX7_tree 12 = .ok (.iconst 0, 1) := by decide +kernel
theorem dX7_tree_13 : decode cX7_tree 13 = .ok (.iconst 4, 1) := by decide +kernel
theorem dX7_tree_14 : decode cX7_tree 14 = .ok (.invokestatic 106, 3) := by decide +kernel
theorem dX7_tree_17 : decode cX7_tree 17 = .ok (.ifCond .ne 6, 3) := by decide +kernel
theorem dX7_tree_20 : decode cX7_tree 20 = .ok (.ldc 110, 2) := by decide +kernel
theorem dX7_tree_22 : decode cX7_tree 22 = .ok (.ireturn, 1) := by decide +kernel
theorem dX7_tree_23 : decode cX7_tree 23 = .ok (.aload_n 0, 1) := by decide +kernel
theorem dX7_tree_24 : decode cX7_tree 24 = .ok (.iload_n 1, 1) := by decide +kernel
theorem dX7_tree_25 : decode cX7_tree 25 = .ok (.iconst 0, 1) := by decide +kernel
theorem dX7_tree_26 : decode cX7_tree 26 = .ok (.invokevirtual 198, 3) := by decide +kernel
theorem dX7_tree_29 : decode cX7_tree 29 = .ok (.iload_n 2, 1) := by decide +kernel
theorem dX7_tree_30 : decode cX7_tree 30 = .ok (.iconst 2, 1) := by decide +kernel
theorem dX7_tree_31 : decode cX7_tree 31 = .ok (.if_icmp .ge 20, 3) := by decide +kernel
theorem dX7_tree_34 : decode cX7_tree 34 = .ok (.aload_n 0, 1) := by decide +kernel
theorem dX7_tree_35 : decode cX7_tree 35 = .ok (.iload_n 2, 1) := by decide +kernel
theorem dX7_tree_36 : decode cX7_tree 36 = .ok (.iconst 1, 1) := by decide +kernel
theorem dX7_tree_37 : decode cX7_tree 37 = .ok (.if_icmp .ne 7, 3) := by decide +kernel
theorem dX7_tree_40 : decode cX7_tree 40 = .ok (.iconst 1, 1) := by decide +kernel
theorem dX7_tree_41 : decode cX7_tree 41 = .ok (.goto 4, 3) := by decide +kernel
theorem dX7_tree_44 : decode cX7_tree 44 = .ok (.iconst 0, 1) := by decide +kernel
theorem dX7_tree_45 : decode cX7_tree 45 = .ok (.invokevirtual 201, 3) := by decide +kernel
theorem dX7_tree_48 : decode cX7_tree 48 = .ok (.goto 31, 3) := by decide +kernel
theorem dX7_tree_51 : decode cX7_tree 51 = .ok (.iload_n 2, 1) := by decide +kernel
theorem dX7_tree_52 : decode cX7_tree 52 = .ok (.iconst 2, 1) := by decide +kernel
theorem dX7_tree_53 : decode cX7_tree 53 = .ok (.if_icmp .ne 10, 3) := by decide +kernel
theorem dX7_tree_56 : decode cX7_tree 56 = .ok (.aload_n 0, 1) := by decide +kernel
theorem dX7_tree_57 : decode cX7_tree 57 = .ok (.getfield 192, 3) := by decide +kernel
theorem dX7_tree_60 : decode cX7_tree 60 = .ok (.goto 19, 3) := by decide +kernel
theorem dX7_tree_63 : decode cX7_tree 63 = .ok (.iload_n 2, 1) := by decide +kernel
theorem dX7_tree_64 : decode cX7_tree 64 = .ok (.iconst 3, 1) := by decide +kernel
theorem dX7_tree_65 : decode cX7_tree 65 = .ok (.if_icmp .ne 10, 3) := by decide +kernel
theorem dX7_tree_68 : decode cX7_tree 68 = .ok (.aload_n 0, 1) := by decide +kernel
theorem dX7_tree_69 : decode cX7_tree 69 = .ok (.getfield 195, 3) := by decide +kernel
theorem dX7_tree_72 : decode cX7_tree 72 = .ok (.goto 7, 3) := by decide +kernel
theorem dX7_tree_75 : decode cX7_tree 75 = .ok (.aload_n 0, 1) := by decide +kernel
theorem dX7_tree_76 : decode cX7_tree 76 = .ok (.getfield 185, 3) := by decide +kernel
theorem dX7_tree_79 : decode cX7_tree 79 = .ok (.ireturn, 1) := by decide +kernel
set_option maxRecDepth 100000 in
theorem ok_X7_tree {G : GX} (hAp : Ap G) : ∀ d, ∀ e ∈ tb_X7_tree, Snd G mts yX7_tree.cls cX7_tree 3 (some .int) d none e.1 e.2 := by
  intro d
  unfold tb_X7_tree
  refine fa_c (s_la_n dX7_tree_0 rfl) ?_
  refine fa_c (s_li_n dX7_tree_1 rfl) ?_
  refine fa_c (s_cv mo_X7_isPlace co_X7 (by decide) (fun _ _ => ⟨_, rfl⟩) dX7_tree_2 w_885 w_887 w_41 (by decide)) ?_
  refine fa_c (s_if_ne dX7_tree_5 (by decide)) ?_
  refine fa_c (s_ldc dX7_tree_8 w_734) ?_
  refine fa_c (s_ri dX7_tree_10 rfl) ?_
  refine fa_c (s_li_n dX7_tree_11 rfl) ?_
  refine fa_c (s_iconst dX7_tree_12 (by decide)) ?_
  refine fa_c (s_iconst dX7_tree_13 (by decide)) ?_
  refine fa_c (s_cs mo_X7_in dX7_tree_14 w_717 w_718 (by decide)) ?_
  refine fa_c (s_if_ne dX7_tree_17 (by decide)) ?_
  refine fa_c (s_ldc dX7_tree_20 w_720) ?_
  refine fa_c (s_ri dX7_tree_22 rfl) ?_
  refine fa_c (s_la_n dX7_tree_23 rfl) ?_
  refine fa_c (s_li_n dX7_tree_24 rfl) ?_
  refine fa_c (s_iconst dX7_tree_25 (by decide)) ?_
  refine fa_c (s_cv mo_X7_lay co_X7 (by decide) (fun _ _ => ⟨_, rfl⟩) dX7_tree_26 w_893 w_895 w_42 (by decide)) ?_
  refine fa_c (s_li_n dX7_tree_29 rfl) ?_
  refine fa_c (s_iconst dX7_tree_30 (by decide)) ?_
  refine fa_c (s_ic_ge dX7_tree_31 (by decide)) ?_
  refine fa_c (s_la_n dX7_tree_34 rfl) ?_
  refine fa_c (s_li_n dX7_tree_35 rfl) ?_
  refine fa_c (s_iconst dX7_tree_36 (by decide)) ?_
  refine fa_c (s_ic_ne dX7_tree_37 (by decide)) ?_
  refine fa_c (s_iconst dX7_tree_40 (by decide)) ?_
  refine fa_c (s_go dX7_tree_41 (by decide)) ?_
  refine fa_c (s_iconst dX7_tree_44 (by decide)) ?_
  refine fa_c (s_cv mo_X7_hanging co_X7 (by decide) (fun _ _ => ⟨_, rfl⟩) dX7_tree_45 w_901 w_903 w_44 (by decide)) ?_
  refine fa_c (s_go dX7_tree_48 (by decide)) ?_
  refine fa_c (s_li_n dX7_tree_51 rfl) ?_
  refine fa_c (s_iconst dX7_tree_52 (by decide)) ?_
  refine fa_c (s_ic_ne dX7_tree_53 (by decide)) ?_
  refine fa_c (s_la_n dX7_tree_56 rfl) ?_
  refine fa_c (gf_X7_20 w_653 dX7_tree_57) ?_
  refine fa_c (s_go dX7_tree_60 (by decide)) ?_
  refine fa_c (s_li_n dX7_tree_63 rfl) ?_
  refine fa_c (s_iconst dX7_tree_64 (by decide)) ?_
  refine fa_c (s_ic_ne dX7_tree_65 (by decide)) ?_
  refine fa_c (s_la_n dX7_tree_68 rfl) ?_
  refine fa_c (gf_X7_21 w_654 dX7_tree_69) ?_
  refine fa_c (s_go dX7_tree_72 (by decide)) ?_
  refine fa_c (s_la_n dX7_tree_75 rfl) ?_
  refine fa_c (gf_X7_19 w_652 dX7_tree_76) ?_
  refine fa_c (s_ri dX7_tree_79 rfl) ?_
  exact fun e he => absurd he List.not_mem_nil
theorem cl_X7_tree {G : GX} (hAp : Ap G) : Cl1 (Ct G mts) n_X7_tree tb_X7_tree := ct_cl (y := n_X7_tree) (yn := yX7_tree) rfl (by decide +kernel) (ok_X7_tree hAp)
theorem dX7_way_0 : decode cX7_way 0 = .ok (.aload_n 0, 1) := by decide +kernel
theorem dX7_way_1 : decode cX7_way 1 = .ok (.iload_n 1, 1) := by decide +kernel
theorem dX7_way_2 : decode cX7_way 2 = .ok (.invokevirtual 182, 3) := by decide +kernel
theorem dX7_way_5 : decode cX7_way 5 = .ok (.ifCond .eq 11, 3) := by decide +kernel
theorem dX7_way_8 : decode cX7_way 8 = .ok (.aload_n 0, 1) := by decide +kernel
theorem dX7_way_9 : decode cX7_way 9 = .ok (.iload_n 2, 1) := by decide +kernel
theorem dX7_way_10 : decode cX7_way 10 = .ok (.invokevirtual 182, 3) := by decide +kernel
theorem dX7_way_13 : decode cX7_way 13 = .ok (.ifCond .ne 6, 3) := by decide +kernel
theorem dX7_way_16 : decode cX7_way 16 = .ok (.ldc 120, 2) := by decide +kernel
theorem dX7_way_18 : decode cX7_way 18 = .ok (.ireturn, 1) := by decide +kernel
theorem dX7_way_19 : decode cX7_way 19 = .ok (.aload_n 0, 1) := by decide +kernel
theorem dX7_way_20 : decode cX7_way 20 = .ok (.iload_n 1, 1) := by decide +kernel
theorem dX7_way_21 : decode cX7_way 21 = .ok (.iconst 1, 1) := by decide +kernel
theorem dX7_way_22 : decode cX7_way 22 = .ok (.invokevirtual 198, 3) := by decide +kernel
theorem dX7_way_25 : decode cX7_way 25 = .ok (.aload_n 0, 1) := by decide +kernel
theorem dX7_way_26 : decode cX7_way 26 = .ok (.getfield 13, 3) := by decide +kernel
theorem dX7_way_29 : decode cX7_way 29 = .ok (.bipush 40, 2) := by decide +kernel
theorem dX7_way_31 : decode cX7_way 31 = .ok (.iload_n 2, 1) := by decide +kernel
theorem dX7_way_32 : decode cX7_way 32 = .ok (.iadd, 1) := by decide +kernel
theorem dX7_way_33 : decode cX7_way 33 = .ok (.iaload, 1) := by decide +kernel
theorem dX7_way_34 : decode cX7_way 34 = .ok (.sipush 9999, 3) := by decide +kernel
theorem dX7_way_37 : decode cX7_way 37 = .ok (.if_icmp .ge 15, 3) := by decide +kernel
theorem dX7_way_40 : decode cX7_way 40 = .ok (.aload_n 0, 1) := by decide +kernel
theorem dX7_way_41 : decode cX7_way 41 = .ok (.getfield 13, 3) := by decide +kernel
theorem dX7_way_44 : decode cX7_way 44 = .ok (.bipush 40, 2) := by decide +kernel
theorem dX7_way_46 : decode cX7_way 46 = .ok (.iload_n 2, 1) := by decide +kernel
theorem dX7_way_47 : decode cX7_way 47 = .ok (.iadd, 1) := by decide +kernel
theorem dX7_way_48 : decode cX7_way 48 = .ok (.iaload, 1) := by decide +kernel
theorem dX7_way_49 : decode cX7_way 49 = .ok (.goto 4, 3) := by decide +kernel
theorem dX7_way_52 : decode cX7_way 52 = .ok (.iconst (-1), 1) := by decide +kernel
theorem dX7_way_53 : decode cX7_way 53 = .ok (.ireturn, 1) := by decide +kernel
set_option maxRecDepth 100000 in
theorem ok_X7_way {G : GX} (hAp : Ap G) : ∀ d, ∀ e ∈ tb_X7_way, Snd G mts yX7_way.cls cX7_way 3 (some .int) d none e.1 e.2 := by
  intro d
  unfold tb_X7_way
  refine fa_c (s_la_n dX7_way_0 rfl) ?_
  refine fa_c (s_li_n dX7_way_1 rfl) ?_
  refine fa_c (s_cv mo_X7_isPlace co_X7 (by decide) (fun _ _ => ⟨_, rfl⟩) dX7_way_2 w_885 w_887 w_41 (by decide)) ?_
  refine fa_c (s_if_eq dX7_way_5 (by decide)) ?_
  refine fa_c (s_la_n dX7_way_8 rfl) ?_
  refine fa_c (s_li_n dX7_way_9 rfl) ?_
  refine fa_c (s_cv mo_X7_isPlace co_X7 (by decide) (fun _ _ => ⟨_, rfl⟩) dX7_way_10 w_885 w_887 w_41 (by decide)) ?_
  refine fa_c (s_if_ne dX7_way_13 (by decide)) ?_
  refine fa_c (s_ldc dX7_way_16 w_734) ?_
  refine fa_c (s_ri dX7_way_18 rfl) ?_
  refine fa_c (s_la_n dX7_way_19 rfl) ?_
  refine fa_c (s_li_n dX7_way_20 rfl) ?_
  refine fa_c (s_iconst dX7_way_21 (by decide)) ?_
  refine fa_c (s_cv mo_X7_lay co_X7 (by decide) (fun _ _ => ⟨_, rfl⟩) dX7_way_22 w_893 w_895 w_42 (by decide)) ?_
  refine fa_c (s_la_n dX7_way_25 rfl) ?_
  refine fa_c (gf_X7_2 w_635 dX7_way_26) ?_
  refine fa_c (s_bipush dX7_way_29 (by decide)) ?_
  refine fa_c (s_li_n dX7_way_31 rfl) ?_
  refine fa_c (s_i_add dX7_way_32) ?_
  refine fa_c (s_ia dX7_way_33) ?_
  refine fa_c (s_sipush dX7_way_34 (by decide)) ?_
  refine fa_c (s_ic_ge dX7_way_37 (by decide)) ?_
  refine fa_c (s_la_n dX7_way_40 rfl) ?_
  refine fa_c (gf_X7_2 w_635 dX7_way_41) ?_
  refine fa_c (s_bipush dX7_way_44 (by decide)) ?_
  refine fa_c (s_li_n dX7_way_46 rfl) ?_
  refine fa_c (s_i_add dX7_way_47) ?_
  refine fa_c (s_ia dX7_way_48) ?_
  refine fa_c (s_go dX7_way_49 (by decide)) ?_
  refine fa_c (s_iconst dX7_way_52 (by decide)) ?_
  refine fa_c (s_ri dX7_way_53 rfl) ?_
  exact fun e he => absurd he List.not_mem_nil
theorem cl_X7_way {G : GX} (hAp : Ap G) : Cl1 (Ct G mts) n_X7_way tb_X7_way := ct_cl (y := n_X7_way) (yn := yX7_way) rfl (by decide +kernel) (ok_X7_way hAp)
theorem dX7_ways_0 : decode cX7_ways 0 = .ok (.aload_n 0, 1) := by decide +kernel
theorem dX7_ways_1 : decode cX7_ways 1 = .ok (.iload_n 1, 1) := by decide +kernel
theorem dX7_ways_2 : decode cX7_ways 2 = .ok (.invokevirtual 182, 3) := by decide +kernel
theorem dX7_ways_5 : decode cX7_ways 5 = .ok (.ifCond .ne 6, 3) := by decide +kernel
theorem dX7_ways_8 : decode cX7_ways 8 = .ok (.ldc 120, 2) := by decide +kernel
theorem dX7_ways_10 : decode cX7_ways 10 = .ok (.ireturn, 1) := by decide +kernel
theorem dX7_ways_11 : decode cX7_ways 11 = .ok (.iload_n 2, 1) := by decide +kernel
theorem dX7_ways_12 : decode cX7_ways 12 = .ok (.iconst 0, 1) := by decide +kernel
theorem dX7_ways_13 : decode cX7_ways 13 = .ok (.iconst 3, 1) := by decide +kernel
theorem dX7_ways_14 : decode cX7_ways 14 = .ok (.invokestatic 106, 3) := by decide +kernel
theorem dX7_ways_17 : decode cX7_ways 17 = .ok (.ifCond .ne 6, 3) := by decide +kernel
theorem dX7_ways_20 : decode cX7_ways 20 = .ok (.ldc 110, 2) := by decide +kernel
theorem dX7_ways_22 : decode cX7_ways 22 = .ok (.ireturn, 1) := by decide +kernel
theorem dX7_ways_23 : decode cX7_ways 23 = .ok (.aload_n 0, 1) := by decide +kernel
theorem dX7_ways_24 : decode cX7_ways 24 = .ok (.iload_n 1, 1) := by decide +kernel
theorem dX7_ways_25 : decode cX7_ways 25 = .ok (.iconst 1, 1) := by decide +kernel
theorem dX7_ways_26 : decode cX7_ways 26 = .ok (.invokevirtual 198, 3) := by decide +kernel
theorem dX7_ways_29 : decode cX7_ways 29 = .ok (.iload_n 2, 1) := by decide +kernel
theorem dX7_ways_30 : decode cX7_ways 30 = .ok (.iconst 3, 1) := by decide +kernel
theorem dX7_ways_31 : decode cX7_ways 31 = .ok (.if_icmp .ge 31, 3) := by decide +kernel
theorem dX7_ways_34 : decode cX7_ways 34 = .ok (.iload_n 2, 1) := by decide +kernel
theorem dX7_ways_35 : decode cX7_ways 35 = .ok (.ifCond .ne 10, 3) := by decide +kernel
theorem dX7_ways_38 : decode cX7_ways 38 = .ok (.aload_n 0, 1) := by decide +kernel
theorem dX7_ways_39 : decode cX7_ways 39 = .ok (.getfield 192, 3) := by decide +kernel
theorem dX7_ways_42 : decode cX7_ways 42 = .ok (.goto 19, 3) := by decide +kernel
theorem dX7_ways_45 : decode cX7_ways 45 = .ok (.iload_n 2, 1) := by decide +kernel
theorem dX7_ways_46 : decode cX7_ways 46 = .ok (.iconst 1, 1) := by decide +kernel
theorem dX7_ways_47 : decode cX7_ways 47 = .ok (.if_icmp .ne 10, 3) := by decide +kernel
theorem dX7_ways_50 : decode cX7_ways 50 = .ok (.aload_n 0, 1) := by decide +kernel
theorem dX7_ways_51 : decode cX7_ways 51 = .ok (.getfield 195, 3) := by decide +kernel
theorem dX7_ways_54 : decode cX7_ways 54 = .ok (.goto 7, 3) := by decide +kernel
theorem dX7_ways_57 : decode cX7_ways 57 = .ok (.aload_n 0, 1) := by decide +kernel
theorem dX7_ways_58 : decode cX7_ways 58 = .ok (.getfield 185, 3) := by decide +kernel
theorem dX7_ways_61 : decode cX7_ways 61 = .ok (.ireturn, 1) := by decide +kernel
theorem dX7_ways_62 : decode cX7_ways 62 = .ok (.iconst 0, 1) := by decide +kernel
theorem dX7_ways_63 : decode cX7_ways 63 = .ok (.istore_n 3, 1) := by decide +kernel
theorem dX7_ways_64 : decode cX7_ways 64 = .ok (.iconst 0, 1) := by decide +kernel
theorem dX7_ways_65 : decode cX7_ways 65 = .ok (.istore 4, 2) := by decide +kernel
theorem dX7_ways_67 : decode cX7_ways 67 = .ok (.iload 4, 2) := by decide +kernel
theorem dX7_ways_69 : decode cX7_ways 69 = .ok (.aload_n 0, 1) := by decide +kernel
theorem dX7_ways_70 : decode cX7_ways 70 = .ok (.getfield 159, 3) := by decide +kernel
theorem dX7_ways_73 : decode cX7_ways 73 = .ok (.if_icmp .ge 33, 3) := by decide +kernel
theorem dX7_ways_76 : decode cX7_ways 76 = .ok (.iload_n 3, 1) := by decide +kernel
theorem dX7_ways_77 : decode cX7_ways 77 = .ok (.aload_n 0, 1) := by decide +kernel
theorem dX7_ways_78 : decode cX7_ways 78 = .ok (.getfield 13, 3) := by decide +kernel
theorem dX7_ways_81 : decode cX7_ways 81 = .ok (.bipush 40, 2) := by decide +kernel
theorem dX7_ways_83 : decode cX7_ways 83 = .ok (.iload 4, 2) := by decide +kernel
theorem dX7_ways_85 : decode cX7_ways 85 = .ok (.iadd, 1) := by decide +kernel
theorem dX7_ways_86 : decode cX7_ways 86 = .ok (.iaload, 1) := by decide +kernel
theorem dX7_ways_87 : decode cX7_ways 87 = .ok (.sipush 9999, 3) := by decide +kernel
theorem dX7_ways_90 : decode cX7_ways 90 = .ok (.if_icmp .ge 7, 3) := by decide +kernel
theorem dX7_ways_93 : decode cX7_ways 93 = .ok (.iconst 1, 1) := by decide +kernel
theorem dX7_ways_94 : decode cX7_ways 94 = .ok (.goto 4, 3) := by decide +kernel
theorem dX7_ways_97 : decode cX7_ways 97 = .ok (.iconst 0, 1) := by decide +kernel
theorem dX7_ways_98 : decode cX7_ways 98 = .ok (.iadd, 1) := by decide +kernel
theorem dX7_ways_99 : decode cX7_ways 99 = .ok (.istore_n 3, 1) := by decide +kernel
theorem dX7_ways_100 : decode cX7_ways 100 = .ok (.iinc 4 1, 3) := by decide +kernel
theorem dX7_ways_103 : decode cX7_ways 103 = .ok (.goto (-36), 3) := by decide +kernel
theorem dX7_ways_106 : decode cX7_ways 106 = .ok (.iload_n 3, 1) := by decide +kernel
theorem dX7_ways_107 : decode cX7_ways 107 = .ok (.ireturn, 1) := by decide +kernel
set_option maxRecDepth 100000 in
theorem ok_X7_ways {G : GX} (hAp : Ap G) : ∀ d, ∀ e ∈ tb_X7_ways, Snd G mts yX7_ways.cls cX7_ways 5 (some .int) d none e.1 e.2 := by
  intro d
  unfold tb_X7_ways
  refine fa_c (s_la_n dX7_ways_0 rfl) ?_
  refine fa_c (s_li_n dX7_ways_1 rfl) ?_
  refine fa_c (s_cv mo_X7_isPlace co_X7 (by decide) (fun _ _ => ⟨_, rfl⟩) dX7_ways_2 w_885 w_887 w_41 (by decide)) ?_
  refine fa_c (s_if_ne dX7_ways_5 (by decide)) ?_
  refine fa_c (s_ldc dX7_ways_8 w_734) ?_
  refine fa_c (s_ri dX7_ways_10 rfl) ?_
  refine fa_c (s_li_n dX7_ways_11 rfl) ?_
  refine fa_c (s_iconst dX7_ways_12 (by decide)) ?_
  refine fa_c (s_iconst dX7_ways_13 (by decide)) ?_
  refine fa_c (s_cs mo_X7_in dX7_ways_14 w_717 w_718 (by decide)) ?_
  refine fa_c (s_if_ne dX7_ways_17 (by decide)) ?_
  refine fa_c (s_ldc dX7_ways_20 w_720) ?_
  refine fa_c (s_ri dX7_ways_22 rfl) ?_
  refine fa_c (s_la_n dX7_ways_23 rfl) ?_
  refine fa_c (s_li_n dX7_ways_24 rfl) ?_
  refine fa_c (s_iconst dX7_ways_25 (by decide)) ?_
  refine fa_c (s_cv mo_X7_lay co_X7 (by decide) (fun _ _ => ⟨_, rfl⟩) dX7_ways_26 w_893 w_895 w_42 (by decide)) ?_
  refine fa_c (s_li_n dX7_ways_29 rfl) ?_
  refine fa_c (s_iconst dX7_ways_30 (by decide)) ?_
  refine fa_c (s_ic_ge dX7_ways_31 (by decide)) ?_
  refine fa_c (s_li_n dX7_ways_34 rfl) ?_
  refine fa_c (s_if_ne dX7_ways_35 (by decide)) ?_
  refine fa_c (s_la_n dX7_ways_38 rfl) ?_
  refine fa_c (gf_X7_20 w_653 dX7_ways_39) ?_
  refine fa_c (s_go dX7_ways_42 (by decide)) ?_
  refine fa_c (s_li_n dX7_ways_45 rfl) ?_
  refine fa_c (s_iconst dX7_ways_46 (by decide)) ?_
  refine fa_c (s_ic_ne dX7_ways_47 (by decide)) ?_
  refine fa_c (s_la_n dX7_ways_50 rfl) ?_
  refine fa_c (gf_X7_21 w_654 dX7_ways_51) ?_
  refine fa_c (s_go dX7_ways_54 (by decide)) ?_
  refine fa_c (s_la_n dX7_ways_57 rfl) ?_
  refine fa_c (gf_X7_19 w_652 dX7_ways_58) ?_
  refine fa_c (s_ri dX7_ways_61 rfl) ?_
  refine fa_c (s_iconst dX7_ways_62 (by decide)) ?_
  refine fa_c (s_st_n dX7_ways_63 rfl (by decide)) ?_
  refine fa_c (s_iconst dX7_ways_64 (by decide)) ?_
  refine fa_c (s_st dX7_ways_65 (by decide)) ?_
  refine fa_c (s_li dX7_ways_67) ?_
  refine fa_c (s_la_n dX7_ways_69 rfl) ?_
  refine fa_c (gf_X7_13 w_646 dX7_ways_70) ?_
  refine fa_c (s_ic_ge dX7_ways_73 (by decide)) ?_
  refine fa_c (s_li_n dX7_ways_76 rfl) ?_
  refine fa_c (s_la_n dX7_ways_77 rfl) ?_
  refine fa_c (gf_X7_2 w_635 dX7_ways_78) ?_
  refine fa_c (s_bipush dX7_ways_81 (by decide)) ?_
  refine fa_c (s_li dX7_ways_83) ?_
  refine fa_c (s_i_add dX7_ways_85) ?_
  refine fa_c (s_ia dX7_ways_86) ?_
  refine fa_c (s_sipush dX7_ways_87 (by decide)) ?_
  refine fa_c (s_ic_ge dX7_ways_90 (by decide)) ?_
  refine fa_c (s_iconst dX7_ways_93 (by decide)) ?_
  refine fa_c (s_go dX7_ways_94 (by decide)) ?_
  refine fa_c (s_iconst dX7_ways_97 (by decide)) ?_
  refine fa_c (s_i_add dX7_ways_98) ?_
  refine fa_c (s_st_n dX7_ways_99 rfl (by decide)) ?_
  refine fa_c (s_inc dX7_ways_100 (by decide) (by decide)) ?_
  refine fa_c (s_go dX7_ways_103 (by decide)) ?_
  refine fa_c (s_li_n dX7_ways_106 rfl) ?_
  refine fa_c (s_ri dX7_ways_107 rfl) ?_
  exact fun e he => absurd he List.not_mem_nil
theorem cl_X7_ways {G : GX} (hAp : Ap G) : Cl1 (Ct G mts) n_X7_ways tb_X7_ways := ct_cl (y := n_X7_ways) (yn := yX7_ways) rfl (by decide +kernel) (ok_X7_ways hAp)
theorem dX7_keep_0 : decode cX7_keep 0 = .ok (.iload_n 1, 1) := by decide +kernel
theorem dX7_keep_1 : decode cX7_keep 1 = .ok (.iconst 0, 1) := by decide +kernel
theorem dX7_keep_2 : decode cX7_keep 2 = .ok (.iconst 1, 1) := by decide +kernel
theorem dX7_keep_3 : decode cX7_keep 3 = .ok (.invokestatic 106, 3) := by decide +kernel
theorem dX7_keep_6 : decode cX7_keep 6 = .ok (.ifCond .ne 6, 3) := by decide +kernel
theorem dX7_keep_9 : decode cX7_keep 9 = .ok (.ldc 120, 2) := by decide +kernel
theorem dX7_keep_11 : decode cX7_keep 11 = .ok (.ireturn, 1) := by decide +kernel
theorem dX7_keep_12 : decode cX7_keep 12 = .ok (.sipush 260, 3) := by decide +kernel
theorem dX7_keep_15 : decode cX7_keep 15 = .ok (.iload_n 1, 1) := by decide +kernel
theorem dX7_keep_16 : decode cX7_keep 16 = .ok (.imul, 1) := by decide +kernel
theorem dX7_keep_17 : decode cX7_keep 17 = .ok (.istore_n 2, 1) := by decide +kernel
theorem dX7_keep_18 : decode cX7_keep 18 = .ok (.aload_n 0, 1) := by decide +kernel
theorem dX7_keep_19 : decode cX7_keep 19 = .ok (.getfield 44, 3) := by decide +kernel
theorem dX7_keep_22 : decode cX7_keep 22 = .ok (.iload_n 2, 1) := by decide +kernel
theorem dX7_keep_23 : decode cX7_keep 23 = .ok (.aload_n 0, 1) := by decide +kernel
theorem dX7_keep_24 : decode cX7_keep 24 = .ok (.getfield 54, 3) := by decide +kernel
theorem dX7_keep_27 : decode cX7_keep 27 = .ok (.iastore, 1) := by decide +kernel
theorem dX7_keep_28 : decode cX7_keep 28 = .ok (.aload_n 0, 1) := by decide +kernel
theorem dX7_keep_29 : decode cX7_keep 29 = .ok (.getfield 44, 3) := by decide +kernel
theorem dX7_keep_32 : decode cX7_keep 32 = .ok (.iload_n 2, 1) := by decide +kernel
theorem dX7_keep_33 : decode cX7_keep 33 = .ok (.iconst 1, 1) := by decide +kernel
theorem dX7_keep_34 : decode cX7_keep 34 = .ok (.iadd, 1) := by decide +kernel
theorem dX7_keep_35 : decode cX7_keep 35 = .ok (.aload_n 0, 1) := by decide +kernel
theorem dX7_keep_36 : decode cX7_keep 36 = .ok (.getfield 67, 3) := by decide +kernel
theorem dX7_keep_39 : decode cX7_keep 39 = .ok (.iastore, 1) := by decide +kernel
theorem dX7_keep_40 : decode cX7_keep 40 = .ok (.aload_n 0, 1) := by decide +kernel
theorem dX7_keep_41 : decode cX7_keep 41 = .ok (.getfield 44, 3) := by decide +kernel
theorem dX7_keep_44 : decode cX7_keep 44 = .ok (.iload_n 2, 1) := by decide +kernel
theorem dX7_keep_45 : decode cX7_keep 45 = .ok (.iconst 2, 1) := by decide +kernel
theorem dX7_keep_46 : decode cX7_keep 46 = .ok (.iadd, 1) := by decide +kernel
theorem dX7_keep_47 : decode cX7_keep 47 = .ok (.aload_n 0, 1) := by decide +kernel
theorem dX7_keep_48 : decode cX7_keep 48 = .ok (.getfield 70, 3) := by decide +kernel
theorem dX7_keep_51 : decode cX7_keep 51 = .ok (.iastore, 1) := by decide +kernel
theorem dX7_keep_52 : decode cX7_keep 52 = .ok (.aload_n 0, 1) := by decide +kernel
theorem dX7_keep_53 : decode cX7_keep 53 = .ok (.getfield 44, 3) := by decide +kernel
theorem dX7_keep_56 : decode cX7_keep 56 = .ok (.iload_n 2, 1) := by decide +kernel
theorem dX7_keep_57 : decode cX7_keep 57 = .ok (.iconst 3, 1) := by decide +kernel
theorem dX7_keep_58 : decode cX7_keep 58 = .ok (.iadd, 1) := by decide +kernel
theorem dX7_keep_59 : decode cX7_keep 59 = .ok (.aload_n 0, 1) := by decide +kernel
theorem dX7_keep_60 : decode cX7_keep 60 = .ok (.getfield 64, 3) := by decide +kernel
theorem dX7_keep_63 : decode cX7_keep 63 = .ok (.iastore, 1) := by decide +kernel
theorem dX7_keep_64 : decode cX7_keep 64 = .ok (.iconst 0, 1) := by decide +kernel
theorem dX7_keep_65 : decode cX7_keep 65 = .ok (.istore_n 3, 1) := by decide +kernel
theorem dX7_keep_66 : decode cX7_keep 66 = .ok (.iload_n 3, 1) := by decide +kernel
theorem dX7_keep_67 : decode cX7_keep 67 = .ok (.aload_n 0, 1) := by decide +kernel
theorem dX7_keep_68 : decode cX7_keep 68 = .ok (.getfield 54, 3) := by decide +kernel
theorem dX7_keep_71 : decode cX7_keep 71 = .ok (.if_icmp .ge 123, 3) := by decide +kernel
theorem dX7_keep_74 : decode cX7_keep 74 = .ok (.iload_n 2, 1) := by decide +kernel
theorem dX7_keep_75 : decode cX7_keep 75 = .ok (.iconst 4, 1) := by decide +kernel
theorem dX7_keep_76 : decode cX7_keep 76 = .ok (.iadd, 1) := by decide +kernel
theorem dX7_keep_77 : decode cX7_keep 77 = .ok (.bipush 6, 2) := by decide +kernel
theorem dX7_keep_79 : decode cX7_keep 79 = .ok (.iload_n 3, 1) := by decide +kernel
theorem dX7_keep_80 : decode cX7_keep 80 = .ok (.imul, 1) := by decide +kernel
theorem dX7_keep_81 : decode cX7_keep 81 = .ok (.iadd, 1) := by decide +kernel
theorem dX7_keep_82 : decode cX7_keep 82 = .ok (.istore 4, 2) := by decide +kernel
theorem dX7_keep_84 : decode cX7_keep 84 = .ok (.aload_n 0, 1) := by decide +kernel
theorem dX7_keep_85 : decode cX7_keep 85 = .ok (.getfield 44, 3) := by decide +kernel
theorem dX7_keep_88 : decode cX7_keep 88 = .ok (.iload 4, 2) := by decide +kernel
theorem dX7_keep_90 : decode cX7_keep 90 = .ok (.aload_n 0, 1) := by decide +kernel
theorem dX7_keep_91 : decode cX7_keep 91 = .ok (.getfield 7, 3) := by decide +kernel
theorem dX7_keep_94 : decode cX7_keep 94 = .ok (.iload_n 3, 1) := by decide +kernel
theorem dX7_keep_95 : decode cX7_keep 95 = .ok (.iaload, 1) := by decide +kernel
theorem dX7_keep_96 : decode cX7_keep 96 = .ok (.iastore, 1) := by decide +kernel
theorem dX7_keep_97 : decode cX7_keep 97 = .ok (.aload_n 0, 1) := by decide +kernel
theorem dX7_keep_98 : decode cX7_keep 98 = .ok (.getfield 44, 3) := by decide +kernel
theorem dX7_keep_101 : decode cX7_keep 101 = .ok (.iload 4, 2) := by decide +kernel
theorem dX7_keep_103 : decode cX7_keep 103 = .ok (.iconst 1, 1) := by decide +kernel
theorem dX7_keep_104 : decode cX7_keep 104 = .ok (.iadd, 1) := by decide +kernel
theorem dX7_keep_105 : decode cX7_keep 105 = .ok (.aload_n 0, 1) := by decide +kernel
theorem dX7_keep_106 : decode cX7_keep 106 = .ok (.getfield 13, 3) := by decide +kernel
theorem dX7_keep_109 : decode cX7_keep 109 = .ok (.iload_n 3, 1) := by decide +kernel
theorem dX7_keep_110 : decode cX7_keep 110 = .ok (.iaload, 1) := by decide +kernel
theorem dX7_keep_111 : decode cX7_keep 111 = .ok (.iastore, 1) := by decide +kernel
theorem dX7_keep_112 : decode cX7_keep 112 = .ok (.aload_n 0, 1) := by decide +kernel
theorem dX7_keep_113 : decode cX7_keep 113 = .ok (.getfield 44, 3) := by decide +kernel
theorem dX7_keep_116 : decode cX7_keep 116 = .ok (.iload 4, 2) := by decide +kernel
theorem dX7_keep_118 : decode cX7_keep 118 = .ok (.iconst 2, 1) := by decide +kernel
theorem dX7_keep_119 : decode cX7_keep 119 = .ok (.iadd, 1) := by decide +kernel
theorem dX7_keep_120 : decode cX7_keep 120 = .ok (.aload_n 0, 1) := by decide +kernel
theorem dX7_keep_121 : decode cX7_keep 121 = .ok (.getfield 16, 3) := by decide +kernel
theorem dX7_keep_124 : decode cX7_keep 124 = .ok (.iload_n 3, 1) := by decide +kernel
theorem dX7_keep_125 : decode cX7_keep 125 = .ok (.baload, 1) := by decide +kernel
theorem dX7_keep_126 : decode cX7_keep 126 = .ok (.ifCond .eq 7, 3) := by decide +kernel
theorem dX7_keep_129 : decode cX7_keep 129 = .ok (.iconst 1, 1) := by decide +kernel
theorem dX7_keep_130 : decode cX7_keep 130 = .ok (.goto 4, 3) := by decide +kernel
theorem dX7_keep_133 : decode cX7_keep 133 = .ok (.iconst 0, 1) := by decide +kernel
theorem dX7_keep_134 : decode cX7_keep 134 = .ok (.iastore, 1) := by decide +kernel
theorem dX7_keep_135 : decode cX7_keep 135 = .ok (.aload_n 0, 1) := by decide +kernel
theorem dX7_keep_136 : decode cX7_keep 136 = .ok (.getfield 44, 3) := by decide +kernel
theorem dX7_keep_139 : decode cX7_keep 139 = .ok (.iload 4, 2) := by decide +kernel
theorem dX7_keep_141 : decode cX7_keep 141 = .ok (.iconst 3, 1) := by decide +kernel
theorem dX7_keep_142 : decode cX7_keep 142 = .ok (.iadd, 1) := by decide +kernel
theorem dX7_keep_143 : decode cX7_keep 143 = .ok (.aload_n 0, 1) := by decide +kernel
theorem dX7_keep_144 : decode cX7_keep 144 = .ok (.getfield 20, 3) := by decide +kernel
theorem dX7_keep_147 : decode cX7_keep 147 = .ok (.iload_n 3, 1) := by decide +kernel
theorem dX7_keep_148 : decode cX7_keep 148 = .ok (.iaload, 1) := by decide +kernel
theorem dX7_keep_149 : decode cX7_keep 149 = .ok (.iastore, 1) := by decide +kernel
theorem dX7_keep_150 : decode cX7_keep 150 = .ok (.aload_n 0, 1) := by decide +kernel
theorem dX7_keep_151 : decode cX7_keep 151 = .ok (.getfield 44, 3) := by decide +kernel
theorem dX7_keep_154 : decode cX7_keep 154 = .ok (.iload 4, 2) := by decide +kernel
theorem dX7_keep_156 : decode cX7_keep 156 = .ok (.iconst 4, 1) := by decide +kernel
theorem dX7_keep_157 : decode cX7_keep 157 = .ok (.iadd, 1) := by decide +kernel
theorem dX7_keep_158 : decode cX7_keep 158 = .ok (.aload_n 0, 1) := by decide +kernel
theorem dX7_keep_159 : decode cX7_keep 159 = .ok (.getfield 23, 3) := by decide +kernel
theorem dX7_keep_162 : decode cX7_keep 162 = .ok (.iload_n 3, 1) := by decide +kernel
theorem dX7_keep_163 : decode cX7_keep 163 = .ok (.baload, 1) := by decide +kernel
theorem dX7_keep_164 : decode cX7_keep 164 = .ok (.ifCond .eq 7, 3) := by decide +kernel
theorem dX7_keep_167 : decode cX7_keep 167 = .ok (.iconst 1, 1) := by decide +kernel
theorem dX7_keep_168 : decode cX7_keep 168 = .ok (.goto 4, 3) := by decide +kernel
theorem dX7_keep_171 : decode cX7_keep 171 = .ok (.iconst 0, 1) := by decide +kernel
theorem dX7_keep_172 : decode cX7_keep 172 = .ok (.iastore, 1) := by decide +kernel
theorem dX7_keep_173 : decode cX7_keep 173 = .ok (.aload_n 0, 1) := by decide +kernel
theorem dX7_keep_174 : decode cX7_keep 174 = .ok (.getfield 44, 3) := by decide +kernel
theorem dX7_keep_177 : decode cX7_keep 177 = .ok (.iload 4, 2) := by decide +kernel
theorem dX7_keep_179 : decode cX7_keep 179 = .ok (.iconst 5, 1) := by decide +kernel
theorem dX7_keep_180 : decode cX7_keep 180 = .ok (.iadd, 1) := by decide +kernel
theorem dX7_keep_181 : decode cX7_keep 181 = .ok (.aload_n 0, 1) := by decide +kernel
theorem dX7_keep_182 : decode cX7_keep 182 = .ok (.getfield 26, 3) := by decide +kernel
theorem dX7_keep_185 : decode cX7_keep 185 = .ok (.iload_n 3, 1) := by decide +kernel
theorem dX7_keep_186 : decode cX7_keep 186 = .ok (.iaload, 1) := by decide +kernel
theorem dX7_keep_187 : decode cX7_keep 187 = .ok (.iastore, 1) := by decide +kernel
theorem dX7_keep_188 : decode cX7_keep 188 = .ok (.iinc 3 1, 3) := by decide +kernel
theorem dX7_keep_191 : decode cX7_keep 191 = .ok (.goto (-125), 3) := by decide +kernel
theorem dX7_keep_194 : decode cX7_keep 194 = .ok (.iconst 0, 1) := by decide +kernel
theorem dX7_keep_195 : decode cX7_keep 195 = .ok (.istore_n 3, 1) := by decide +kernel
theorem dX7_keep_196 : decode cX7_keep 196 = .ok (.iload_n 3, 1) := by decide +kernel
theorem dX7_keep_197 : decode cX7_keep 197 = .ok (.bipush 16, 2) := by decide +kernel
theorem dX7_keep_199 : decode cX7_keep 199 = .ok (.if_icmp .ge 27, 3) := by decide +kernel
theorem dX7_keep_202 : decode cX7_keep 202 = .ok (.aload_n 0, 1) := by decide +kernel
theorem dX7_keep_203 : decode cX7_keep 203 = .ok (.getfield 44, 3) := by decide +kernel
theorem dX7_keep_206 : decode cX7_keep 206 = .ok (.iload_n 2, 1) := by decide +kernel
theorem dX7_keep_207 : decode cX7_keep 207 = .ok (.sipush 244, 3) := by decide +kernel
theorem dX7_keep_210 : decode cX7_keep 210 = .ok (.iadd, 1) := by decide +kernel
theorem dX7_keep_211 : decode cX7_keep 211 = .ok (.iload_n 3, 1) := by decide +kernel
theorem dX7_keep_212 : decode cX7_keep 212 = .ok (.iadd, 1) := by decide +kernel
theorem dX7_keep_213 : decode cX7_keep 213 = .ok (.aload_n 0, 1) := by decide +kernel
theorem dX7_keep_214 : decode cX7_keep 214 = .ok (.getfield 29, 3) := by decide +kernel
theorem dX7_keep_217 : decode cX7_keep 217 = .ok (.iload_n 3, 1) := by decide +kernel
theorem dX7_keep_218 : decode cX7_keep 218 = .ok (.iaload, 1) := by decide +kernel
theorem dX7_keep_219 : decode cX7_keep 219 = .ok (.iastore, 1) := by decide +kernel
theorem dX7_keep_220 : decode cX7_keep 220 = .ok (.iinc 3 1, 3) := by decide +kernel
theorem dX7_keep_223 : decode cX7_keep 223 = .ok (.goto (-27), 3) := by decide +kernel
theorem dX7_keep_226 : decode cX7_keep 226 = .ok (.aload_n 0, 1) := by decide +kernel
theorem dX7_keep_227 : decode cX7_keep 227 = .ok (.getfield 47, 3) := by decide +kernel
theorem dX7_keep_230 : decode cX7_keep 230 = .ok (.iload_n 1, 1) := by decide +kernel
theorem dX7_keep_231 : decode cX7_keep 231 = .ok (.iconst 1, 1) := by decide +kernel
theorem dX7_keep_232 : decode cX7_keep 232 = .ok (.bastore, 1) := by decide +kernel
theorem dX7_keep_233 : decode cX7_keep 233 = .ok (.aload_n 0, 1) := by decide +kernel
theorem dX7_keep_234 : decode cX7_keep 234 = .ok (.getfield 54, 3) := by decide +kernel
theorem dX7_keep_237 : decode cX7_keep 237 = .ok (.ireturn, 1) := by decide +kernel
set_option maxRecDepth 100000 in
theorem ok_X7_keep {G : GX} (hAp : Ap G) : ∀ d, ∀ e ∈ tb_X7_keep, Snd G mts yX7_keep.cls cX7_keep 5 (some .int) d none e.1 e.2 := by
  intro d
  unfold tb_X7_keep
  refine fa_c (s_li_n dX7_keep_0 rfl) ?_
  refine fa_c (s_iconst dX7_keep_1 (by decide)) ?_
  refine fa_c (s_iconst dX7_keep_2 (by decide)) ?_
  refine fa_c (s_cs mo_X7_in dX7_keep_3 w_717 w_718 (by decide)) ?_
  refine fa_c (s_if_ne dX7_keep_6 (by decide)) ?_
  refine fa_c (s_ldc dX7_keep_9 w_734) ?_
  refine fa_c (s_ri dX7_keep_11 rfl) ?_
  refine fa_c (s_sipush dX7_keep_12 (by decide)) ?_
  refine fa_c (s_li_n dX7_keep_15 rfl) ?_
  refine fa_c (s_i_mul dX7_keep_16) ?_
  refine fa_c (s_st_n dX7_keep_17 rfl (by decide)) ?_
  refine fa_c (s_la_n dX7_keep_18 rfl) ?_
  refine fa_c (gf_X7_22 w_655 dX7_keep_19) ?_
  refine fa_c (s_li_n dX7_keep_22 rfl) ?_
  refine fa_c (s_la_n dX7_keep_23 rfl) ?_
  refine fa_c (gf_X7_0 w_633 dX7_keep_24) ?_
  refine fa_c (s_is hAp dX7_keep_27) ?_
  refine fa_c (s_la_n dX7_keep_28 rfl) ?_
  refine fa_c (gf_X7_22 w_655 dX7_keep_29) ?_
  refine fa_c (s_li_n dX7_keep_32 rfl) ?_
  refine fa_c (s_iconst dX7_keep_33 (by decide)) ?_
  refine fa_c (s_i_add dX7_keep_34) ?_
  refine fa_c (s_la_n dX7_keep_35 rfl) ?_
  refine fa_c (gf_X7_8 w_641 dX7_keep_36) ?_
  refine fa_c (s_is hAp dX7_keep_39) ?_
  refine fa_c (s_la_n dX7_keep_40 rfl) ?_
  refine fa_c (gf_X7_22 w_655 dX7_keep_41) ?_
  refine fa_c (s_li_n dX7_keep_44 rfl) ?_
  refine fa_c (s_iconst dX7_keep_45 (by decide)) ?_
  refine fa_c (s_i_add dX7_keep_46) ?_
  refine fa_c (s_la_n dX7_keep_47 rfl) ?_
  refine fa_c (gf_X7_9 w_642 dX7_keep_48) ?_
  refine fa_c (s_is hAp dX7_keep_51) ?_
  refine fa_c (s_la_n dX7_keep_52 rfl) ?_
  refine fa_c (gf_X7_22 w_655 dX7_keep_53) ?_
  refine fa_c (s_li_n dX7_keep_56 rfl) ?_
  refine fa_c (s_iconst dX7_keep_57 (by decide)) ?_
  refine fa_c (s_i_add dX7_keep_58) ?_
  refine fa_c (s_la_n dX7_keep_59 rfl) ?_
  refine fa_c (gf_X7_7 w_640 dX7_keep_60) ?_
  refine fa_c (s_is hAp dX7_keep_63) ?_
  refine fa_c (s_iconst dX7_keep_64 (by decide)) ?_
  refine fa_c (s_st_n dX7_keep_65 rfl (by decide)) ?_
  refine fa_c (s_li_n dX7_keep_66 rfl) ?_
  refine fa_c (s_la_n dX7_keep_67 rfl) ?_
  refine fa_c (gf_X7_0 w_633 dX7_keep_68) ?_
  refine fa_c (s_ic_ge dX7_keep_71 (by decide)) ?_
  refine fa_c (s_li_n dX7_keep_74 rfl) ?_
  refine fa_c (s_iconst dX7_keep_75 (by decide)) ?_
  refine fa_c (s_i_add dX7_keep_76) ?_
  refine fa_c (s_bipush dX7_keep_77 (by decide)) ?_
  refine fa_c (s_li_n dX7_keep_79 rfl) ?_
  refine fa_c (s_i_mul dX7_keep_80) ?_
  refine fa_c (s_i_add dX7_keep_81) ?_
  refine fa_c (s_st dX7_keep_82 (by decide)) ?_
  refine fa_c (s_la_n dX7_keep_84 rfl) ?_
  refine fa_c (gf_X7_22 w_655 dX7_keep_85) ?_
  refine fa_c (s_li dX7_keep_88) ?_
  refine fa_c (s_la_n dX7_keep_90 rfl) ?_
  refine fa_c (gf_X7_1 w_634 dX7_keep_91) ?_
  refine fa_c (s_li_n dX7_keep_94 rfl) ?_
  refine fa_c (s_ia dX7_keep_95) ?_
  refine fa_c (s_is hAp dX7_keep_96) ?_
  refine fa_c (s_la_n dX7_keep_97 rfl) ?_
  refine fa_c (gf_X7_22 w_655 dX7_keep_98) ?_
  refine fa_c (s_li dX7_keep_101) ?_
  refine fa_c (s_iconst dX7_keep_103 (by decide)) ?_
  refine fa_c (s_i_add dX7_keep_104) ?_
  refine fa_c (s_la_n dX7_keep_105 rfl) ?_
  refine fa_c (gf_X7_2 w_635 dX7_keep_106) ?_
  refine fa_c (s_li_n dX7_keep_109 rfl) ?_
  refine fa_c (s_ia dX7_keep_110) ?_
  refine fa_c (s_is hAp dX7_keep_111) ?_
  refine fa_c (s_la_n dX7_keep_112 rfl) ?_
  refine fa_c (gf_X7_22 w_655 dX7_keep_113) ?_
  refine fa_c (s_li dX7_keep_116) ?_
  refine fa_c (s_iconst dX7_keep_118 (by decide)) ?_
  refine fa_c (s_i_add dX7_keep_119) ?_
  refine fa_c (s_la_n dX7_keep_120 rfl) ?_
  refine fa_c (gf_X7_3 w_636 dX7_keep_121) ?_
  refine fa_c (s_li_n dX7_keep_124 rfl) ?_
  refine fa_c (s_ba dX7_keep_125) ?_
  refine fa_c (s_if_eq dX7_keep_126 (by decide)) ?_
  refine fa_c (s_iconst dX7_keep_129 (by decide)) ?_
  refine fa_c (s_go dX7_keep_130 (by decide)) ?_
  refine fa_c (s_iconst dX7_keep_133 (by decide)) ?_
  refine fa_c (s_is hAp dX7_keep_134) ?_
  refine fa_c (s_la_n dX7_keep_135 rfl) ?_
  refine fa_c (gf_X7_22 w_655 dX7_keep_136) ?_
  refine fa_c (s_li dX7_keep_139) ?_
  refine fa_c (s_iconst dX7_keep_141 (by decide)) ?_
  refine fa_c (s_i_add dX7_keep_142) ?_
  refine fa_c (s_la_n dX7_keep_143 rfl) ?_
  refine fa_c (gf_X7_4 w_637 dX7_keep_144) ?_
  refine fa_c (s_li_n dX7_keep_147 rfl) ?_
  refine fa_c (s_ia dX7_keep_148) ?_
  refine fa_c (s_is hAp dX7_keep_149) ?_
  refine fa_c (s_la_n dX7_keep_150 rfl) ?_
  refine fa_c (gf_X7_22 w_655 dX7_keep_151) ?_
  refine fa_c (s_li dX7_keep_154) ?_
  refine fa_c (s_iconst dX7_keep_156 (by decide)) ?_
  refine fa_c (s_i_add dX7_keep_157) ?_
  refine fa_c (s_la_n dX7_keep_158 rfl) ?_
  refine fa_c (gf_X7_5 w_638 dX7_keep_159) ?_
  refine fa_c (s_li_n dX7_keep_162 rfl) ?_
  refine fa_c (s_ba dX7_keep_163) ?_
  refine fa_c (s_if_eq dX7_keep_164 (by decide)) ?_
  refine fa_c (s_iconst dX7_keep_167 (by decide)) ?_
  refine fa_c (s_go dX7_keep_168 (by decide)) ?_
  refine fa_c (s_iconst dX7_keep_171 (by decide)) ?_
  refine fa_c (s_is hAp dX7_keep_172) ?_
  refine fa_c (s_la_n dX7_keep_173 rfl) ?_
  refine fa_c (gf_X7_22 w_655 dX7_keep_174) ?_
  refine fa_c (s_li dX7_keep_177) ?_
  refine fa_c (s_iconst dX7_keep_179 (by decide)) ?_
  refine fa_c (s_i_add dX7_keep_180) ?_
  refine fa_c (s_la_n dX7_keep_181 rfl) ?_
  refine fa_c (gf_X7_6 w_639 dX7_keep_182) ?_
  refine fa_c (s_li_n dX7_keep_185 rfl) ?_
  refine fa_c (s_ia dX7_keep_186) ?_
  refine fa_c (s_is hAp dX7_keep_187) ?_
  refine fa_c (s_inc dX7_keep_188 (by decide) (by decide)) ?_
  refine fa_c (s_go dX7_keep_191 (by decide)) ?_
  refine fa_c (s_iconst dX7_keep_194 (by decide)) ?_
  refine fa_c (s_st_n dX7_keep_195 rfl (by decide)) ?_
  refine fa_c (s_li_n dX7_keep_196 rfl) ?_
  refine fa_c (s_bipush dX7_keep_197 (by decide)) ?_
  refine fa_c (s_ic_ge dX7_keep_199 (by decide)) ?_
  refine fa_c (s_la_n dX7_keep_202 rfl) ?_
  refine fa_c (gf_X7_22 w_655 dX7_keep_203) ?_
  refine fa_c (s_li_n dX7_keep_206 rfl) ?_
  refine fa_c (s_sipush dX7_keep_207 (by decide)) ?_
  refine fa_c (s_i_add dX7_keep_210) ?_
  refine fa_c (s_li_n dX7_keep_211 rfl) ?_
  refine fa_c (s_i_add dX7_keep_212) ?_
  refine fa_c (s_la_n dX7_keep_213 rfl) ?_
  refine fa_c (gf_X7_12 w_645 dX7_keep_214) ?_
  refine fa_c (s_li_n dX7_keep_217 rfl) ?_
  refine fa_c (s_ia dX7_keep_218) ?_
  refine fa_c (s_is hAp dX7_keep_219) ?_
  refine fa_c (s_inc dX7_keep_220 (by decide) (by decide)) ?_
  refine fa_c (s_go dX7_keep_223 (by decide)) ?_
  refine fa_c (s_la_n dX7_keep_226 rfl) ?_
  refine fa_c (gf_X7_23 w_656 dX7_keep_227) ?_
  refine fa_c (s_li_n dX7_keep_230 rfl) ?_
  refine fa_c (s_iconst dX7_keep_231 (by decide)) ?_
  refine fa_c (s_bs hAp dX7_keep_232) ?_
  refine fa_c (s_la_n dX7_keep_233 rfl) ?_
  refine fa_c (gf_X7_0 w_633 dX7_keep_234) ?_
  refine fa_c (s_ri dX7_keep_237 rfl) ?_
  exact fun e he => absurd he List.not_mem_nil
theorem cl_X7_keep {G : GX} (hAp : Ap G) : Cl1 (Ct G mts) n_X7_keep tb_X7_keep := ct_cl (y := n_X7_keep) (yn := yX7_keep) rfl (by decide +kernel) (ok_X7_keep hAp)
theorem dX7_goBack_0 : decode cX7_goBack 0 = .ok (.iload_n 1, 1) := by decide +kernel
theorem dX7_goBack_1 : decode cX7_goBack 1 = .ok (.iconst 0, 1) := by decide +kernel
theorem dX7_goBack_2 : decode cX7_goBack 2 = .ok (.iconst 1, 1) := by decide +kernel
theorem dX7_goBack_3 : decode cX7_goBack 3 = .ok (.invokestatic 106, 3) := by decide +kernel
theorem dX7_goBack_6 : decode cX7_goBack 6 = .ok (.ifCond .ne 6, 3) := by decide +kernel
theorem dX7_goBack_9 : decode cX7_goBack 9 = .ok (.ldc 120, 2) := by decide +kernel
theorem dX7_goBack_11 : decode cX7_goBack 11 = .ok (.ireturn, 1) := by decide +kernel
theorem dX7_goBack_12 : decode cX7_goBack 12 = .ok (.aload_n 0, 1) := by decide +kernel
theorem dX7_goBack_13 : decode cX7_goBack 13 = .ok (.getfield 47, 3) := by decide +kernel
theorem dX7_goBack_16 : decode cX7_goBack 16 = .ok (.iload_n 1, 1) := by decide +kernel
theorem dX7_goBack_17 : decode cX7_goBack 17 = .ok (.baload, 1) := by decide +kernel
theorem dX7_goBack_18 : decode cX7_goBack 18 = .ok (.ifCond .ne 6, 3) := by decide +kernel
theorem dX7_goBack_21 : decode cX7_goBack 21 = .ok (.ldc 121, 2) := by decide +kernel
theorem dX7_goBack_23 : decode cX7_goBack 23 = .ok (.ireturn, 1) := by decide +kernel
theorem dX7_goBack_24 : decode cX7_goBack 24 = .ok (.sipush 260, 3) := by decide +kernel
theorem dX7_goBack_27 : decode cX7_goBack 27 = .ok (.iload_n 1, 1) := by decide +kernel
theorem dX7_goBack_28 : decode cX7_goBack 28 = .ok (.imul, 1) := by decide +kernel
theorem dX7_goBack_29 : decode cX7_goBack 29 = .ok (.istore_n 2, 1) := by decide +kernel
theorem dX7_goBack_30 : decode cX7_goBack 30 = .ok (.aload_n 0, 1) := by decide +kernel
theorem dX7_goBack_31 : decode cX7_goBack 31 = .ok (.aload_n 0, 1) := by decide +kernel
theorem dX7_goBack_32 : decode cX7_goBack 32 = .ok (.getfield 44, 3) := by decide +kernel
theorem dX7_goBack_35 : decode cX7_goBack 35 = .ok (.iload_n 2, 1) := by decide +kernel
theorem dX7_goBack_36 : decode cX7_goBack 36 = .ok (.iaload, 1) := by decide +kernel
theorem dX7_goBack_37 : decode cX7_goBack 37 = .ok (.putfield 54, 3) := by decide +kernel
theorem dX7_goBack_40 : decode cX7_goBack 40 = .ok (.aload_n 0, 1) := by decide +kernel
theorem dX7_goBack_41 : decode cX7_goBack 41 = .ok (.aload_n 0, 1) := by decide +kernel
theorem dX7_goBack_42 : decode cX7_goBack 42 = .ok (.getfield 44, 3) := by decide +kernel
theorem dX7_goBack_45 : decode cX7_goBack 45 = .ok (.iload_n 2, 1) := by decide +kernel
theorem dX7_goBack_46 : decode cX7_goBack 46 = .ok (.iconst 1, 1) := by decide +kernel
theorem dX7_goBack_47 : decode cX7_goBack 47 = .ok (.iadd, 1) := by decide +kernel
theorem dX7_goBack_48 : decode cX7_goBack 48 = .ok (.iaload, 1) := by decide +kernel
theorem dX7_goBack_49 : decode cX7_goBack 49 = .ok (.putfield 67, 3) := by decide +kernel
theorem dX7_goBack_52 : decode cX7_goBack 52 = .ok (.aload_n 0, 1) := by decide +kernel
theorem dX7_goBack_53 : decode cX7_goBack 53 = .ok (.aload_n 0, 1) := by decide +kernel
theorem dX7_goBack_54 : decode cX7_goBack 54 = .ok (.getfield 44, 3) := by decide +kernel
theorem dX7_goBack_57 : decode cX7_goBack 57 = .ok (.iload_n 2, 1) := by decide +kernel
theorem dX7_goBack_58 : decode cX7_goBack 58 = .ok (.iconst 2, 1) := by decide +kernel
theorem dX7_goBack_59 : decode cX7_goBack 59 = .ok (.iadd, 1) := by decide +kernel
theorem dX7_goBack_60 : decode cX7_goBack 60 = .ok (.iaload, 1) := by decide +kernel
theorem dX7_goBack_61 : decode cX7_goBack 61 = .ok (.putfield 70, 3) := by decide +kernel
theorem dX7_goBack_64 : decode cX7_goBack 64 = .ok (.aload_n 0, 1) := by decide +kernel
theorem dX7_goBack_65 : decode cX7_goBack 65 = .ok (.aload_n 0, 1) := by decide +kernel
theorem dX7_goBack_66 : decode cX7_goBack 66 = .ok (.getfield 44, 3) := by decide +kernel
theorem dX7_goBack_69 : decode cX7_goBack 69 = .ok (.iload_n 2, 1) := by decide +kernel
theorem dX7_goBack_70 : decode cX7_goBack 70 = .ok (.iconst 3, 1) := by decide +kernel
theorem dX7_goBack_71 : decode cX7_goBack 71 = .ok (.iadd, 1) := by decide +kernel
theorem dX7_goBack_72 : decode cX7_goBack 72 = .ok (.iaload, 1) := by decide +kernel
theorem dX7_goBack_73 : decode cX7_goBack 73 = .ok (.putfield 64, 3) := by decide +kernel
theorem dX7_goBack_76 : decode cX7_goBack 76 = .ok (.iconst 0, 1) := by decide +kernel
theorem dX7_goBack_77 : decode cX7_goBack 77 = .ok (.istore_n 3, 1) := by decide +kernel
theorem dX7_goBack_78 : decode cX7_goBack 78 = .ok (.iload_n 3, 1) := by decide +kernel
theorem dX7_goBack_79 : decode cX7_goBack 79 = .ok (.aload_n 0, 1) := by decide +kernel
theorem dX7_goBack_80 : decode cX7_goBack 80 = .ok (.getfield 54, 3) := by decide +kernel
theorem dX7_goBack_83 : decode cX7_goBack 83 = .ok (.if_icmp .ge 125, 3) := by decide +kernel
theorem dX7_goBack_86 : decode cX7_goBack 86 = .ok (.iload_n 2, 1) := by decide +kernel
theorem dX7_goBack_87 : decode cX7_goBack 87 = .ok (.iconst 4, 1) := by decide +kernel
theorem dX7_goBack_88 : decode cX7_goBack 88 = .ok (.iadd, 1) := by decide +kernel
theorem dX7_goBack_89 : decode cX7_goBack 89 = .ok (.bipush 6, 2) := by decide +kernel
theorem dX7_goBack_91 : decode cX7_goBack 91 = .ok (.iload_n 3, 1) := by decide +kernel
theorem dX7_goBack_92 : decode cX7_goBack 92 = .ok (.imul, 1) := by decide +kernel
theorem dX7_goBack_93 : decode cX7_goBack 93 = .ok (.iadd, 1) := by decide +kernel
theorem dX7_goBack_94 : decode cX7_goBack 94 = .ok (.istore 4, 2) := by decide +kernel
theorem dX7_goBack_96 : decode cX7_goBack 96 = .ok (.aload_n 0, 1) := by decide +kernel
theorem dX7_goBack_97 : decode cX7_goBack 97 = .ok (.getfield 7, 3) := by decide +kernel
theorem dX7_goBack_100 : decode cX7_goBack 100 = .ok (.iload_n 3, 1) := by decide +kernel
theorem dX7_goBack_101 : decode cX7_goBack 101 = .ok (.aload_n 0, 1) := by decide +kernel
theorem dX7_goBack_102 : decode cX7_goBack 102 = .ok (.getfield 44, 3) := by decide +kernel
theorem dX7_goBack_105 : decode cX7_goBack 105 = .ok (.iload 4, 2) := by decide +kernel
theorem dX7_goBack_107 : decode cX7_goBack 107 = .ok (.iaload, 1) := by decide +kernel
theorem dX7_goBack_108 : decode cX7_goBack 108 = .ok (.iastore, 1) := by decide +kernel
theorem dX7_goBack_109 : decode cX7_goBack 109 = .ok (.aload_n 0, 1) := by decide +kernel
theorem dX7_goBack_110 : decode cX7_goBack 110 = .ok (.getfield 13, 3) := by decide +kernel
theorem dX7_goBack_113 : decode cX7_goBack 113 = .ok (.iload_n 3, 1) := by decide +kernel
theorem dX7_goBack_114 : decode cX7_goBack 114 = .ok (.aload_n 0, 1) := by decide +kernel
theorem dX7_goBack_115 : decode cX7_goBack 115 = .ok (.getfield 44, 3) := by decide +kernel
theorem dX7_goBack_118 : decode cX7_goBack 118 = .ok (.iload 4, 2) := by decide +kernel
theorem dX7_goBack_120 : decode cX7_goBack 120 = .ok (.iconst 1, 1) := by decide +kernel
theorem dX7_goBack_121 : decode cX7_goBack 121 = .ok (.iadd, 1) := by decide +kernel
theorem dX7_goBack_122 : decode cX7_goBack 122 = .ok (.iaload, 1) := by decide +kernel
theorem dX7_goBack_123 : decode cX7_goBack 123 = .ok (.iastore, 1) := by decide +kernel
theorem dX7_goBack_124 : decode cX7_goBack 124 = .ok (.aload_n 0, 1) := by decide +kernel
theorem dX7_goBack_125 : decode cX7_goBack 125 = .ok (.getfield 16, 3) := by decide +kernel
theorem dX7_goBack_128 : decode cX7_goBack 128 = .ok (.iload_n 3, 1) := by decide +kernel
theorem dX7_goBack_129 : decode cX7_goBack 129 = .ok (.aload_n 0, 1) := by decide +kernel
theorem dX7_goBack_130 : decode cX7_goBack 130 = .ok (.getfield 44, 3) := by decide +kernel
theorem dX7_goBack_133 : decode cX7_goBack 133 = .ok (.iload 4, 2) := by decide +kernel
theorem dX7_goBack_135 : decode cX7_goBack 135 = .ok (.iconst 2, 1) := by decide +kernel
theorem dX7_goBack_136 : decode cX7_goBack 136 = .ok (.iadd, 1) := by decide +kernel
theorem dX7_goBack_137 : decode cX7_goBack 137 = .ok (.iaload, 1) := by decide +kernel
theorem dX7_goBack_138 : decode cX7_goBack 138 = .ok (.iconst 1, 1) := by decide +kernel
theorem dX7_goBack_139 : decode cX7_goBack 139 = .ok (.if_icmp .ne 7, 3) := by decide +kernel
theorem dX7_goBack_142 : decode cX7_goBack 142 = .ok (.iconst 1, 1) := by decide +kernel
theorem dX7_goBack_143 : decode cX7_goBack 143 = .ok (.goto 4, 3) := by decide +kernel
theorem dX7_goBack_146 : decode cX7_goBack 146 = .ok (.iconst 0, 1) := by decide +kernel
theorem dX7_goBack_147 : decode cX7_goBack 147 = .ok (.bastore, 1) := by decide +kernel
theorem dX7_goBack_148 : decode cX7_goBack 148 = .ok (.aload_n 0, 1) := by decide +kernel
theorem dX7_goBack_149 : decode cX7_goBack 149 = .ok (.getfield 20, 3) := by decide +kernel
theorem dX7_goBack_152 : decode cX7_goBack 152 = .ok (.iload_n 3, 1) := by decide +kernel
theorem dX7_goBack_153 : decode cX7_goBack 153 = .ok (.aload_n 0, 1) := by decide +kernel
theorem dX7_goBack_154 : decode cX7_goBack 154 = .ok (.getfield 44, 3) := by decide +kernel
theorem dX7_goBack_157 : decode cX7_goBack 157 = .ok (.iload 4, 2) := by decide +kernel
theorem dX7_goBack_159 : decode cX7_goBack 159 = .ok (.iconst 3, 1) := by decide +kernel
theorem dX7_goBack_160 : decode cX7_goBack 160 = .ok (.iadd, 1) := by decide +kernel
theorem dX7_goBack_161 : decode cX7_goBack 161 = .ok (.iaload, 1) := by decide +kernel
theorem dX7_goBack_162 : decode cX7_goBack 162 = .ok (.iastore, 1) := by decide +kernel
theorem dX7_goBack_163 : decode cX7_goBack 163 = .ok (.aload_n 0, 1) := by decide +kernel
theorem dX7_goBack_164 : decode cX7_goBack 164 = .ok (.getfield 23, 3) := by decide +kernel
theorem dX7_goBack_167 : decode cX7_goBack 167 = .ok (.iload_n 3, 1) := by decide +kernel
theorem dX7_goBack_168 : decode cX7_goBack 168 = .ok (.aload_n 0, 1) := by decide +kernel
theorem dX7_goBack_169 : decode cX7_goBack 169 = .ok (.getfield 44, 3) := by decide +kernel
theorem dX7_goBack_172 : decode cX7_goBack 172 = .ok (.iload 4, 2) := by decide +kernel
theorem dX7_goBack_174 : decode cX7_goBack 174 = .ok (.iconst 4, 1) := by decide +kernel
theorem dX7_goBack_175 : decode cX7_goBack 175 = .ok (.iadd, 1) := by decide +kernel
theorem dX7_goBack_176 : decode cX7_goBack 176 = .ok (.iaload, 1) := by decide +kernel
theorem dX7_goBack_177 : decode cX7_goBack 177 = .ok (.iconst 1, 1) := by decide +kernel
theorem dX7_goBack_178 : decode cX7_goBack 178 = .ok (.if_icmp .ne 7, 3) := by decide +kernel
theorem dX7_goBack_181 : decode cX7_goBack 181 = .ok (.iconst 1, 1) := by decide +kernel
theorem dX7_goBack_182 : decode cX7_goBack 182 = .ok (.goto 4, 3) := by decide +kernel
theorem dX7_goBack_185 : decode cX7_goBack 185 = .ok (.iconst 0, 1) := by decide +kernel
theorem dX7_goBack_186 : decode cX7_goBack 186 = .ok (.bastore, 1) := by decide +kernel
theorem dX7_goBack_187 : decode cX7_goBack 187 = .ok (.aload_n 0, 1) := by decide +kernel
theorem dX7_goBack_188 : decode cX7_goBack 188 = .ok (.getfield 26, 3) := by decide +kernel
theorem dX7_goBack_191 : decode cX7_goBack 191 = .ok (.iload_n 3, 1) := by decide +kernel
theorem dX7_goBack_192 : decode cX7_goBack 192 = .ok (.aload_n 0, 1) := by decide +kernel
theorem dX7_goBack_193 : decode cX7_goBack 193 = .ok (.getfield 44, 3) := by decide +kernel
theorem dX7_goBack_196 : decode cX7_goBack 196 = .ok (.iload 4, 2) := by decide +kernel
theorem dX7_goBack_198 : decode cX7_goBack 198 = .ok (.iconst 5, 1) := by decide +kernel
theorem dX7_goBack_199 : decode cX7_goBack 199 = .ok (.iadd, 1) := by decide +kernel
theorem dX7_goBack_200 : decode cX7_goBack 200 = .ok (.iaload, 1) := by decide +kernel
theorem dX7_goBack_201 : decode cX7_goBack 201 = .ok (.iastore, 1) := by decide +kernel
theorem dX7_goBack_202 : decode cX7_goBack 202 = .ok (.iinc 3 1, 3) := by decide +kernel
theorem dX7_goBack_205 : decode cX7_goBack 205 = .ok (.goto (-127), 3) := by decide +kernel
theorem dX7_goBack_208 : decode cX7_goBack 208 = .ok (.iconst 0, 1) := by decide +kernel
theorem dX7_goBack_209 : decode cX7_goBack 209 = .ok (.istore_n 3, 1) := by decide +kernel
theorem dX7_goBack_210 : decode cX7_goBack 210 = .ok (.iload_n 3, 1) := by decide +kernel
theorem dX7_goBack_211 : decode cX7_goBack 211 = .ok (.bipush 16, 2) := by decide +kernel
theorem dX7_goBack_213 : decode cX7_goBack 213 = .ok (.if_icmp .ge 27, 3) := by decide +kernel
theorem dX7_goBack_216 : decode cX7_goBack 216 = .ok (.aload_n 0, 1) := by decide +kernel
theorem dX7_goBack_217 : decode cX7_goBack 217 = .ok (.getfield 29, 3) := by decide +kernel
theorem dX7_goBack_220 : decode cX7_goBack 220 = .ok (.iload_n 3, 1) := by decide +kernel
theorem dX7_goBack_221 : decode cX7_goBack 221 = .ok (.aload_n 0, 1) := by decide +kernel
theorem dX7_goBack_222 : decode cX7_goBack 222 = .ok (.getfield 44, 3) := by decide +kernel
theorem dX7_goBack_225 : decode cX7_goBack 225 = .ok (.iload_n 2, 1) := by decide +kernel
theorem dX7_goBack_226 : decode cX7_goBack 226 = .ok (.sipush 244, 3) := by decide +kernel
theorem dX7_goBack_229 : decode cX7_goBack 229 = .ok (.iadd, 1) := by decide +kernel
theorem dX7_goBack_230 : decode cX7_goBack 230 = .ok (.iload_n 3, 1) := by decide +kernel
theorem dX7_goBack_231 : decode cX7_goBack 231 = .ok (.iadd, 1) := by decide +kernel
theorem dX7_goBack_232 : decode cX7_goBack 232 = .ok (.iaload, 1) := by decide +kernel
theorem dX7_goBack_233 : decode cX7_goBack 233 = .ok (.iastore, 1) := by decide +kernel
theorem dX7_goBack_234 : decode cX7_goBack 234 = .ok (.iinc 3 1, 3) := by decide +kernel
theorem dX7_goBack_237 : decode cX7_goBack 237 = .ok (.goto (-27), 3) := by decide +kernel
theorem dX7_goBack_240 : decode cX7_goBack 240 = .ok (.aload_n 0, 1) := by decide +kernel
theorem dX7_goBack_241 : decode cX7_goBack 241 = .ok (.getfield 54, 3) := by decide +kernel
theorem dX7_goBack_244 : decode cX7_goBack 244 = .ok (.ireturn, 1) := by decide +kernel
set_option maxRecDepth 100000 in
theorem ok_X7_goBack {G : GX} (hAp : Ap G) : ∀ d, ∀ e ∈ tb_X7_goBack, Snd G mts yX7_goBack.cls cX7_goBack 5 (some .int) d none e.1 e.2 := by
  intro d
  unfold tb_X7_goBack
  refine fa_c (s_li_n dX7_goBack_0 rfl) ?_
  refine fa_c (s_iconst dX7_goBack_1 (by decide)) ?_
  refine fa_c (s_iconst dX7_goBack_2 (by decide)) ?_
  refine fa_c (s_cs mo_X7_in dX7_goBack_3 w_717 w_718 (by decide)) ?_
  refine fa_c (s_if_ne dX7_goBack_6 (by decide)) ?_
  refine fa_c (s_ldc dX7_goBack_9 w_734) ?_
  refine fa_c (s_ri dX7_goBack_11 rfl) ?_
  refine fa_c (s_la_n dX7_goBack_12 rfl) ?_
  refine fa_c (gf_X7_23 w_656 dX7_goBack_13) ?_
  refine fa_c (s_li_n dX7_goBack_16 rfl) ?_
  refine fa_c (s_ba dX7_goBack_17) ?_
  refine fa_c (s_if_ne dX7_goBack_18 (by decide)) ?_
  refine fa_c (s_ldc dX7_goBack_21 w_735) ?_
  refine fa_c (s_ri dX7_goBack_23 rfl) ?_
  refine fa_c (s_sipush dX7_goBack_24 (by decide)) ?_
  refine fa_c (s_li_n dX7_goBack_27 rfl) ?_
  refine fa_c (s_i_mul dX7_goBack_28) ?_
  refine fa_c (s_st_n dX7_goBack_29 rfl (by decide)) ?_
  refine fa_c (s_la_n dX7_goBack_30 rfl) ?_
  refine fa_c (s_la_n dX7_goBack_31 rfl) ?_
  refine fa_c (gf_X7_22 w_655 dX7_goBack_32) ?_
  refine fa_c (s_li_n dX7_goBack_35 rfl) ?_
  refine fa_c (s_ia dX7_goBack_36) ?_
  refine fa_c (pf_X7_0 hAp w_633 dX7_goBack_37) ?_
  refine fa_c (s_la_n dX7_goBack_40 rfl) ?_
  refine fa_c (s_la_n dX7_goBack_41 rfl) ?_
  refine fa_c (gf_X7_22 w_655 dX7_goBack_42) ?_
  refine fa_c (s_li_n dX7_goBack_45 rfl) ?_
  refine fa_c (s_iconst dX7_goBack_46 (by decide)) ?_
  refine fa_c (s_i_add dX7_goBack_47) ?_
  refine fa_c (s_ia dX7_goBack_48) ?_
  refine fa_c (pf_X7_8 hAp w_641 dX7_goBack_49) ?_
  refine fa_c (s_la_n dX7_goBack_52 rfl) ?_
  refine fa_c (s_la_n dX7_goBack_53 rfl) ?_
  refine fa_c (gf_X7_22 w_655 dX7_goBack_54) ?_
  refine fa_c (s_li_n dX7_goBack_57 rfl) ?_
  refine fa_c (s_iconst dX7_goBack_58 (by decide)) ?_
  refine fa_c (s_i_add dX7_goBack_59) ?_
  refine fa_c (s_ia dX7_goBack_60) ?_
  refine fa_c (pf_X7_9 hAp w_642 dX7_goBack_61) ?_
  refine fa_c (s_la_n dX7_goBack_64 rfl) ?_
  refine fa_c (s_la_n dX7_goBack_65 rfl) ?_
  refine fa_c (gf_X7_22 w_655 dX7_goBack_66) ?_
  refine fa_c (s_li_n dX7_goBack_69 rfl) ?_
  refine fa_c (s_iconst dX7_goBack_70 (by decide)) ?_
  refine fa_c (s_i_add dX7_goBack_71) ?_
  refine fa_c (s_ia dX7_goBack_72) ?_
  refine fa_c (pf_X7_7 hAp w_640 dX7_goBack_73) ?_
  refine fa_c (s_iconst dX7_goBack_76 (by decide)) ?_
  refine fa_c (s_st_n dX7_goBack_77 rfl (by decide)) ?_
  refine fa_c (s_li_n dX7_goBack_78 rfl) ?_
  refine fa_c (s_la_n dX7_goBack_79 rfl) ?_
  refine fa_c (gf_X7_0 w_633 dX7_goBack_80) ?_
  refine fa_c (s_ic_ge dX7_goBack_83 (by decide)) ?_
  refine fa_c (s_li_n dX7_goBack_86 rfl) ?_
  refine fa_c (s_iconst dX7_goBack_87 (by decide)) ?_
  refine fa_c (s_i_add dX7_goBack_88) ?_
  refine fa_c (s_bipush dX7_goBack_89 (by decide)) ?_
  refine fa_c (s_li_n dX7_goBack_91 rfl) ?_
  refine fa_c (s_i_mul dX7_goBack_92) ?_
  refine fa_c (s_i_add dX7_goBack_93) ?_
  refine fa_c (s_st dX7_goBack_94 (by decide)) ?_
  refine fa_c (s_la_n dX7_goBack_96 rfl) ?_
  refine fa_c (gf_X7_1 w_634 dX7_goBack_97) ?_
  refine fa_c (s_li_n dX7_goBack_100 rfl) ?_
  refine fa_c (s_la_n dX7_goBack_101 rfl) ?_
  refine fa_c (gf_X7_22 w_655 dX7_goBack_102) ?_
  refine fa_c (s_li dX7_goBack_105) ?_
  refine fa_c (s_ia dX7_goBack_107) ?_
  refine fa_c (s_is hAp dX7_goBack_108) ?_
  refine fa_c (s_la_n dX7_goBack_109 rfl) ?_
  refine fa_c (gf_X7_2 w_635 dX7_goBack_110) ?_
  refine fa_c (s_li_n dX7_goBack_113 rfl) ?_
  refine fa_c (s_la_n dX7_goBack_114 rfl) ?_
  refine fa_c (gf_X7_22 w_655 dX7_goBack_115) ?_
  refine fa_c (s_li dX7_goBack_118) ?_
  refine fa_c (s_iconst dX7_goBack_120 (by decide)) ?_
  refine fa_c (s_i_add dX7_goBack_121) ?_
  refine fa_c (s_ia dX7_goBack_122) ?_
  refine fa_c (s_is hAp dX7_goBack_123) ?_
  refine fa_c (s_la_n dX7_goBack_124 rfl) ?_
  refine fa_c (gf_X7_3 w_636 dX7_goBack_125) ?_
  refine fa_c (s_li_n dX7_goBack_128 rfl) ?_
  refine fa_c (s_la_n dX7_goBack_129 rfl) ?_
  refine fa_c (gf_X7_22 w_655 dX7_goBack_130) ?_
  refine fa_c (s_li dX7_goBack_133) ?_
  refine fa_c (s_iconst dX7_goBack_135 (by decide)) ?_
  refine fa_c (s_i_add dX7_goBack_136) ?_
  refine fa_c (s_ia dX7_goBack_137) ?_
  refine fa_c (s_iconst dX7_goBack_138 (by decide)) ?_
  refine fa_c (s_ic_ne dX7_goBack_139 (by decide)) ?_
  refine fa_c (s_iconst dX7_goBack_142 (by decide)) ?_
  refine fa_c (s_go dX7_goBack_143 (by decide)) ?_
  refine fa_c (s_iconst dX7_goBack_146 (by decide)) ?_
  refine fa_c (s_bs hAp dX7_goBack_147) ?_
  refine fa_c (s_la_n dX7_goBack_148 rfl) ?_
  refine fa_c (gf_X7_4 w_637 dX7_goBack_149) ?_
  refine fa_c (s_li_n dX7_goBack_152 rfl) ?_
  refine fa_c (s_la_n dX7_goBack_153 rfl) ?_
  refine fa_c (gf_X7_22 w_655 dX7_goBack_154) ?_
  refine fa_c (s_li dX7_goBack_157) ?_
  refine fa_c (s_iconst dX7_goBack_159 (by decide)) ?_
  refine fa_c (s_i_add dX7_goBack_160) ?_
  refine fa_c (s_ia dX7_goBack_161) ?_
  refine fa_c (s_is hAp dX7_goBack_162) ?_
  refine fa_c (s_la_n dX7_goBack_163 rfl) ?_
  refine fa_c (gf_X7_5 w_638 dX7_goBack_164) ?_
  refine fa_c (s_li_n dX7_goBack_167 rfl) ?_
  refine fa_c (s_la_n dX7_goBack_168 rfl) ?_
  refine fa_c (gf_X7_22 w_655 dX7_goBack_169) ?_
  refine fa_c (s_li dX7_goBack_172) ?_
  refine fa_c (s_iconst dX7_goBack_174 (by decide)) ?_
  refine fa_c (s_i_add dX7_goBack_175) ?_
  refine fa_c (s_ia dX7_goBack_176) ?_
  refine fa_c (s_iconst dX7_goBack_177 (by decide)) ?_
  refine fa_c (s_ic_ne dX7_goBack_178 (by decide)) ?_
  refine fa_c (s_iconst dX7_goBack_181 (by decide)) ?_
  refine fa_c (s_go dX7_goBack_182 (by decide)) ?_
  refine fa_c (s_iconst dX7_goBack_185 (by decide)) ?_
  refine fa_c (s_bs hAp dX7_goBack_186) ?_
  refine fa_c (s_la_n dX7_goBack_187 rfl) ?_
  refine fa_c (gf_X7_6 w_639 dX7_goBack_188) ?_
  refine fa_c (s_li_n dX7_goBack_191 rfl) ?_
  refine fa_c (s_la_n dX7_goBack_192 rfl) ?_
  refine fa_c (gf_X7_22 w_655 dX7_goBack_193) ?_
  refine fa_c (s_li dX7_goBack_196) ?_
  refine fa_c (s_iconst dX7_goBack_198 (by decide)) ?_
  refine fa_c (s_i_add dX7_goBack_199) ?_
  refine fa_c (s_ia dX7_goBack_200) ?_
  refine fa_c (s_is hAp dX7_goBack_201) ?_
  refine fa_c (s_inc dX7_goBack_202 (by decide) (by decide)) ?_
  refine fa_c (s_go dX7_goBack_205 (by decide)) ?_
  refine fa_c (s_iconst dX7_goBack_208 (by decide)) ?_
  refine fa_c (s_st_n dX7_goBack_209 rfl (by decide)) ?_
  refine fa_c (s_li_n dX7_goBack_210 rfl) ?_
  refine fa_c (s_bipush dX7_goBack_211 (by decide)) ?_
  refine fa_c (s_ic_ge dX7_goBack_213 (by decide)) ?_
  refine fa_c (s_la_n dX7_goBack_216 rfl) ?_
  refine fa_c (gf_X7_12 w_645 dX7_goBack_217) ?_
  refine fa_c (s_li_n dX7_goBack_220 rfl) ?_
  refine fa_c (s_la_n dX7_goBack_221 rfl) ?_
  refine fa_c (gf_X7_22 w_655 dX7_goBack_222) ?_
  refine fa_c (s_li_n dX7_goBack_225 rfl) ?_
  refine fa_c (s_sipush dX7_goBack_226 (by decide)) ?_
  refine fa_c (s_i_add dX7_goBack_229) ?_
  refine fa_c (s_li_n dX7_goBack_230 rfl) ?_
  refine fa_c (s_i_add dX7_goBack_231) ?_
  refine fa_c (s_ia dX7_goBack_232) ?_
  refine fa_c (s_is hAp dX7_goBack_233) ?_
  refine fa_c (s_inc dX7_goBack_234 (by decide) (by decide)) ?_
  refine fa_c (s_go dX7_goBack_237 (by decide)) ?_
  refine fa_c (s_la_n dX7_goBack_240 rfl) ?_
  refine fa_c (gf_X7_0 w_633 dX7_goBack_241) ?_
  refine fa_c (s_ri dX7_goBack_244 rfl) ?_
  exact fun e he => absurd he List.not_mem_nil
theorem cl_X7_goBack {G : GX} (hAp : Ap G) : Cl1 (Ct G mts) n_X7_goBack tb_X7_goBack := ct_cl (y := n_X7_goBack) (yn := yX7_goBack) rfl (by decide +kernel) (ok_X7_goBack hAp)
theorem dJ7_fill_53178_0 : decode cJ7_fill_53178 0 = .ok (.iconst 0, 1) := by decide +kernel
theorem dJ7_fill_53178_1 : decode cJ7_fill_53178 1 = .ok (.istore_n 2, 1) := by decide +kernel
theorem dJ7_fill_53178_2 : decode cJ7_fill_53178 2 = .ok (.aload_n 0, 1) := by decide +kernel
theorem dJ7_fill_53178_3 : decode cJ7_fill_53178 3 = .ok (.arraylength, 1) := by decide +kernel
theorem dJ7_fill_53178_4 : decode cJ7_fill_53178 4 = .ok (.istore_n 3, 1) := by decide +kernel
theorem dJ7_fill_53178_5 : decode cJ7_fill_53178 5 = .ok (.iload_n 2, 1) := by decide +kernel
theorem dJ7_fill_53178_6 : decode cJ7_fill_53178 6 = .ok (.iload_n 3, 1) := by decide +kernel
theorem dJ7_fill_53178_7 : decode cJ7_fill_53178 7 = .ok (.if_icmp .ge 13, 3) := by decide +kernel
theorem dJ7_fill_53178_10 : decode cJ7_fill_53178 10 = .ok (.aload_n 0, 1) := by decide +kernel
theorem dJ7_fill_53178_11 : decode cJ7_fill_53178 11 = .ok (.iload_n 2, 1) := by decide +kernel
theorem dJ7_fill_53178_12 : decode cJ7_fill_53178 12 = .ok (.iload_n 1, 1) := by decide +kernel
theorem dJ7_fill_53178_13 : decode cJ7_fill_53178 13 = .ok (.iastore, 1) := by decide +kernel
theorem dJ7_fill_53178_14 : decode cJ7_fill_53178 14 = .ok (.iinc 2 1, 3) := by decide +kernel
theorem dJ7_fill_53178_17 : decode cJ7_fill_53178 17 = .ok (.goto (-12), 3) := by decide +kernel
theorem dJ7_fill_53178_20 : decode cJ7_fill_53178 20 = .ok (.return_, 1) := by decide +kernel
set_option maxRecDepth 100000 in
theorem ok_J7_fill_53178 {G : GX} (hAp : Ap G) : ∀ d, ∀ e ∈ tb_J7_fill_53178, Snd G mts yJ7_fill_53178.cls cJ7_fill_53178 4 (none) d none e.1 e.2 := by
  intro d
  unfold tb_J7_fill_53178
  refine fa_c (s_iconst dJ7_fill_53178_0 (by decide)) ?_
  refine fa_c (s_st_n dJ7_fill_53178_1 rfl (by decide)) ?_
  refine fa_c (s_la_n dJ7_fill_53178_2 rfl) ?_
  refine fa_c (s_al dJ7_fill_53178_3) ?_
  refine fa_c (s_st_n dJ7_fill_53178_4 rfl (by decide)) ?_
  refine fa_c (s_li_n dJ7_fill_53178_5 rfl) ?_
  refine fa_c (s_li_n dJ7_fill_53178_6 rfl) ?_
  refine fa_c (s_ic_ge dJ7_fill_53178_7 (by decide)) ?_
  refine fa_c (s_la_n dJ7_fill_53178_10 rfl) ?_
  refine fa_c (s_li_n dJ7_fill_53178_11 rfl) ?_
  refine fa_c (s_li_n dJ7_fill_53178_12 rfl) ?_
  refine fa_c (s_is hAp dJ7_fill_53178_13) ?_
  refine fa_c (s_inc dJ7_fill_53178_14 (by decide) (by decide)) ?_
  refine fa_c (s_go dJ7_fill_53178_17 (by decide)) ?_
  refine fa_c (s_rv dJ7_fill_53178_20 rfl) ?_
  exact fun e he => absurd he List.not_mem_nil
theorem cl_J7_fill_53178 {G : GX} (hAp : Ap G) : Cl1 (Ct G mts) n_J7_fill_53178 tb_J7_fill_53178 := ct_cl (y := n_J7_fill_53178) (yn := yJ7_fill_53178) rfl (by decide +kernel) (ok_J7_fill_53178 hAp)

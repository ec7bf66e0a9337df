-- written by wip/whole/gen2.py
theorem dX0_empty_0 : decode cX0_empty 0 = .ok (.aload_n 0, 1) := by decide +kernel
theorem dX0_empty_1 : decode cX0_empty 1 = .ok (.getfield 9, 3) := by decide +kernel
theorem dX0_empty_4 : decode cX0_empty 4 = .ok (.iconst (-1), 1) := by decide +kernel
theorem dX0_empty_5 : decode cX0_empty 5 = .ok (.invokestatic 15, 3) := by decide +kernel
theorem dX0_empty_8 : decode cX0_empty 8 = .ok (.return_, 1) := by decide +kernel
set_option maxRecDepth 100000 in
theorem ok_X0_empty {G : GX} (hAp : Ap G) : ∀ d, ∀ e ∈ tb_X0_empty, Snd G mts yX0_empty.cls cX0_empty 1 (none) d none e.1 e.2 := by
  intro d
  unfold tb_X0_empty
  refine fa_c (s_la_n dX0_empty_0 rfl) ?_
  refine fa_c (gf_X0_0 w_128 dX0_empty_1) ?_
  refine fa_c (s_iconst dX0_empty_4 (by decide)) ?_
  refine fa_c (s_cs mo_J7_fill_53178 dX0_empty_5 w_125 w_126 (by decide)) ?_
  refine fa_c (s_rv dX0_empty_8 rfl) ?_
  exact fun e he => absurd he List.not_mem_nil
theorem cl_X0_empty {G : GX} (hAp : Ap G) : Cl1 (Ct G mts) n_X0_empty tb_X0_empty := ct_cl (y := n_X0_empty) (yn := yX0_empty) rfl (by decide +kernel) (ok_X0_empty hAp)
theorem dX0_copyFrom_0 : decode cX0_copyFrom 0 = .ok (.aload_n 1, 1) := by decide +kernel
theorem dX0_copyFrom_1 : decode cX0_copyFrom 1 = .ok (.getfield 9, 3) := by decide +kernel
theorem dX0_copyFrom_4 : decode cX0_copyFrom 4 = .ok (.iconst 0, 1) := by decide +kernel
theorem dX0_copyFrom_5 : decode cX0_copyFrom 5 = .ok (.aload_n 0, 1) := by decide +kernel
theorem dX0_copyFrom_6 : decode cX0_copyFrom 6 = .ok (.getfield 9, 3) := by decide +kernel
theorem dX0_copyFrom_9 : decode cX0_copyFrom 9 = .ok (.iconst 0, 1) := by decide +kernel
theorem dX0_copyFrom_10 : decode cX0_copyFrom 10 = .ok (.bipush 16, 2) := by decide +kernel
theorem dX0_copyFrom_12 : decode cX0_copyFrom 12 = .ok (.invokestatic 21, 3) := by decide +kernel
theorem dX0_copyFrom_15 : decode cX0_copyFrom 15 = .ok (.return_, 1) := by decide +kernel
set_option maxRecDepth 100000 in
theorem ok_X0_copyFrom {G : GX} (hAp : Ap G) : ∀ d, ∀ e ∈ tb_X0_copyFrom, Snd G mts yX0_copyFrom.cls cX0_copyFrom 2 (none) d none e.1 e.2 := by
  intro d
  unfold tb_X0_copyFrom
  refine fa_c (s_la_n dX0_copyFrom_0 rfl) ?_
  refine fa_c (gf_X0_0 w_128 dX0_copyFrom_1) ?_
  refine fa_c (s_iconst dX0_copyFrom_4 (by decide)) ?_
  refine fa_c (s_la_n dX0_copyFrom_5 rfl) ?_
  refine fa_c (gf_X0_0 w_128 dX0_copyFrom_6) ?_
  refine fa_c (s_iconst dX0_copyFrom_9 (by decide)) ?_
  refine fa_c (s_bipush dX0_copyFrom_10 (by decide)) ?_
  refine fa_c (s_acp hAp dX0_copyFrom_12 w_612 w_614 w_613 w_56 (by decide +kernel)) ?_
  refine fa_c (s_rv dX0_copyFrom_15 rfl) ?_
  exact fun e he => absurd he List.not_mem_nil
theorem cl_X0_copyFrom {G : GX} (hAp : Ap G) : Cl1 (Ct G mts) n_X0_copyFrom tb_X0_copyFrom := ct_cl (y := n_X0_copyFrom) (yn := yX0_copyFrom) rfl (by decide +kernel) (ok_X0_copyFrom hAp)
theorem dX0_sitter_0 : decode cX0_sitter 0 = .ok (.aload_n 0, 1) := by decide +kernel
theorem dX0_sitter_1 : decode cX0_sitter 1 = .ok (.getfield 9, 3) := by decide +kernel
theorem dX0_sitter_4 : decode cX0_sitter 4 = .ok (.iload_n 1, 1) := by decide +kernel
theorem dX0_sitter_5 : decode cX0_sitter 5 = .ok (.bipush 8, 2) := by decide +kernel
theorem dX0_sitter_7 : decode cX0_sitter 7 = .ok (.imul, 1) := by decide +kernel
theorem dX0_sitter_8 : decode cX0_sitter 8 = .ok (.iload_n 2, 1) := by decide +kernel
theorem dX0_sitter_9 : decode cX0_sitter 9 = .ok (.iadd, 1) := by decide +kernel
theorem dX0_sitter_10 : decode cX0_sitter 10 = .ok (.iaload, 1) := by decide +kernel
theorem dX0_sitter_11 : decode cX0_sitter 11 = .ok (.ireturn, 1) := by decide +kernel
set_option maxRecDepth 100000 in
theorem ok_X0_sitter {G : GX} (hAp : Ap G) : ∀ d, ∀ e ∈ tb_X0_sitter, Snd G mts yX0_sitter.cls cX0_sitter 3 (some .int) d none e.1 e.2 := by
  intro d
  unfold tb_X0_sitter
  refine fa_c (s_la_n dX0_sitter_0 rfl) ?_
  refine fa_c (gf_X0_0 w_128 dX0_sitter_1) ?_
  refine fa_c (s_li_n dX0_sitter_4 rfl) ?_
  refine fa_c (s_bipush dX0_sitter_5 (by decide)) ?_
  refine fa_c (s_i_mul dX0_sitter_7) ?_
  refine fa_c (s_li_n dX0_sitter_8 rfl) ?_
  refine fa_c (s_i_add dX0_sitter_9) ?_
  refine fa_c (s_ia dX0_sitter_10) ?_
  refine fa_c (s_ri dX0_sitter_11 rfl) ?_
  exact fun e he => absurd he List.not_mem_nil
theorem cl_X0_sitter {G : GX} (hAp : Ap G) : Cl1 (Ct G mts) n_X0_sitter tb_X0_sitter := ct_cl (y := n_X0_sitter) (yn := yX0_sitter) rfl (by decide +kernel) (ok_X0_sitter hAp)
theorem dX0_seat_0 : decode cX0_seat 0 = .ok (.aload_n 0, 1) := by decide +kernel
theorem dX0_seat_1 : decode cX0_seat 1 = .ok (.iload_n 1, 1) := by decide +kernel
theorem dX0_seat_2 : decode cX0_seat 2 = .ok (.iload_n 2, 1) := by decide +kernel
theorem dX0_seat_3 : decode cX0_seat 3 = .ok (.invokevirtual 27, 3) := by decide +kernel
theorem dX0_seat_6 : decode cX0_seat 6 = .ok (.istore 4, 2) := by decide +kernel
theorem dX0_seat_8 : decode cX0_seat 8 = .ok (.iconst 0, 1) := by decide +kernel
theorem dX0_seat_9 : decode cX0_seat 9 = .ok (.istore 5, 2) := by decide +kernel
theorem dX0_seat_11 : decode cX0_seat 11 = .ok (.iload 5, 2) := by decide +kernel
theorem dX0_seat_13 : decode cX0_seat 13 = .ok (.bipush 16, 2) := by decide +kernel
theorem dX0_seat_15 : decode cX0_seat 15 = .ok (.if_icmp .ge 28, 3) := by decide +kernel
theorem dX0_seat_18 : decode cX0_seat 18 = .ok (.aload_n 0, 1) := by decide +kernel
theorem dX0_seat_19 : decode cX0_seat 19 = .ok (.getfield 9, 3) := by decide +kernel
theorem dX0_seat_22 : decode cX0_seat 22 = .ok (.iload 5, 2) := by decide +kernel
theorem dX0_seat_24 : decode cX0_seat 24 = .ok (.iaload, 1) := by decide +kernel
theorem dX0_seat_25 : decode cX0_seat 25 = .ok (.iload_n 3, 1) := by decide +kernel
theorem dX0_seat_26 : decode cX0_seat 26 = .ok (.if_icmp .ne 11, 3) := by decide +kernel
theorem dX0_seat_29 : decode cX0_seat 29 = .ok (.aload_n 0, 1) := by decide +kernel
theorem dX0_seat_30 : decode cX0_seat 30 = .ok (.getfield 9, 3) := by decide +kernel
theorem dX0_seat_33 : decode cX0_seat 33 = .ok (.iload 5, 2) := by decide +kernel
theorem dX0_seat_35 : decode cX0_seat 35 = .ok (.iconst (-1), 1) := by decide +kernel
theorem dX0_seat_36 : decode cX0_seat 36 = .ok (.iastore, 1) := by decide +kernel
theorem dX0_seat_37 : decode cX0_seat 37 = .ok (.iinc 5 1, 3) := by decide +kernel
theorem dX0_seat_40 : decode cX0_seat 40 = .ok (.goto (-29), 3) := by decide +kernel
theorem dX0_seat_43 : decode cX0_seat 43 = .ok (.aload_n 0, 1) := by decide +kernel
theorem dX0_seat_44 : decode cX0_seat 44 = .ok (.getfield 9, 3) := by decide +kernel
theorem dX0_seat_47 : decode cX0_seat 47 = .ok (.iload_n 1, 1) := by decide +kernel
theorem dX0_seat_48 : decode cX0_seat 48 = .ok (.bipush 8, 2) := by decide +kernel
theorem dX0_seat_50 : decode cX0_seat 50 = .ok (.imul, 1) := by decide +kernel
theorem dX0_seat_51 : decode cX0_seat 51 = .ok (.iload_n 2, 1) := by decide +kernel
theorem dX0_seat_52 : decode cX0_seat 52 = .ok (.iadd, 1) := by decide +kernel
theorem dX0_seat_53 : decode cX0_seat 53 = .ok (.iload_n 3, 1) := by decide +kernel
theorem dX0_seat_54 : decode cX0_seat 54 = .ok (.iastore, 1) := by decide +kernel
theorem dX0_seat_55 : decode cX0_seat 55 = .ok (.iload 4, 2) := by decide +kernel
theorem dX0_seat_57 : decode cX0_seat 57 = .ok (.ireturn, 1) := by decide +kernel
set_option maxRecDepth 100000 in
theorem ok_X0_seat {G : GX} (hAp : Ap G) : ∀ d, ∀ e ∈ tb_X0_seat, Snd G mts yX0_seat.cls cX0_seat 6 (some .int) d none e.1 e.2 := by
  intro d
  unfold tb_X0_seat
  refine fa_c (s_la_n dX0_seat_0 rfl) ?_
  refine fa_c (s_li_n dX0_seat_1 rfl) ?_
  refine fa_c (s_li_n dX0_seat_2 rfl) ?_
  refine fa_c (s_cv mo_X0_sitter co_X0 (by decide) (fun _ _ => ⟨_, rfl⟩) dX0_seat_3 w_488 w_489 w_490 (by decide)) ?_
  refine fa_c (s_st dX0_seat_6 (by decide)) ?_
  refine fa_c (s_iconst dX0_seat_8 (by decide)) ?_
  refine fa_c (s_st dX0_seat_9 (by decide)) ?_
  refine fa_c (s_li dX0_seat_11) ?_
  refine fa_c (s_bipush dX0_seat_13 (by decide)) ?_
  refine fa_c (s_ic_ge dX0_seat_15 (by decide)) ?_
  refine fa_c (s_la_n dX0_seat_18 rfl) ?_
  refine fa_c (gf_X0_0 w_128 dX0_seat_19) ?_
  refine fa_c (s_li dX0_seat_22) ?_
  refine fa_c (s_ia dX0_seat_24) ?_
  refine fa_c (s_li_n dX0_seat_25 rfl) ?_
  refine fa_c (s_ic_ne dX0_seat_26 (by decide)) ?_
  refine fa_c (s_la_n dX0_seat_29 rfl) ?_
  refine fa_c (gf_X0_0 w_128 dX0_seat_30) ?_
  refine fa_c (s_li dX0_seat_33) ?_
  refine fa_c (s_iconst dX0_seat_35 (by decide)) ?_
  refine fa_c (s_is hAp dX0_seat_36) ?_
  refine fa_c (s_inc dX0_seat_37 (by decide) (by decide)) ?_
  refine fa_c (s_go dX0_seat_40 (by decide)) ?_
  refine fa_c (s_la_n dX0_seat_43 rfl) ?_
  refine fa_c (gf_X0_0 w_128 dX0_seat_44) ?_
  refine fa_c (s_li_n dX0_seat_47 rfl) ?_
  refine fa_c (s_bipush dX0_seat_48 (by decide)) ?_
  refine fa_c (s_i_mul dX0_seat_50) ?_
  refine fa_c (s_li_n dX0_seat_51 rfl) ?_
  refine fa_c (s_i_add dX0_seat_52) ?_
  refine fa_c (s_li_n dX0_seat_53 rfl) ?_
  refine fa_c (s_is hAp dX0_seat_54) ?_
  refine fa_c (s_li dX0_seat_55) ?_
  refine fa_c (s_ri dX0_seat_57 rfl) ?_
  exact fun e he => absurd he List.not_mem_nil
theorem cl_X0_seat {G : GX} (hAp : Ap G) : Cl1 (Ct G mts) n_X0_seat tb_X0_seat := ct_cl (y := n_X0_seat) (yn := yX0_seat) rfl (by decide +kernel) (ok_X0_seat hAp)
theorem dX1_bitsOf_0 : decode cX1_bitsOf 0 = .ok (.iload_n 0, 1) := by decide +kernel
theorem dX1_bitsOf_1 : decode cX1_bitsOf 1 = .ok (.ifCond .ne 5, 3) := by decide +kernel
theorem dX1_bitsOf_4 : decode cX1_bitsOf 4 = .ok (.lconst 0, 1) := by decide +kernel
theorem dX1_bitsOf_5 : decode cX1_bitsOf 5 = .ok (.lreturn, 1) := by decide +kernel
theorem dX1_bitsOf_6 : decode cX1_bitsOf 6 = .ok (.iload_n 0, 1) := by decide +kernel
theorem dX1_bitsOf_7 : decode cX1_bitsOf 7 = .ok (.i2l, 1) := by decide +kernel
theorem dX1_bitsOf_8 : decode cX1_bitsOf 8 = .ok (.invokestatic 7, 3) := by decide +kernel
theorem dX1_bitsOf_11 : decode cX1_bitsOf 11 = .ok (.lstore_n 3, 1) := by decide +kernel
theorem dX1_bitsOf_12 : decode cX1_bitsOf 12 = .ok (.iconst 0, 1) := by decide +kernel
theorem dX1_bitsOf_13 : decode cX1_bitsOf 13 = .ok (.istore 5, 2) := by decide +kernel
theorem dX1_bitsOf_15 : decode cX1_bitsOf 15 = .ok (.iconst 0, 1) := by decide +kernel
theorem dX1_bitsOf_16 : decode cX1_bitsOf 16 = .ok (.istore 6, 2) := by decide +kernel
theorem dX1_bitsOf_18 : decode cX1_bitsOf 18 = .ok (.iload 6, 2) := by decide +kernel
theorem dX1_bitsOf_20 : decode cX1_bitsOf 20 = .ok (.bipush 20, 2) := by decide +kernel
theorem dX1_bitsOf_22 : decode cX1_bitsOf 22 = .ok (.if_icmp .ge 22, 3) := by decide +kernel
theorem dX1_bitsOf_25 : decode cX1_bitsOf 25 = .ok (.lload_n 3, 1) := by decide +kernel
theorem dX1_bitsOf_26 : decode cX1_bitsOf 26 = .ok (.iload 6, 2) := by decide +kernel
theorem dX1_bitsOf_28 : decode cX1_bitsOf 28 = .ok (.lshr, 1) := by decide +kernel
theorem dX1_bitsOf_29 : decode cX1_bitsOf 29 = .ok (.lconst 0, 1) := by decide +kernel
theorem dX1_bitsOf_30 : decode cX1_bitsOf 30 = .ok (.lcmp, 1) := by decide +kernel
theorem dX1_bitsOf_31 : decode cX1_bitsOf 31 = .ok (.ifCond .eq 7, 3) := by decide +kernel
theorem dX1_bitsOf_34 : decode cX1_bitsOf 34 = .ok (.iload 6, 2) := by decide +kernel
theorem dX1_bitsOf_36 : decode cX1_bitsOf 36 = .ok (.istore 5, 2) := by decide +kernel
theorem dX1_bitsOf_38 : decode cX1_bitsOf 38 = .ok (.iinc 6 1, 3) := by decide +kernel
theorem dX1_bitsOf_41 : decode cX1_bitsOf 41 = .ok (.goto (-23), 3) := by decide +kernel
theorem dX1_bitsOf_44 : decode cX1_bitsOf 44 = .ok (.iload_n 0, 1) := by decide +kernel
theorem dX1_bitsOf_45 : decode cX1_bitsOf 45 = .ok (.ifCond .ge 7, 3) := by decide +kernel
theorem dX1_bitsOf_48 : decode cX1_bitsOf 48 = .ok (.lconst 1, 1) := by decide +kernel
theorem dX1_bitsOf_49 : decode cX1_bitsOf 49 = .ok (.goto 4, 3) := by decide +kernel
theorem dX1_bitsOf_52 : decode cX1_bitsOf 52 = .ok (.lconst 0, 1) := by decide +kernel
theorem dX1_bitsOf_53 : decode cX1_bitsOf 53 = .ok (.lstore 6, 2) := by decide +kernel
theorem dX1_bitsOf_55 : decode cX1_bitsOf 55 = .ok (.iload 5, 2) := by decide +kernel
theorem dX1_bitsOf_57 : decode cX1_bitsOf 57 = .ok (.bipush (-4), 2) := by decide +kernel
theorem dX1_bitsOf_59 : decode cX1_bitsOf 59 = .ok (.iadd, 1) := by decide +kernel
theorem dX1_bitsOf_60 : decode cX1_bitsOf 60 = .ok (.i2l, 1) := by decide +kernel
theorem dX1_bitsOf_61 : decode cX1_bitsOf 61 = .ok (.lconst 1, 1) := by decide +kernel
theorem dX1_bitsOf_62 : decode cX1_bitsOf 62 = .ok (.iload_n 1, 1) := by decide +kernel
theorem dX1_bitsOf_63 : decode cX1_bitsOf 63 = .ok (.iconst 1, 1) := by decide +kernel
theorem dX1_bitsOf_64 : decode cX1_bitsOf 64 = .ok (.isub, 1) := by decide +kernel
theorem dX1_bitsOf_65 : decode cX1_bitsOf 65 = .ok (.lshl, 1) := by decide +kernel
theorem dX1_bitsOf_66 : decode cX1_bitsOf 66 = .ok (.ladd, 1) := by decide +kernel
theorem dX1_bitsOf_67 : decode cX1_bitsOf 67 = .ok (.lconst 1, 1) := by decide +kernel
theorem dX1_bitsOf_68 : decode cX1_bitsOf 68 = .ok (.lsub, 1) := by decide +kernel
theorem dX1_bitsOf_69 : decode cX1_bitsOf 69 = .ok (.lstore 8, 2) := by decide +kernel
theorem dX1_bitsOf_71 : decode cX1_bitsOf 71 = .ok (.lload_n 3, 1) := by decide +kernel
theorem dX1_bitsOf_72 : decode cX1_bitsOf 72 = .ok (.lconst 1, 1) := by decide +kernel
theorem dX1_bitsOf_73 : decode cX1_bitsOf 73 = .ok (.iload 5, 2) := by decide +kernel
theorem dX1_bitsOf_75 : decode cX1_bitsOf 75 = .ok (.lshl, 1) := by decide +kernel
theorem dX1_bitsOf_76 : decode cX1_bitsOf 76 = .ok (.lsub, 1) := by decide +kernel
theorem dX1_bitsOf_77 : decode cX1_bitsOf 77 = .ok (.iload_n 2, 1) := by decide +kernel
theorem dX1_bitsOf_78 : decode cX1_bitsOf 78 = .ok (.iload 5, 2) := by decide +kernel
theorem dX1_bitsOf_80 : decode cX1_bitsOf 80 = .ok (.isub, 1) := by decide +kernel
theorem dX1_bitsOf_81 : decode cX1_bitsOf 81 = .ok (.lshl, 1) := by decide +kernel
theorem dX1_bitsOf_82 : decode cX1_bitsOf 82 = .ok (.lstore 10, 2) := by decide +kernel
theorem dX1_bitsOf_84 : decode cX1_bitsOf 84 = .ok (.lload 6, 2) := by decide +kernel
theorem dX1_bitsOf_86 : decode cX1_bitsOf 86 = .ok (.iload_n 1, 1) := by decide +kernel
theorem dX1_bitsOf_87 : decode cX1_bitsOf 87 = .ok (.iload_n 2, 1) := by decide +kernel
theorem dX1_bitsOf_88 : decode cX1_bitsOf 88 = .ok (.iadd, 1) := by decide +kernel
theorem dX1_bitsOf_89 : decode cX1_bitsOf 89 = .ok (.lshl, 1) := by decide +kernel
theorem dX1_bitsOf_90 : decode cX1_bitsOf 90 = .ok (.lload 8, 2) := by decide +kernel
theorem dX1_bitsOf_92 : decode cX1_bitsOf 92 = .ok (.iload_n 2, 1) := by decide +kernel
theorem dX1_bitsOf_93 : decode cX1_bitsOf 93 = .ok (.lshl, 1) := by decide +kernel
theorem dX1_bitsOf_94 : decode cX1_bitsOf 94 = .ok (.lor, 1) := by decide +kernel
theorem dX1_bitsOf_95 : decode cX1_bitsOf 95 = .ok (.lload 10, 2) := by decide +kernel
theorem dX1_bitsOf_97 : decode cX1_bitsOf 97 = .ok (.lor, 1) := by decide +kernel
theorem dX1_bitsOf_98 : decode cX1_bitsOf 98 = .ok (.lreturn, 1) := by decide +kernel
set_option maxRecDepth 100000 in
theorem ok_X1_bitsOf {G : GX} (hAp : Ap G) : ∀ d, ∀ e ∈ tb_X1_bitsOf, Snd G mts yX1_bitsOf.cls cX1_bitsOf 12 (some .long) d none e.1 e.2 := by
  intro d
  unfold tb_X1_bitsOf
  refine fa_c (s_li_n dX1_bitsOf_0 rfl) ?_
  refine fa_c (s_if_ne dX1_bitsOf_1 (by decide)) ?_
  refine fa_c (s_lconst dX1_bitsOf_4 (by decide)) ?_
  refine fa_c (s_rl dX1_bitsOf_5 rfl) ?_
  refine fa_c (s_li_n dX1_bitsOf_6 rfl) ?_
  refine fa_c (s_i_2l dX1_bitsOf_7) ?_
  refine fa_c (s_abs dX1_bitsOf_8 w_451 w_452 w_54 w_453) ?_
  refine fa_c (s_st2_n dX1_bitsOf_11 rfl (by decide)) ?_
  refine fa_c (s_iconst dX1_bitsOf_12 (by decide)) ?_
  refine fa_c (s_st dX1_bitsOf_13 (by decide)) ?_
  refine fa_c (s_iconst dX1_bitsOf_15 (by decide)) ?_
  refine fa_c (s_st dX1_bitsOf_16 (by decide)) ?_
  refine fa_c (s_li dX1_bitsOf_18) ?_
  refine fa_c (s_bipush dX1_bitsOf_20 (by decide)) ?_
  refine fa_c (s_ic_ge dX1_bitsOf_22 (by decide)) ?_
  refine fa_c (s_ll_n dX1_bitsOf_25 rfl) ?_
  refine fa_c (s_li dX1_bitsOf_26) ?_
  refine fa_c (s_l_shr dX1_bitsOf_28) ?_
  refine fa_c (s_lconst dX1_bitsOf_29 (by decide)) ?_
  refine fa_c (s_l_cmp dX1_bitsOf_30) ?_
  refine fa_c (s_if_eq dX1_bitsOf_31 (by decide)) ?_
  refine fa_c (s_li dX1_bitsOf_34) ?_
  refine fa_c (s_st dX1_bitsOf_36 (by decide)) ?_
  refine fa_c (s_inc dX1_bitsOf_38 (by decide) (by decide)) ?_
  refine fa_c (s_go dX1_bitsOf_41 (by decide)) ?_
  refine fa_c (s_li_n dX1_bitsOf_44 rfl) ?_
  refine fa_c (s_if_ge dX1_bitsOf_45 (by decide)) ?_
  refine fa_c (s_lconst dX1_bitsOf_48 (by decide)) ?_
  refine fa_c (s_go dX1_bitsOf_49 (by decide)) ?_
  refine fa_c (s_lconst dX1_bitsOf_52 (by decide)) ?_
  refine fa_c (s_st2 dX1_bitsOf_53 (by decide)) ?_
  refine fa_c (s_li dX1_bitsOf_55) ?_
  refine fa_c (s_bipush dX1_bitsOf_57 (by decide)) ?_
  refine fa_c (s_i_add dX1_bitsOf_59) ?_
  refine fa_c (s_i_2l dX1_bitsOf_60) ?_
  refine fa_c (s_lconst dX1_bitsOf_61 (by decide)) ?_
  refine fa_c (s_li_n dX1_bitsOf_62 rfl) ?_
  refine fa_c (s_iconst dX1_bitsOf_63 (by decide)) ?_
  refine fa_c (s_i_sub dX1_bitsOf_64) ?_
  refine fa_c (s_l_shl dX1_bitsOf_65) ?_
  refine fa_c (s_l_add dX1_bitsOf_66) ?_
  refine fa_c (s_lconst dX1_bitsOf_67 (by decide)) ?_
  refine fa_c (s_l_sub dX1_bitsOf_68) ?_
  refine fa_c (s_st2 dX1_bitsOf_69 (by decide)) ?_
  refine fa_c (s_ll_n dX1_bitsOf_71 rfl) ?_
  refine fa_c (s_lconst dX1_bitsOf_72 (by decide)) ?_
  refine fa_c (s_li dX1_bitsOf_73) ?_
  refine fa_c (s_l_shl dX1_bitsOf_75) ?_
  refine fa_c (s_l_sub dX1_bitsOf_76) ?_
  refine fa_c (s_li_n dX1_bitsOf_77 rfl) ?_
  refine fa_c (s_li dX1_bitsOf_78) ?_
  refine fa_c (s_i_sub dX1_bitsOf_80) ?_
  refine fa_c (s_l_shl dX1_bitsOf_81) ?_
  refine fa_c (s_st2 dX1_bitsOf_82 (by decide)) ?_
  refine fa_c (s_ll dX1_bitsOf_84) ?_
  refine fa_c (s_li_n dX1_bitsOf_86 rfl) ?_
  refine fa_c (s_li_n dX1_bitsOf_87 rfl) ?_
  refine fa_c (s_i_add dX1_bitsOf_88) ?_
  refine fa_c (s_l_shl dX1_bitsOf_89) ?_
  refine fa_c (s_ll dX1_bitsOf_90) ?_
  refine fa_c (s_li_n dX1_bitsOf_92 rfl) ?_
  refine fa_c (s_l_shl dX1_bitsOf_93) ?_
  refine fa_c (s_l_or dX1_bitsOf_94) ?_
  refine fa_c (s_ll dX1_bitsOf_95) ?_
  refine fa_c (s_l_or dX1_bitsOf_97) ?_
  refine fa_c (s_rl dX1_bitsOf_98 rfl) ?_
  exact fun e he => absurd he List.not_mem_nil
theorem cl_X1_bitsOf {G : GX} (hAp : Ap G) : Cl1 (Ct G mts) n_X1_bitsOf tb_X1_bitsOf := ct_cl (y := n_X1_bitsOf) (yn := yX1_bitsOf) rfl (by decide +kernel) (ok_X1_bitsOf hAp)
theorem dX2_empty_0 : decode cX2_empty 0 = .ok (.aload_n 0, 1) := by decide +kernel
theorem dX2_empty_1 : decode cX2_empty 1 = .ok (.iconst 0, 1) := by decide +kernel
theorem dX2_empty_2 : decode cX2_empty 2 = .ok (.putfield 44, 3) := by decide +kernel
theorem dX2_empty_5 : decode cX2_empty 5 = .ok (.aload_n 0, 1) := by decide +kernel
theorem dX2_empty_6 : decode cX2_empty 6 = .ok (.iconst 0, 1) := by decide +kernel
theorem dX2_empty_7 : decode cX2_empty 7 = .ok (.putfield 47, 3) := by decide +kernel
theorem dX2_empty_10 : decode cX2_empty 10 = .ok (.aload_n 0, 1) := by decide +kernel
theorem dX2_empty_11 : decode cX2_empty 11 = .ok (.iconst 0, 1) := by decide +kernel
theorem dX2_empty_12 : decode cX2_empty 12 = .ok (.putfield 50, 3) := by decide +kernel
theorem dX2_empty_15 : decode cX2_empty 15 = .ok (.return_, 1) := by decide +kernel
set_option maxRecDepth 100000 in
theorem ok_X2_empty {G : GX} (hAp : Ap G) : ∀ d, ∀ e ∈ tb_X2_empty, Snd G mts yX2_empty.cls cX2_empty 1 (none) d none e.1 e.2 := by
  intro d
  unfold tb_X2_empty
  refine fa_c (s_la_n dX2_empty_0 rfl) ?_
  refine fa_c (s_iconst dX2_empty_1 (by decide)) ?_
  refine fa_c (pf_X2_10 hAp w_81 dX2_empty_2) ?_
  refine fa_c (s_la_n dX2_empty_5 rfl) ?_
  refine fa_c (s_iconst dX2_empty_6 (by decide)) ?_
  refine fa_c (pf_X2_11 hAp w_82 dX2_empty_7) ?_
  refine fa_c (s_la_n dX2_empty_10 rfl) ?_
  refine fa_c (s_iconst dX2_empty_11 (by decide)) ?_
  refine fa_c (pf_X2_12 hAp w_83 dX2_empty_12) ?_
  refine fa_c (s_rv dX2_empty_15 rfl) ?_
  exact fun e he => absurd he List.not_mem_nil
theorem cl_X2_empty {G : GX} (hAp : Ap G) : Cl1 (Ct G mts) n_X2_empty tb_X2_empty := ct_cl (y := n_X2_empty) (yn := yX2_empty) rfl (by decide +kernel) (ok_X2_empty hAp)
theorem dX2_copyFrom_0 : decode cX2_copyFrom 0 = .ok (.aload_n 1, 1) := by decide +kernel
theorem dX2_copyFrom_1 : decode cX2_copyFrom 1 = .ok (.getfield 44, 3) := by decide +kernel
theorem dX2_copyFrom_4 : decode cX2_copyFrom 4 = .ok (.aload_n 0, 1) := by decide +kernel
theorem dX2_copyFrom_5 : decode cX2_copyFrom 5 = .ok (.getfield 9, 3) := by decide +kernel
theorem dX2_copyFrom_8 : decode cX2_copyFrom 8 = .ok (.invokestatic 53, 3) := by decide +kernel
theorem dX2_copyFrom_11 : decode cX2_copyFrom 11 = .ok (.istore_n 2, 1) := by decide +kernel
theorem dX2_copyFrom_12 : decode cX2_copyFrom 12 = .ok (.aload_n 0, 1) := by decide +kernel
theorem dX2_copyFrom_13 : decode cX2_copyFrom 13 = .ok (.iload_n 2, 1) := by decide +kernel
theorem dX2_copyFrom_14 : decode cX2_copyFrom 14 = .ok (.putfield 44, 3) := by decide +kernel
theorem dX2_copyFrom_17 : decode cX2_copyFrom 17 = .ok (.aload_n 0, 1) := by decide +kernel
theorem dX2_copyFrom_18 : decode cX2_copyFrom 18 = .ok (.aload_n 1, 1) := by decide +kernel
theorem dX2_copyFrom_19 : decode cX2_copyFrom 19 = .ok (.getfield 47, 3) := by decide +kernel
theorem dX2_copyFrom_22 : decode cX2_copyFrom 22 = .ok (.putfield 47, 3) := by decide +kernel
theorem dX2_copyFrom_25 : decode cX2_copyFrom 25 = .ok (.aload_n 0, 1) := by decide +kernel
theorem dX2_copyFrom_26 : decode cX2_copyFrom 26 = .ok (.aload_n 1, 1) := by decide +kernel
theorem dX2_copyFrom_27 : decode cX2_copyFrom 27 = .ok (.getfield 50, 3) := by decide +kernel
theorem dX2_copyFrom_30 : decode cX2_copyFrom 30 = .ok (.putfield 50, 3) := by decide +kernel
theorem dX2_copyFrom_33 : decode cX2_copyFrom 33 = .ok (.iconst 0, 1) := by decide +kernel
theorem dX2_copyFrom_34 : decode cX2_copyFrom 34 = .ok (.istore_n 3, 1) := by decide +kernel
theorem dX2_copyFrom_35 : decode cX2_copyFrom 35 = .ok (.iload_n 3, 1) := by decide +kernel
theorem dX2_copyFrom_36 : decode cX2_copyFrom 36 = .ok (.iload_n 2, 1) := by decide +kernel
theorem dX2_copyFrom_37 : decode cX2_copyFrom 37 = .ok (.if_icmp .ge 105, 3) := by decide +kernel
theorem dX2_copyFrom_40 : decode cX2_copyFrom 40 = .ok (.aload_n 0, 1) := by decide +kernel
theorem dX2_copyFrom_41 : decode cX2_copyFrom 41 = .ok (.getfield 15, 3) := by decide +kernel
theorem dX2_copyFrom_44 : decode cX2_copyFrom 44 = .ok (.iload_n 3, 1) := by decide +kernel
theorem dX2_copyFrom_45 : decode cX2_copyFrom 45 = .ok (.aload_n 1, 1) := by decide +kernel
theorem dX2_copyFrom_46 : decode cX2_copyFrom 46 = .ok (.getfield 15, 3) := by decide +kernel
theorem dX2_copyFrom_49 : decode cX2_copyFrom 49 = .ok (.iload_n 3, 1) := by decide +kernel
theorem dX2_copyFrom_50 : decode cX2_copyFrom 50 = .ok (.iaload, 1) := by decide +kernel
theorem dX2_copyFrom_51 : decode cX2_copyFrom 51 = .ok (.iastore, 1) := by decide +kernel
theorem dX2_copyFrom_52 : decode cX2_copyFrom 52 = .ok (.aload_n 0, 1) := by decide +kernel
theorem dX2_copyFrom_53 : decode cX2_copyFrom 53 = .ok (.getfield 19, 3) := by decide +kernel
theorem dX2_copyFrom_56 : decode cX2_copyFrom 56 = .ok (.iload_n 3, 1) := by decide +kernel
theorem dX2_copyFrom_57 : decode cX2_copyFrom 57 = .ok (.aload_n 1, 1) := by decide +kernel
theorem dX2_copyFrom_58 : decode cX2_copyFrom 58 = .ok (.getfield 19, 3) := by decide +kernel
theorem dX2_copyFrom_61 : decode cX2_copyFrom 61 = .ok (.iload_n 3, 1) := by decide +kernel
theorem dX2_copyFrom_62 : decode cX2_copyFrom 62 = .ok (.iaload, 1) := by decide +kernel
theorem dX2_copyFrom_63 : decode cX2_copyFrom 63 = .ok (.iastore, 1) := by decide +kernel
theorem dX2_copyFrom_64 : decode cX2_copyFrom 64 = .ok (.aload_n 0, 1) := by decide +kernel
theorem dX2_copyFrom_65 : decode cX2_copyFrom 65 = .ok (.getfield 22, 3) := by decide +kernel
theorem dX2_copyFrom_68 : decode cX2_copyFrom 68 = .ok (.iload_n 3, 1) := by decide +kernel
theorem dX2_copyFrom_69 : decode cX2_copyFrom 69 = .ok (.aload_n 1, 1) := by decide +kernel
theorem dX2_copyFrom_70 : decode cX2_copyFrom 70 = .ok (.getfield 22, 3) := by decide +kernel
theorem dX2_copyFrom_73 : decode cX2_copyFrom 73 = .ok (.iload_n 3, 1) := by decide +kernel
theorem dX2_copyFrom_74 : decode cX2_copyFrom 74 = .ok (.iaload, 1) := by decide +kernel
theorem dX2_copyFrom_75 : decode cX2_copyFrom 75 = .ok (.iastore, 1) := by decide +kernel
theorem dX2_copyFrom_76 : decode cX2_copyFrom 76 = .ok (.aload_n 0, 1) := by decide +kernel
theorem dX2_copyFrom_77 : decode cX2_copyFrom 77 = .ok (.getfield 25, 3) := by decide +kernel
theorem dX2_copyFrom_80 : decode cX2_copyFrom 80 = .ok (.iload_n 3, 1) := by decide +kernel
theorem dX2_copyFrom_81 : decode cX2_copyFrom 81 = .ok (.aload_n 1, 1) := by decide +kernel
theorem dX2_copyFrom_82 : decode cX2_copyFrom 82 = .ok (.getfield 25, 3) := by decide +kernel
theorem dX2_copyFrom_85 : decode cX2_copyFrom 85 = .ok (.iload_n 3, 1) := by decide +kernel
theorem dX2_copyFrom_86 : decode cX2_copyFrom 86 = .ok (.iaload, 1) := by decide +kernel
theorem dX2_copyFrom_87 : decode cX2_copyFrom 87 = .ok (.iastore, 1) := by decide +kernel
theorem dX2_copyFrom_88 : decode cX2_copyFrom 88 = .ok (.aload_n 0, 1) := by decide +kernel
theorem dX2_copyFrom_89 : decode cX2_copyFrom 89 = .ok (.getfield 28, 3) := by decide +kernel
theorem dX2_copyFrom_92 : decode cX2_copyFrom 92 = .ok (.iload_n 3, 1) := by decide +kernel
theorem dX2_copyFrom_93 : decode cX2_copyFrom 93 = .ok (.aload_n 1, 1) := by decide +kernel
theorem dX2_copyFrom_94 : decode cX2_copyFrom 94 = .ok (.getfield 28, 3) := by decide +kernel
theorem dX2_copyFrom_97 : decode cX2_copyFrom 97 = .ok (.iload_n 3, 1) := by decide +kernel
theorem dX2_copyFrom_98 : decode cX2_copyFrom 98 = .ok (.iaload, 1) := by decide +kernel
theorem dX2_copyFrom_99 : decode cX2_copyFrom 99 = .ok (.iastore, 1) := by decide +kernel
theorem dX2_copyFrom_100 : decode cX2_copyFrom 100 = .ok (.aload_n 0, 1) := by decide +kernel
theorem dX2_copyFrom_101 : decode cX2_copyFrom 101 = .ok (.getfield 31, 3) := by decide +kernel
theorem dX2_copyFrom_104 : decode cX2_copyFrom 104 = .ok (.iload_n 3, 1) := by decide +kernel
theorem dX2_copyFrom_105 : decode cX2_copyFrom 105 = .ok (.aload_n 1, 1) := by decide +kernel
theorem dX2_copyFrom_106 : decode cX2_copyFrom 106 = .ok (.getfield 31, 3) := by decide +kernel
theorem dX2_copyFrom_109 : decode cX2_copyFrom 109 = .ok (.iload_n 3, 1) := by decide +kernel
theorem dX2_copyFrom_110 : decode cX2_copyFrom 110 = .ok (.iaload, 1) := by decide +kernel
theorem dX2_copyFrom_111 : decode cX2_copyFrom 111 = .ok (.iastore, 1) := by decide +kernel
theorem dX2_copyFrom_112 : decode cX2_copyFrom 112 = .ok (.aload_n 0, 1) := by decide +kernel
theorem dX2_copyFrom_113 : decode cX2_copyFrom 113 = .ok (.getfield 34, 3) := by decide +kernel
theorem dX2_copyFrom_116 : decode cX2_copyFrom 116 = .ok (.iload_n 3, 1) := by decide +kernel
theorem dX2_copyFrom_117 : decode cX2_copyFrom 117 = .ok (.aload_n 1, 1) := by decide +kernel
theorem dX2_copyFrom_118 : decode cX2_copyFrom 118 = .ok (.getfield 34, 3) := by decide +kernel
theorem dX2_copyFrom_121 : decode cX2_copyFrom 121 = .ok (.iload_n 3, 1) := by decide +kernel
theorem dX2_copyFrom_122 : decode cX2_copyFrom 122 = .ok (.baload, 1) := by decide +kernel
theorem dX2_copyFrom_123 : decode cX2_copyFrom 123 = .ok (.bastore, 1) := by decide +kernel
theorem dX2_copyFrom_124 : decode cX2_copyFrom 124 = .ok (.aload_n 0, 1) := by decide +kernel
theorem dX2_copyFrom_125 : decode cX2_copyFrom 125 = .ok (.getfield 38, 3) := by decide +kernel
theorem dX2_copyFrom_128 : decode cX2_copyFrom 128 = .ok (.iload_n 3, 1) := by decide +kernel
theorem dX2_copyFrom_129 : decode cX2_copyFrom 129 = .ok (.aload_n 1, 1) := by decide +kernel
theorem dX2_copyFrom_130 : decode cX2_copyFrom 130 = .ok (.getfield 38, 3) := by decide +kernel
theorem dX2_copyFrom_133 : decode cX2_copyFrom 133 = .ok (.iload_n 3, 1) := by decide +kernel
theorem dX2_copyFrom_134 : decode cX2_copyFrom 134 = .ok (.baload, 1) := by decide +kernel
theorem dX2_copyFrom_135 : decode cX2_copyFrom 135 = .ok (.bastore, 1) := by decide +kernel
theorem dX2_copyFrom_136 : decode cX2_copyFrom 136 = .ok (.iinc 3 1, 3) := by decide +kernel
theorem dX2_copyFrom_139 : decode cX2_copyFrom 139 = .ok (.goto (-104), 3) := by decide +kernel
theorem dX2_copyFrom_142 : decode cX2_copyFrom 142 = .ok (.return_, 1) := by decide +kernel
set_option maxRecDepth 100000 in
theorem ok_X2_copyFrom {G : GX} (hAp : Ap G) : ∀ d, ∀ e ∈ tb_X2_copyFrom, Snd G mts yX2_copyFrom.cls cX2_copyFrom 4 (none) d none e.1 e.2 := by
  intro d
  unfold tb_X2_copyFrom
  refine fa_c (s_la_n dX2_copyFrom_0 rfl) ?_
  refine fa_c (gf_X2_10 w_81 dX2_copyFrom_1) ?_
  refine fa_c (s_la_n dX2_copyFrom_4 rfl) ?_
  refine fa_c (gf_X2_0 w_71 dX2_copyFrom_5) ?_
  refine fa_c (s_min dX2_copyFrom_8 w_605 w_606 w_54 w_607) ?_
  refine fa_c (s_st_n dX2_copyFrom_11 rfl (by decide)) ?_
  refine fa_c (s_la_n dX2_copyFrom_12 rfl) ?_
  refine fa_c (s_li_n dX2_copyFrom_13 rfl) ?_
  refine fa_c (pf_X2_10 hAp w_81 dX2_copyFrom_14) ?_
  refine fa_c (s_la_n dX2_copyFrom_17 rfl) ?_
  refine fa_c (s_la_n dX2_copyFrom_18 rfl) ?_
  refine fa_c (gf_X2_11 w_82 dX2_copyFrom_19) ?_
  refine fa_c (pf_X2_11 hAp w_82 dX2_copyFrom_22) ?_
  refine fa_c (s_la_n dX2_copyFrom_25 rfl) ?_
  refine fa_c (s_la_n dX2_copyFrom_26 rfl) ?_
  refine fa_c (gf_X2_12 w_83 dX2_copyFrom_27) ?_
  refine fa_c (pf_X2_12 hAp w_83 dX2_copyFrom_30) ?_
  refine fa_c (s_iconst dX2_copyFrom_33 (by decide)) ?_
  refine fa_c (s_st_n dX2_copyFrom_34 rfl (by decide)) ?_
  refine fa_c (s_li_n dX2_copyFrom_35 rfl) ?_
  refine fa_c (s_li_n dX2_copyFrom_36 rfl) ?_
  refine fa_c (s_ic_ge dX2_copyFrom_37 (by decide)) ?_
  refine fa_c (s_la_n dX2_copyFrom_40 rfl) ?_
  refine fa_c (gf_X2_1 w_72 dX2_copyFrom_41) ?_
  refine fa_c (s_li_n dX2_copyFrom_44 rfl) ?_
  refine fa_c (s_la_n dX2_copyFrom_45 rfl) ?_
  refine fa_c (gf_X2_1 w_72 dX2_copyFrom_46) ?_
  refine fa_c (s_li_n dX2_copyFrom_49 rfl) ?_
  refine fa_c (s_ia dX2_copyFrom_50) ?_
  refine fa_c (s_is hAp dX2_copyFrom_51) ?_
  refine fa_c (s_la_n dX2_copyFrom_52 rfl) ?_
  refine fa_c (gf_X2_2 w_73 dX2_copyFrom_53) ?_
  refine fa_c (s_li_n dX2_copyFrom_56 rfl) ?_
  refine fa_c (s_la_n dX2_copyFrom_57 rfl) ?_
  refine fa_c (gf_X2_2 w_73 dX2_copyFrom_58) ?_
  refine fa_c (s_li_n dX2_copyFrom_61 rfl) ?_
  refine fa_c (s_ia dX2_copyFrom_62) ?_
  refine fa_c (s_is hAp dX2_copyFrom_63) ?_
  refine fa_c (s_la_n dX2_copyFrom_64 rfl) ?_
  refine fa_c (gf_X2_3 w_74 dX2_copyFrom_65) ?_
  refine fa_c (s_li_n dX2_copyFrom_68 rfl) ?_
  refine fa_c (s_la_n dX2_copyFrom_69 rfl) ?_
  refine fa_c (gf_X2_3 w_74 dX2_copyFrom_70) ?_
  refine fa_c (s_li_n dX2_copyFrom_73 rfl) ?_
  refine fa_c (s_ia dX2_copyFrom_74) ?_
  refine fa_c (s_is hAp dX2_copyFrom_75) ?_
  refine fa_c (s_la_n dX2_copyFrom_76 rfl) ?_
  refine fa_c (gf_X2_4 w_75 dX2_copyFrom_77) ?_
  refine fa_c (s_li_n dX2_copyFrom_80 rfl) ?_
  refine fa_c (s_la_n dX2_copyFrom_81 rfl) ?_
  refine fa_c (gf_X2_4 w_75 dX2_copyFrom_82) ?_
  refine fa_c (s_li_n dX2_copyFrom_85 rfl) ?_
  refine fa_c (s_ia dX2_copyFrom_86) ?_
  refine fa_c (s_is hAp dX2_copyFrom_87) ?_
  refine fa_c (s_la_n dX2_copyFrom_88 rfl) ?_
  refine fa_c (gf_X2_5 w_76 dX2_copyFrom_89) ?_
  refine fa_c (s_li_n dX2_copyFrom_92 rfl) ?_
  refine fa_c (s_la_n dX2_copyFrom_93 rfl) ?_
  refine fa_c (gf_X2_5 w_76 dX2_copyFrom_94) ?_
  refine fa_c (s_li_n dX2_copyFrom_97 rfl) ?_
  refine fa_c (s_ia dX2_copyFrom_98) ?_
  refine fa_c (s_is hAp dX2_copyFrom_99) ?_
  refine fa_c (s_la_n dX2_copyFrom_100 rfl) ?_
  refine fa_c (gf_X2_6 w_77 dX2_copyFrom_101) ?_
  refine fa_c (s_li_n dX2_copyFrom_104 rfl) ?_
  refine fa_c (s_la_n dX2_copyFrom_105 rfl) ?_
  refine fa_c (gf_X2_6 w_77 dX2_copyFrom_106) ?_
  refine fa_c (s_li_n dX2_copyFrom_109 rfl) ?_
  refine fa_c (s_ia dX2_copyFrom_110) ?_
  refine fa_c (s_is hAp dX2_copyFrom_111) ?_
  refine fa_c (s_la_n dX2_copyFrom_112 rfl) ?_
  refine fa_c (gf_X2_7 w_78 dX2_copyFrom_113) ?_
  refine fa_c (s_li_n dX2_copyFrom_116 rfl) ?_
  refine fa_c (s_la_n dX2_copyFrom_117 rfl) ?_
  refine fa_c (gf_X2_7 w_78 dX2_copyFrom_118) ?_
  refine fa_c (s_li_n dX2_copyFrom_121 rfl) ?_
  refine fa_c (s_ba dX2_copyFrom_122) ?_
  refine fa_c (s_bs hAp dX2_copyFrom_123) ?_
  refine fa_c (s_la_n dX2_copyFrom_124 rfl) ?_
  refine fa_c (gf_X2_8 w_79 dX2_copyFrom_125) ?_
  refine fa_c (s_li_n dX2_copyFrom_128 rfl) ?_
  refine fa_c (s_la_n dX2_copyFrom_129 rfl) ?_
  refine fa_c (gf_X2_8 w_79 dX2_copyFrom_130) ?_
  refine fa_c (s_li_n dX2_copyFrom_133 rfl) ?_
  refine fa_c (s_ba dX2_copyFrom_134) ?_
  refine fa_c (s_bs hAp dX2_copyFrom_135) ?_
  refine fa_c (s_inc dX2_copyFrom_136 (by decide) (by decide)) ?_
  refine fa_c (s_go dX2_copyFrom_139 (by decide)) ?_
  refine fa_c (s_rv dX2_copyFrom_142 rfl) ?_
  exact fun e he => absurd he List.not_mem_nil
theorem cl_X2_copyFrom {G : GX} (hAp : Ap G) : Cl1 (Ct G mts) n_X2_copyFrom tb_X2_copyFrom := ct_cl (y := n_X2_copyFrom) (yn := yX2_copyFrom) rfl (by decide +kernel) (ok_X2_copyFrom hAp)
theorem dX2_hasRoom_0 : decode cX2_hasRoom 0 = .ok (.aload_n 0, 1) := by decide +kernel
theorem dX2_hasRoom_1 : decode cX2_hasRoom 1 = .ok (.getfield 44, 3) := by decide +kernel
theorem dX2_hasRoom_4 : decode cX2_hasRoom 4 = .ok (.aload_n 0, 1) := by decide +kernel
theorem dX2_hasRoom_5 : decode cX2_hasRoom 5 = .ok (.getfield 9, 3) := by decide +kernel
theorem dX2_hasRoom_8 : decode cX2_hasRoom 8 = .ok (.if_icmp .ge 7, 3) := by decide +kernel
theorem dX2_hasRoom_11 : decode cX2_hasRoom 11 = .ok (.iconst 1, 1) := by decide +kernel
theorem dX2_hasRoom_12 : decode cX2_hasRoom 12 = .ok (.goto 4, 3) := by decide +kernel
theorem dX2_hasRoom_15 : decode cX2_hasRoom 15 = .ok (.iconst 0, 1) := by decide +kernel
theorem dX2_hasRoom_16 : decode cX2_hasRoom 16 = .ok (.ireturn, 1) := by decide +kernel
set_option maxRecDepth 100000 in
theorem ok_X2_hasRoom {G : GX} (hAp : Ap G) : ∀ d, ∀ e ∈ tb_X2_hasRoom, Snd G mts yX2_hasRoom.cls cX2_hasRoom 1 (some .boolean) d none e.1 e.2 := by
  intro d
  unfold tb_X2_hasRoom
  refine fa_c (s_la_n dX2_hasRoom_0 rfl) ?_
  refine fa_c (gf_X2_10 w_81 dX2_hasRoom_1) ?_
  refine fa_c (s_la_n dX2_hasRoom_4 rfl) ?_
  refine fa_c (gf_X2_0 w_71 dX2_hasRoom_5) ?_
  refine fa_c (s_ic_ge dX2_hasRoom_8 (by decide)) ?_
  refine fa_c (s_iconst dX2_hasRoom_11 (by decide)) ?_
  refine fa_c (s_go dX2_hasRoom_12 (by decide)) ?_
  refine fa_c (s_iconst dX2_hasRoom_15 (by decide)) ?_
  refine fa_c (s_rz dX2_hasRoom_16 rfl) ?_
  exact fun e he => absurd he List.not_mem_nil
theorem cl_X2_hasRoom {G : GX} (hAp : Ap G) : Cl1 (Ct G mts) n_X2_hasRoom tb_X2_hasRoom := ct_cl (y := n_X2_hasRoom) (yn := yX2_hasRoom) rfl (by decide +kernel) (ok_X2_hasRoom hAp)
theorem dX2_has_0 : decode cX2_has 0 = .ok (.iload_n 1, 1) := by decide +kernel
theorem dX2_has_1 : decode cX2_has 1 = .ok (.ifCond .lt 15, 3) := by decide +kernel
theorem dX2_has_4 : decode cX2_has 4 = .ok (.iload_n 1, 1) := by decide +kernel
theorem dX2_has_5 : decode cX2_has 5 = .ok (.aload_n 0, 1) := by decide +kernel
theorem dX2_has_6 : decode cX2_has 6 = .ok (.getfield 44, 3) := by decide +kernel
theorem dX2_has_9 : decode cX2_has 9 = .ok (.if_icmp .ge 7, 3) := by decide +kernel
theorem dX2_has_12 : decode cX2_has 12 = .ok (.iconst 1, 1) := by decide +kernel
theorem dX2_has_13 : decode cX2_has 13 = .ok (.goto 4, 3) := by decide +kernel
theorem dX2_has_16 : decode cX2_has 16 = .ok (.iconst 0, 1) := by decide +kernel
theorem dX2_has_17 : decode cX2_has 17 = .ok (.ireturn, 1) := by decide +kernel
set_option maxRecDepth 100000 in
theorem ok_X2_has {G : GX} (hAp : Ap G) : ∀ d, ∀ e ∈ tb_X2_has, Snd G mts yX2_has.cls cX2_has 2 (some .boolean) d none e.1 e.2 := by
  intro d
  unfold tb_X2_has
  refine fa_c (s_li_n dX2_has_0 rfl) ?_
  refine fa_c (s_if_lt dX2_has_1 (by decide)) ?_
  refine fa_c (s_li_n dX2_has_4 rfl) ?_
  refine fa_c (s_la_n dX2_has_5 rfl) ?_
  refine fa_c (gf_X2_10 w_81 dX2_has_6) ?_
  refine fa_c (s_ic_ge dX2_has_9 (by decide)) ?_
  refine fa_c (s_iconst dX2_has_12 (by decide)) ?_
  refine fa_c (s_go dX2_has_13 (by decide)) ?_
  refine fa_c (s_iconst dX2_has_16 (by decide)) ?_
  refine fa_c (s_rz dX2_has_17 rfl) ?_
  exact fun e he => absurd he List.not_mem_nil
theorem cl_X2_has {G : GX} (hAp : Ap G) : Cl1 (Ct G mts) n_X2_has tb_X2_has := ct_cl (y := n_X2_has) (yn := yX2_has) rfl (by decide +kernel) (ok_X2_has hAp)
theorem dX2_add_0 : decode cX2_add 0 = .ok (.aload_n 0, 1) := by decide +kernel
theorem dX2_add_1 : decode cX2_add 1 = .ok (.invokevirtual 59, 3) := by decide +kernel
theorem dX2_add_4 : decode cX2_add 4 = .ok (.ifCond .ne 6, 3) := by decide +kernel
theorem dX2_add_7 : decode cX2_add 7 = .ok (.ldc 63, 2) := by decide +kernel
theorem dX2_add_9 : decode cX2_add 9 = .ok (.ireturn, 1) := by decide +kernel
theorem dX2_add_10 : decode cX2_add 10 = .ok (.aload_n 0, 1) := by decide +kernel
theorem dX2_add_11 : decode cX2_add 11 = .ok (.getfield 44, 3) := by decide +kernel
theorem dX2_add_14 : decode cX2_add 14 = .ok (.istore_n 3, 1) := by decide +kernel
theorem dX2_add_15 : decode cX2_add 15 = .ok (.aload_n 0, 1) := by decide +kernel
theorem dX2_add_16 : decode cX2_add 16 = .ok (.dup, 1) := by decide +kernel
theorem dX2_add_17 : decode cX2_add 17 = .ok (.getfield 44, 3) := by decide +kernel
theorem dX2_add_20 : decode cX2_add 20 = .ok (.iconst 1, 1) := by decide +kernel
theorem dX2_add_21 : decode cX2_add 21 = .ok (.iadd, 1) := by decide +kernel
theorem dX2_add_22 : decode cX2_add 22 = .ok (.putfield 44, 3) := by decide +kernel
theorem dX2_add_25 : decode cX2_add 25 = .ok (.aload_n 0, 1) := by decide +kernel
theorem dX2_add_26 : decode cX2_add 26 = .ok (.getfield 15, 3) := by decide +kernel
theorem dX2_add_29 : decode cX2_add 29 = .ok (.iload_n 3, 1) := by decide +kernel
theorem dX2_add_30 : decode cX2_add 30 = .ok (.iload_n 1, 1) := by decide +kernel
theorem dX2_add_31 : decode cX2_add 31 = .ok (.iastore, 1) := by decide +kernel
theorem dX2_add_32 : decode cX2_add 32 = .ok (.aload_n 0, 1) := by decide +kernel
theorem dX2_add_33 : decode cX2_add 33 = .ok (.getfield 19, 3) := by decide +kernel
theorem dX2_add_36 : decode cX2_add 36 = .ok (.iload_n 3, 1) := by decide +kernel
theorem dX2_add_37 : decode cX2_add 37 = .ok (.iload_n 2, 1) := by decide +kernel
theorem dX2_add_38 : decode cX2_add 38 = .ok (.iastore, 1) := by decide +kernel
theorem dX2_add_39 : decode cX2_add 39 = .ok (.aload_n 0, 1) := by decide +kernel
theorem dX2_add_40 : decode cX2_add 40 = .ok (.getfield 22, 3) := by decide +kernel
theorem dX2_add_43 : decode cX2_add 43 = .ok (.iload_n 3, 1) := by decide +kernel
theorem dX2_add_44 : decode cX2_add 44 = .ok (.iconst (-1), 1) := by decide +kernel
theorem dX2_add_45 : decode cX2_add 45 = .ok (.iastore, 1) := by decide +kernel
theorem dX2_add_46 : decode cX2_add 46 = .ok (.aload_n 0, 1) := by decide +kernel
theorem dX2_add_47 : decode cX2_add 47 = .ok (.getfield 25, 3) := by decide +kernel
theorem dX2_add_50 : decode cX2_add 50 = .ok (.iload_n 3, 1) := by decide +kernel
theorem dX2_add_51 : decode cX2_add 51 = .ok (.iconst 0, 1) := by decide +kernel
theorem dX2_add_52 : decode cX2_add 52 = .ok (.iastore, 1) := by decide +kernel
theorem dX2_add_53 : decode cX2_add 53 = .ok (.aload_n 0, 1) := by decide +kernel
theorem dX2_add_54 : decode cX2_add 54 = .ok (.getfield 28, 3) := by decide +kernel
theorem dX2_add_57 : decode cX2_add 57 = .ok (.iload_n 3, 1) := by decide +kernel
theorem dX2_add_58 : decode cX2_add 58 = .ok (.iconst (-1), 1) := by decide +kernel
theorem dX2_add_59 : decode cX2_add 59 = .ok (.iastore, 1) := by decide +kernel
theorem dX2_add_60 : decode cX2_add 60 = .ok (.aload_n 0, 1) := by decide +kernel
theorem dX2_add_61 : decode cX2_add 61 = .ok (.getfield 34, 3) := by decide +kernel
theorem dX2_add_64 : decode cX2_add 64 = .ok (.iload_n 3, 1) := by decide +kernel
theorem dX2_add_65 : decode cX2_add 65 = .ok (.iconst 1, 1) := by decide +kernel
theorem dX2_add_66 : decode cX2_add 66 = .ok (.bastore, 1) := by decide +kernel
theorem dX2_add_67 : decode cX2_add 67 = .ok (.aload_n 0, 1) := by decide +kernel
theorem dX2_add_68 : decode cX2_add 68 = .ok (.getfield 38, 3) := by decide +kernel
theorem dX2_add_71 : decode cX2_add 71 = .ok (.iload_n 3, 1) := by decide +kernel
theorem dX2_add_72 : decode cX2_add 72 = .ok (.iconst 0, 1) := by decide +kernel
theorem dX2_add_73 : decode cX2_add 73 = .ok (.bastore, 1) := by decide +kernel
theorem dX2_add_74 : decode cX2_add 74 = .ok (.iload_n 3, 1) := by decide +kernel
theorem dX2_add_75 : decode cX2_add 75 = .ok (.ireturn, 1) := by decide +kernel
set_option maxRecDepth 100000 in
theorem ok_X2_add {G : GX} (hAp : Ap G) : ∀ d, ∀ e ∈ tb_X2_add, Snd G mts yX2_add.cls cX2_add 4 (some .int) d none e.1 e.2 := by
  intro d
  unfold tb_X2_add
  refine fa_c (s_la_n dX2_add_0 rfl) ?_
  refine fa_c (s_cv mo_X2_hasRoom co_X2 (by decide) (fun _ _ => ⟨_, rfl⟩) dX2_add_1 w_232 w_224 w_225 (by decide)) ?_
  refine fa_c (s_if_ne dX2_add_4 (by decide)) ?_
  refine fa_c (s_ldc dX2_add_7 w_233) ?_
  refine fa_c (s_ri dX2_add_9 rfl) ?_
  refine fa_c (s_la_n dX2_add_10 rfl) ?_
  refine fa_c (gf_X2_10 w_81 dX2_add_11) ?_
  refine fa_c (s_st_n dX2_add_14 rfl (by decide)) ?_
  refine fa_c (s_la_n dX2_add_15 rfl) ?_
  refine fa_c (s_i_dup dX2_add_16) ?_
  refine fa_c (gf_X2_10 w_81 dX2_add_17) ?_
  refine fa_c (s_iconst dX2_add_20 (by decide)) ?_
  refine fa_c (s_i_add dX2_add_21) ?_
  refine fa_c (pf_X2_10 hAp w_81 dX2_add_22) ?_
  refine fa_c (s_la_n dX2_add_25 rfl) ?_
  refine fa_c (gf_X2_1 w_72 dX2_add_26) ?_
  refine fa_c (s_li_n dX2_add_29 rfl) ?_
  refine fa_c (s_li_n dX2_add_30 rfl) ?_
  refine fa_c (s_is hAp dX2_add_31) ?_
  refine fa_c (s_la_n dX2_add_32 rfl) ?_
  refine fa_c (gf_X2_2 w_73 dX2_add_33) ?_
  refine fa_c (s_li_n dX2_add_36 rfl) ?_
  refine fa_c (s_li_n dX2_add_37 rfl) ?_
  refine fa_c (s_is hAp dX2_add_38) ?_
  refine fa_c (s_la_n dX2_add_39 rfl) ?_
  refine fa_c (gf_X2_3 w_74 dX2_add_40) ?_
  refine fa_c (s_li_n dX2_add_43 rfl) ?_
  refine fa_c (s_iconst dX2_add_44 (by decide)) ?_
  refine fa_c (s_is hAp dX2_add_45) ?_
  refine fa_c (s_la_n dX2_add_46 rfl) ?_
  refine fa_c (gf_X2_4 w_75 dX2_add_47) ?_
  refine fa_c (s_li_n dX2_add_50 rfl) ?_
  refine fa_c (s_iconst dX2_add_51 (by decide)) ?_
  refine fa_c (s_is hAp dX2_add_52) ?_
  refine fa_c (s_la_n dX2_add_53 rfl) ?_
  refine fa_c (gf_X2_5 w_76 dX2_add_54) ?_
  refine fa_c (s_li_n dX2_add_57 rfl) ?_
  refine fa_c (s_iconst dX2_add_58 (by decide)) ?_
  refine fa_c (s_is hAp dX2_add_59) ?_
  refine fa_c (s_la_n dX2_add_60 rfl) ?_
  refine fa_c (gf_X2_7 w_78 dX2_add_61) ?_
  refine fa_c (s_li_n dX2_add_64 rfl) ?_
  refine fa_c (s_iconst dX2_add_65 (by decide)) ?_
  refine fa_c (s_bs hAp dX2_add_66) ?_
  refine fa_c (s_la_n dX2_add_67 rfl) ?_
  refine fa_c (gf_X2_8 w_79 dX2_add_68) ?_
  refine fa_c (s_li_n dX2_add_71 rfl) ?_
  refine fa_c (s_iconst dX2_add_72 (by decide)) ?_
  refine fa_c (s_bs hAp dX2_add_73) ?_
  refine fa_c (s_li_n dX2_add_74 rfl) ?_
  refine fa_c (s_ri dX2_add_75 rfl) ?_
  exact fun e he => absurd he List.not_mem_nil
theorem cl_X2_add {G : GX} (hAp : Ap G) : Cl1 (Ct G mts) n_X2_add tb_X2_add := ct_cl (y := n_X2_add) (yn := yX2_add) rfl (by decide +kernel) (ok_X2_add hAp)
theorem dX2_lowerTo_0 : decode cX2_lowerTo 0 = .ok (.aload_n 0, 1) := by decide +kernel
theorem dX2_lowerTo_1 : decode cX2_lowerTo 1 = .ok (.getfield 19, 3) := by decide +kernel
theorem dX2_lowerTo_4 : decode cX2_lowerTo 4 = .ok (.iload_n 1, 1) := by decide +kernel
theorem dX2_lowerTo_5 : decode cX2_lowerTo 5 = .ok (.iload_n 2, 1) := by decide +kernel
theorem dX2_lowerTo_6 : decode cX2_lowerTo 6 = .ok (.iastore, 1) := by decide +kernel
theorem dX2_lowerTo_7 : decode cX2_lowerTo 7 = .ok (.aload_n 0, 1) := by decide +kernel
theorem dX2_lowerTo_8 : decode cX2_lowerTo 8 = .ok (.getfield 22, 3) := by decide +kernel
theorem dX2_lowerTo_11 : decode cX2_lowerTo 11 = .ok (.iload_n 1, 1) := by decide +kernel
theorem dX2_lowerTo_12 : decode cX2_lowerTo 12 = .ok (.iaload, 1) := by decide +kernel
theorem dX2_lowerTo_13 : decode cX2_lowerTo 13 = .ok (.iconst (-1), 1) := by decide +kernel
theorem dX2_lowerTo_14 : decode cX2_lowerTo 14 = .ok (.if_icmp .eq 28, 3) := by decide +kernel
theorem dX2_lowerTo_17 : decode cX2_lowerTo 17 = .ok (.aload_n 0, 1) := by decide +kernel
theorem dX2_lowerTo_18 : decode cX2_lowerTo 18 = .ok (.iload_n 1, 1) := by decide +kernel
theorem dX2_lowerTo_19 : decode cX2_lowerTo 19 = .ok (.aload_n 0, 1) := by decide +kernel
theorem dX2_lowerTo_20 : decode cX2_lowerTo 20 = .ok (.getfield 22, 3) := by decide +kernel
theorem dX2_lowerTo_23 : decode cX2_lowerTo 23 = .ok (.iload_n 1, 1) := by decide +kernel
theorem dX2_lowerTo_24 : decode cX2_lowerTo 24 = .ok (.iaload, 1) := by decide +kernel
theorem dX2_lowerTo_25 : decode cX2_lowerTo 25 = .ok (.invokevirtual 64, 3) := by decide +kernel
theorem dX2_lowerTo_28 : decode cX2_lowerTo 28 = .ok (.ifCond .eq 14, 3) := by decide +kernel
theorem dX2_lowerTo_31 : decode cX2_lowerTo 31 = .ok (.aload_n 0, 1) := by decide +kernel
theorem dX2_lowerTo_32 : decode cX2_lowerTo 32 = .ok (.getfield 38, 3) := by decide +kernel
theorem dX2_lowerTo_35 : decode cX2_lowerTo 35 = .ok (.iload_n 1, 1) := by decide +kernel
theorem dX2_lowerTo_36 : decode cX2_lowerTo 36 = .ok (.iconst 1, 1) := by decide +kernel
theorem dX2_lowerTo_37 : decode cX2_lowerTo 37 = .ok (.bastore, 1) := by decide +kernel
theorem dX2_lowerTo_38 : decode cX2_lowerTo 38 = .ok (.aload_n 0, 1) := by decide +kernel
theorem dX2_lowerTo_39 : decode cX2_lowerTo 39 = .ok (.invokevirtual 68, 3) := by decide +kernel
theorem dX2_lowerTo_42 : decode cX2_lowerTo 42 = .ok (.return_, 1) := by decide +kernel
set_option maxRecDepth 100000 in
theorem ok_X2_lowerTo {G : GX} (hAp : Ap G) : ∀ d, ∀ e ∈ tb_X2_lowerTo, Snd G mts yX2_lowerTo.cls cX2_lowerTo 3 (none) d none e.1 e.2 := by
  intro d
  unfold tb_X2_lowerTo
  refine fa_c (s_la_n dX2_lowerTo_0 rfl) ?_
  refine fa_c (gf_X2_2 w_73 dX2_lowerTo_1) ?_
  refine fa_c (s_li_n dX2_lowerTo_4 rfl) ?_
  refine fa_c (s_li_n dX2_lowerTo_5 rfl) ?_
  refine fa_c (s_is hAp dX2_lowerTo_6) ?_
  refine fa_c (s_la_n dX2_lowerTo_7 rfl) ?_
  refine fa_c (gf_X2_3 w_74 dX2_lowerTo_8) ?_
  refine fa_c (s_li_n dX2_lowerTo_11 rfl) ?_
  refine fa_c (s_ia dX2_lowerTo_12) ?_
  refine fa_c (s_iconst dX2_lowerTo_13 (by decide)) ?_
  refine fa_c (s_ic_eq dX2_lowerTo_14 (by decide)) ?_
  refine fa_c (s_la_n dX2_lowerTo_17 rfl) ?_
  refine fa_c (s_li_n dX2_lowerTo_18 rfl) ?_
  refine fa_c (s_la_n dX2_lowerTo_19 rfl) ?_
  refine fa_c (gf_X2_3 w_74 dX2_lowerTo_20) ?_
  refine fa_c (s_li_n dX2_lowerTo_23 rfl) ?_
  refine fa_c (s_ia dX2_lowerTo_24) ?_
  refine fa_c (s_cv mo_X2_isSooner co_X2 (by decide) (fun _ _ => ⟨_, rfl⟩) dX2_lowerTo_25 w_256 w_258 w_0 (by decide)) ?_
  refine fa_c (s_if_eq dX2_lowerTo_28 (by decide)) ?_
  refine fa_c (s_la_n dX2_lowerTo_31 rfl) ?_
  refine fa_c (gf_X2_8 w_79 dX2_lowerTo_32) ?_
  refine fa_c (s_li_n dX2_lowerTo_35 rfl) ?_
  refine fa_c (s_iconst dX2_lowerTo_36 (by decide)) ?_
  refine fa_c (s_bs hAp dX2_lowerTo_37) ?_
  refine fa_c (s_la_n dX2_lowerTo_38 rfl) ?_
  refine fa_c (s_cv mo_X2_settleAll co_X2 (by decide) (fun _ _ => ⟨_, rfl⟩) dX2_lowerTo_39 w_260 w_262 w_1 (by decide)) ?_
  refine fa_c (s_rv dX2_lowerTo_42 rfl) ?_
  exact fun e he => absurd he List.not_mem_nil
theorem cl_X2_lowerTo {G : GX} (hAp : Ap G) : Cl1 (Ct G mts) n_X2_lowerTo tb_X2_lowerTo := ct_cl (y := n_X2_lowerTo) (yn := yX2_lowerTo) rfl (by decide +kernel) (ok_X2_lowerTo hAp)
theorem dX2_takeOut_0 : decode cX2_takeOut 0 = .ok (.aload_n 0, 1) := by decide +kernel
theorem dX2_takeOut_1 : decode cX2_takeOut 1 = .ok (.getfield 22, 3) := by decide +kernel
theorem dX2_takeOut_4 : decode cX2_takeOut 4 = .ok (.iload_n 1, 1) := by decide +kernel
theorem dX2_takeOut_5 : decode cX2_takeOut 5 = .ok (.iaload, 1) := by decide +kernel
theorem dX2_takeOut_6 : decode cX2_takeOut 6 = .ok (.iconst (-1), 1) := by decide +kernel
theorem dX2_takeOut_7 : decode cX2_takeOut 7 = .ok (.if_icmp .eq 8, 3) := by decide +kernel
theorem dX2_takeOut_10 : decode cX2_takeOut 10 = .ok (.aload_n 0, 1) := by decide +kernel
theorem dX2_takeOut_11 : decode cX2_takeOut 11 = .ok (.iload_n 1, 1) := by decide +kernel
theorem dX2_takeOut_12 : decode cX2_takeOut 12 = .ok (.invokevirtual 71, 3) := by decide +kernel
theorem dX2_takeOut_15 : decode cX2_takeOut 15 = .ok (.aload_n 0, 1) := by decide +kernel
theorem dX2_takeOut_16 : decode cX2_takeOut 16 = .ok (.iload_n 1, 1) := by decide +kernel
theorem dX2_takeOut_17 : decode cX2_takeOut 17 = .ok (.invokevirtual 75, 3) := by decide +kernel
theorem dX2_takeOut_20 : decode cX2_takeOut 20 = .ok (.aload_n 0, 1) := by decide +kernel
theorem dX2_takeOut_21 : decode cX2_takeOut 21 = .ok (.getfield 34, 3) := by decide +kernel
theorem dX2_takeOut_24 : decode cX2_takeOut 24 = .ok (.iload_n 1, 1) := by decide +kernel
theorem dX2_takeOut_25 : decode cX2_takeOut 25 = .ok (.iconst 0, 1) := by decide +kernel
theorem dX2_takeOut_26 : decode cX2_takeOut 26 = .ok (.bastore, 1) := by decide +kernel
theorem dX2_takeOut_27 : decode cX2_takeOut 27 = .ok (.aload_n 0, 1) := by decide +kernel
theorem dX2_takeOut_28 : decode cX2_takeOut 28 = .ok (.invokevirtual 68, 3) := by decide +kernel
theorem dX2_takeOut_31 : decode cX2_takeOut 31 = .ok (.aload_n 0, 1) := by decide +kernel
theorem dX2_takeOut_32 : decode cX2_takeOut 32 = .ok (.invokevirtual 78, 3) := by decide +kernel
theorem dX2_takeOut_35 : decode cX2_takeOut 35 = .ok (.pop, 1) := by decide +kernel
theorem dX2_takeOut_36 : decode cX2_takeOut 36 = .ok (.return_, 1) := by decide +kernel
set_option maxRecDepth 100000 in
theorem ok_X2_takeOut {G : GX} (hAp : Ap G) : ∀ d, ∀ e ∈ tb_X2_takeOut, Snd G mts yX2_takeOut.cls cX2_takeOut 2 (none) d none e.1 e.2 := by
  intro d
  unfold tb_X2_takeOut
  refine fa_c (s_la_n dX2_takeOut_0 rfl) ?_
  refine fa_c (gf_X2_3 w_74 dX2_takeOut_1) ?_
  refine fa_c (s_li_n dX2_takeOut_4 rfl) ?_
  refine fa_c (s_ia dX2_takeOut_5) ?_
  refine fa_c (s_iconst dX2_takeOut_6 (by decide)) ?_
  refine fa_c (s_ic_eq dX2_takeOut_7 (by decide)) ?_
  refine fa_c (s_la_n dX2_takeOut_10 rfl) ?_
  refine fa_c (s_li_n dX2_takeOut_11 rfl) ?_
  refine fa_c (s_cv mo_X2_cutOff co_X2 (by decide) (fun _ _ => ⟨_, rfl⟩) dX2_takeOut_12 w_273 w_275 w_4 (by decide)) ?_
  refine fa_c (s_la_n dX2_takeOut_15 rfl) ?_
  refine fa_c (s_li_n dX2_takeOut_16 rfl) ?_
  refine fa_c (s_cv mo_X2_freeChildren co_X2 (by decide) (fun _ _ => ⟨_, rfl⟩) dX2_takeOut_17 w_308 w_310 w_8 (by decide)) ?_
  refine fa_c (s_la_n dX2_takeOut_20 rfl) ?_
  refine fa_c (gf_X2_7 w_78 dX2_takeOut_21) ?_
  refine fa_c (s_li_n dX2_takeOut_24 rfl) ?_
  refine fa_c (s_iconst dX2_takeOut_25 (by decide)) ?_
  refine fa_c (s_bs hAp dX2_takeOut_26) ?_
  refine fa_c (s_la_n dX2_takeOut_27 rfl) ?_
  refine fa_c (s_cv mo_X2_settleAll co_X2 (by decide) (fun _ _ => ⟨_, rfl⟩) dX2_takeOut_28 w_260 w_262 w_1 (by decide)) ?_
  refine fa_c (s_la_n dX2_takeOut_31 rfl) ?_
  refine fa_c (s_cv mo_X2_joinAll co_X2 (by decide) (fun _ _ => ⟨_, rfl⟩) dX2_takeOut_32 w_312 w_313 w_314 (by decide)) ?_
  refine fa_c (s_i_pop dX2_takeOut_35) ?_
  refine fa_c (s_rv dX2_takeOut_36 rfl) ?_
  exact fun e he => absurd he List.not_mem_nil
theorem cl_X2_takeOut {G : GX} (hAp : Ap G) : Cl1 (Ct G mts) n_X2_takeOut tb_X2_takeOut := ct_cl (y := n_X2_takeOut) (yn := yX2_takeOut) rfl (by decide +kernel) (ok_X2_takeOut hAp)
theorem dX2_joinAll_0 : decode cX2_joinAll 0 = .ok (.aload_n 0, 1) := by decide +kernel
theorem dX2_joinAll_1 : decode cX2_joinAll 1 = .ok (.getfield 47, 3) := by decide +kernel
theorem dX2_joinAll_4 : decode cX2_joinAll 4 = .ok (.istore_n 1, 1) := by decide +kernel
theorem dX2_joinAll_5 : decode cX2_joinAll 5 = .ok (.iconst 0, 1) := by decide +kernel
theorem dX2_joinAll_6 : decode cX2_joinAll 6 = .ok (.istore_n 2, 1) := by decide +kernel
theorem dX2_joinAll_7 : decode cX2_joinAll 7 = .ok (.iload_n 2, 1) := by decide +kernel
theorem dX2_joinAll_8 : decode cX2_joinAll 8 = .ok (.aload_n 0, 1) := by decide +kernel
theorem dX2_joinAll_9 : decode cX2_joinAll 9 = .ok (.getfield 9, 3) := by decide +kernel
theorem dX2_joinAll_12 : decode cX2_joinAll 12 = .ok (.if_icmp .ge 29, 3) := by decide +kernel
theorem dX2_joinAll_15 : decode cX2_joinAll 15 = .ok (.aload_n 0, 1) := by decide +kernel
theorem dX2_joinAll_16 : decode cX2_joinAll 16 = .ok (.iconst 0, 1) := by decide +kernel
theorem dX2_joinAll_17 : decode cX2_joinAll 17 = .ok (.invokevirtual 82, 3) := by decide +kernel
theorem dX2_joinAll_20 : decode cX2_joinAll 20 = .ok (.ifCond .eq 21, 3) := by decide +kernel
theorem dX2_joinAll_23 : decode cX2_joinAll 23 = .ok (.aload_n 0, 1) := by decide +kernel
theorem dX2_joinAll_24 : decode cX2_joinAll 24 = .ok (.aload_n 0, 1) := by decide +kernel
theorem dX2_joinAll_25 : decode cX2_joinAll 25 = .ok (.getfield 86, 3) := by decide +kernel
theorem dX2_joinAll_28 : decode cX2_joinAll 28 = .ok (.aload_n 0, 1) := by decide +kernel
theorem dX2_joinAll_29 : decode cX2_joinAll 29 = .ok (.getfield 89, 3) := by decide +kernel
theorem dX2_joinAll_32 : decode cX2_joinAll 32 = .ok (.invokevirtual 92, 3) := by decide +kernel
theorem dX2_joinAll_35 : decode cX2_joinAll 35 = .ok (.iinc 2 1, 3) := by decide +kernel
theorem dX2_joinAll_38 : decode cX2_joinAll 38 = .ok (.goto (-31), 3) := by decide +kernel
theorem dX2_joinAll_41 : decode cX2_joinAll 41 = .ok (.aload_n 0, 1) := by decide +kernel
theorem dX2_joinAll_42 : decode cX2_joinAll 42 = .ok (.getfield 47, 3) := by decide +kernel
theorem dX2_joinAll_45 : decode cX2_joinAll 45 = .ok (.iload_n 1, 1) := by decide +kernel
theorem dX2_joinAll_46 : decode cX2_joinAll 46 = .ok (.isub, 1) := by decide +kernel
theorem dX2_joinAll_47 : decode cX2_joinAll 47 = .ok (.ireturn, 1) := by decide +kernel
set_option maxRecDepth 100000 in
theorem ok_X2_joinAll {G : GX} (hAp : Ap G) : ∀ d, ∀ e ∈ tb_X2_joinAll, Snd G mts yX2_joinAll.cls cX2_joinAll 3 (some .int) d none e.1 e.2 := by
  intro d
  unfold tb_X2_joinAll
  refine fa_c (s_la_n dX2_joinAll_0 rfl) ?_
  refine fa_c (gf_X2_11 w_82 dX2_joinAll_1) ?_
  refine fa_c (s_st_n dX2_joinAll_4 rfl (by decide)) ?_
  refine fa_c (s_iconst dX2_joinAll_5 (by decide)) ?_
  refine fa_c (s_st_n dX2_joinAll_6 rfl (by decide)) ?_
  refine fa_c (s_li_n dX2_joinAll_7 rfl) ?_
  refine fa_c (s_la_n dX2_joinAll_8 rfl) ?_
  refine fa_c (gf_X2_0 w_71 dX2_joinAll_9) ?_
  refine fa_c (s_ic_ge dX2_joinAll_12 (by decide)) ?_
  refine fa_c (s_la_n dX2_joinAll_15 rfl) ?_
  refine fa_c (s_iconst dX2_joinAll_16 (by decide)) ?_
  refine fa_c (s_cv mo_X2_findPair co_X2 (by decide) (fun _ _ => ⟨_, rfl⟩) dX2_joinAll_17 w_264 w_266 w_2 (by decide)) ?_
  refine fa_c (s_if_eq dX2_joinAll_20 (by decide)) ?_
  refine fa_c (s_la_n dX2_joinAll_23 rfl) ?_
  refine fa_c (s_la_n dX2_joinAll_24 rfl) ?_
  refine fa_c (gf_X2_13 w_84 dX2_joinAll_25) ?_
  refine fa_c (s_la_n dX2_joinAll_28 rfl) ?_
  refine fa_c (gf_X2_14 w_85 dX2_joinAll_29) ?_
  refine fa_c (s_cv mo_X2_linkTwo co_X2 (by decide) (fun _ _ => ⟨_, rfl⟩) dX2_joinAll_32 w_285 w_287 w_7 (by decide)) ?_
  refine fa_c (s_inc dX2_joinAll_35 (by decide) (by decide)) ?_
  refine fa_c (s_go dX2_joinAll_38 (by decide)) ?_
  refine fa_c (s_la_n dX2_joinAll_41 rfl) ?_
  refine fa_c (gf_X2_11 w_82 dX2_joinAll_42) ?_
  refine fa_c (s_li_n dX2_joinAll_45 rfl) ?_
  refine fa_c (s_i_sub dX2_joinAll_46) ?_
  refine fa_c (s_ri dX2_joinAll_47 rfl) ?_
  exact fun e he => absurd he List.not_mem_nil
theorem cl_X2_joinAll {G : GX} (hAp : Ap G) : Cl1 (Ct G mts) n_X2_joinAll tb_X2_joinAll := ct_cl (y := n_X2_joinAll) (yn := yX2_joinAll) rfl (by decide +kernel) (ok_X2_joinAll hAp)
theorem dX2_settleAll_0 : decode cX2_settleAll 0 = .ok (.iconst 0, 1) := by decide +kernel
theorem dX2_settleAll_1 : decode cX2_settleAll 1 = .ok (.istore_n 1, 1) := by decide +kernel
theorem dX2_settleAll_2 : decode cX2_settleAll 2 = .ok (.iload_n 1, 1) := by decide +kernel
theorem dX2_settleAll_3 : decode cX2_settleAll 3 = .ok (.aload_n 0, 1) := by decide +kernel
theorem dX2_settleAll_4 : decode cX2_settleAll 4 = .ok (.getfield 9, 3) := by decide +kernel
theorem dX2_settleAll_7 : decode cX2_settleAll 7 = .ok (.if_icmp .ge 45, 3) := by decide +kernel
theorem dX2_settleAll_10 : decode cX2_settleAll 10 = .ok (.aload_n 0, 1) := by decide +kernel
theorem dX2_settleAll_11 : decode cX2_settleAll 11 = .ok (.iconst 1, 1) := by decide +kernel
theorem dX2_settleAll_12 : decode cX2_settleAll 12 = .ok (.invokevirtual 82, 3) := by decide +kernel
theorem dX2_settleAll_15 : decode cX2_settleAll 15 = .ok (.ifCond .eq 37, 3) := by decide +kernel
theorem dX2_settleAll_18 : decode cX2_settleAll 18 = .ok (.aload_n 0, 1) := by decide +kernel
theorem dX2_settleAll_19 : decode cX2_settleAll 19 = .ok (.aload_n 0, 1) := by decide +kernel
theorem dX2_settleAll_20 : decode cX2_settleAll 20 = .ok (.getfield 86, 3) := by decide +kernel
theorem dX2_settleAll_23 : decode cX2_settleAll 23 = .ok (.invokevirtual 71, 3) := by decide +kernel
theorem dX2_settleAll_26 : decode cX2_settleAll 26 = .ok (.aload_n 0, 1) := by decide +kernel
theorem dX2_settleAll_27 : decode cX2_settleAll 27 = .ok (.aload_n 0, 1) := by decide +kernel
theorem dX2_settleAll_28 : decode cX2_settleAll 28 = .ok (.getfield 89, 3) := by decide +kernel
theorem dX2_settleAll_31 : decode cX2_settleAll 31 = .ok (.invokevirtual 71, 3) := by decide +kernel
theorem dX2_settleAll_34 : decode cX2_settleAll 34 = .ok (.aload_n 0, 1) := by decide +kernel
theorem dX2_settleAll_35 : decode cX2_settleAll 35 = .ok (.aload_n 0, 1) := by decide +kernel
theorem dX2_settleAll_36 : decode cX2_settleAll 36 = .ok (.getfield 86, 3) := by decide +kernel
theorem dX2_settleAll_39 : decode cX2_settleAll 39 = .ok (.aload_n 0, 1) := by decide +kernel
theorem dX2_settleAll_40 : decode cX2_settleAll 40 = .ok (.getfield 89, 3) := by decide +kernel
theorem dX2_settleAll_43 : decode cX2_settleAll 43 = .ok (.invokevirtual 92, 3) := by decide +kernel
theorem dX2_settleAll_46 : decode cX2_settleAll 46 = .ok (.iinc 1 1, 3) := by decide +kernel
theorem dX2_settleAll_49 : decode cX2_settleAll 49 = .ok (.goto (-47), 3) := by decide +kernel
theorem dX2_settleAll_52 : decode cX2_settleAll 52 = .ok (.return_, 1) := by decide +kernel
set_option maxRecDepth 100000 in
theorem ok_X2_settleAll {G : GX} (hAp : Ap G) : ∀ d, ∀ e ∈ tb_X2_settleAll, Snd G mts yX2_settleAll.cls cX2_settleAll 2 (none) d none e.1 e.2 := by
  intro d
  unfold tb_X2_settleAll
  refine fa_c (s_iconst dX2_settleAll_0 (by decide)) ?_
  refine fa_c (s_st_n dX2_settleAll_1 rfl (by decide)) ?_
  refine fa_c (s_li_n dX2_settleAll_2 rfl) ?_
  refine fa_c (s_la_n dX2_settleAll_3 rfl) ?_
  refine fa_c (gf_X2_0 w_71 dX2_settleAll_4) ?_
  refine fa_c (s_ic_ge dX2_settleAll_7 (by decide)) ?_
  refine fa_c (s_la_n dX2_settleAll_10 rfl) ?_
  refine fa_c (s_iconst dX2_settleAll_11 (by decide)) ?_
  refine fa_c (s_cv mo_X2_findPair co_X2 (by decide) (fun _ _ => ⟨_, rfl⟩) dX2_settleAll_12 w_264 w_266 w_2 (by decide)) ?_
  refine fa_c (s_if_eq dX2_settleAll_15 (by decide)) ?_
  refine fa_c (s_la_n dX2_settleAll_18 rfl) ?_
  refine fa_c (s_la_n dX2_settleAll_19 rfl) ?_
  refine fa_c (gf_X2_13 w_84 dX2_settleAll_20) ?_
  refine fa_c (s_cv mo_X2_cutOff co_X2 (by decide) (fun _ _ => ⟨_, rfl⟩) dX2_settleAll_23 w_273 w_275 w_4 (by decide)) ?_
  refine fa_c (s_la_n dX2_settleAll_26 rfl) ?_
  refine fa_c (s_la_n dX2_settleAll_27 rfl) ?_
  refine fa_c (gf_X2_14 w_85 dX2_settleAll_28) ?_
  refine fa_c (s_cv mo_X2_cutOff co_X2 (by decide) (fun _ _ => ⟨_, rfl⟩) dX2_settleAll_31 w_273 w_275 w_4 (by decide)) ?_
  refine fa_c (s_la_n dX2_settleAll_34 rfl) ?_
  refine fa_c (s_la_n dX2_settleAll_35 rfl) ?_
  refine fa_c (gf_X2_13 w_84 dX2_settleAll_36) ?_
  refine fa_c (s_la_n dX2_settleAll_39 rfl) ?_
  refine fa_c (gf_X2_14 w_85 dX2_settleAll_40) ?_
  refine fa_c (s_cv mo_X2_linkTwo co_X2 (by decide) (fun _ _ => ⟨_, rfl⟩) dX2_settleAll_43 w_285 w_287 w_7 (by decide)) ?_
  refine fa_c (s_inc dX2_settleAll_46 (by decide) (by decide)) ?_
  refine fa_c (s_go dX2_settleAll_49 (by decide)) ?_
  refine fa_c (s_rv dX2_settleAll_52 rfl) ?_
  exact fun e he => absurd he List.not_mem_nil
theorem cl_X2_settleAll {G : GX} (hAp : Ap G) : Cl1 (Ct G mts) n_X2_settleAll tb_X2_settleAll := ct_cl (y := n_X2_settleAll) (yn := yX2_settleAll) rfl (by decide +kernel) (ok_X2_settleAll hAp)
theorem dX2_findPair_0 : decode cX2_findPair 0 = .ok (.aload_n 0, 1) := by decide +kernel
theorem dX2_findPair_1 : decode cX2_findPair 1 = .ok (.getfield 41, 3) := by decide +kernel
theorem dX2_findPair_4 : decode cX2_findPair 4 = .ok (.iconst (-1), 1) := by decide +kernel
theorem dX2_findPair_5 : decode cX2_findPair 5 = .ok (.invokestatic 96, 3) := by decide +kernel
theorem dX2_findPair_8 : decode cX2_findPair 8 = .ok (.aload_n 0, 1) := by decide +kernel
theorem dX2_findPair_9 : decode cX2_findPair 9 = .ok (.getfield 9, 3) := by decide +kernel
theorem dX2_findPair_12 : decode cX2_findPair 12 = .ok (.istore_n 2, 1) := by decide +kernel
theorem dX2_findPair_13 : decode cX2_findPair 13 = .ok (.iconst 0, 1) := by decide +kernel
theorem dX2_findPair_14 : decode cX2_findPair 14 = .ok (.istore_n 3, 1) := by decide +kernel
theorem dX2_findPair_15 : decode cX2_findPair 15 = .ok (.iload_n 3, 1) := by decide +kernel
theorem dX2_findPair_16 : decode cX2_findPair 16 = .ok (.aload_n 0, 1) := by decide +kernel
theorem dX2_findPair_17 : decode cX2_findPair 17 = .ok (.getfield 44, 3) := by decide +kernel
theorem dX2_findPair_20 : decode cX2_findPair 20 = .ok (.if_icmp .ge 88, 3) := by decide +kernel
theorem dX2_findPair_23 : decode cX2_findPair 23 = .ok (.iload_n 1, 1) := by decide +kernel
theorem dX2_findPair_24 : decode cX2_findPair 24 = .ok (.ifCond .eq 15, 3) := by decide +kernel
theorem dX2_findPair_27 : decode cX2_findPair 27 = .ok (.aload_n 0, 1) := by decide +kernel
theorem dX2_findPair_28 : decode cX2_findPair 28 = .ok (.getfield 38, 3) := by decide +kernel
theorem dX2_findPair_31 : decode cX2_findPair 31 = .ok (.iload_n 3, 1) := by decide +kernel
theorem dX2_findPair_32 : decode cX2_findPair 32 = .ok (.baload, 1) := by decide +kernel
theorem dX2_findPair_33 : decode cX2_findPair 33 = .ok (.ifCond .eq 69, 3) := by decide +kernel
theorem dX2_findPair_36 : decode cX2_findPair 36 = .ok (.goto 11, 3) := by decide +kernel
theorem dX2_findPair_39 : decode cX2_findPair 39 = .ok (.aload_n 0, 1) := by decide +kernel
theorem dX2_findPair_40 : decode cX2_findPair 40 = .ok (.iload_n 3, 1) := by decide +kernel
theorem dX2_findPair_41 : decode cX2_findPair 41 = .ok (.invokevirtual 102, 3) := by decide +kernel
theorem dX2_findPair_44 : decode cX2_findPair 44 = .ok (.ifCond .eq 58, 3) := by decide +kernel
theorem dX2_findPair_47 : decode cX2_findPair 47 = .ok (.aload_n 0, 1) := by decide +kernel
theorem dX2_findPair_48 : decode cX2_findPair 48 = .ok (.getfield 25, 3) := by decide +kernel
theorem dX2_findPair_51 : decode cX2_findPair 51 = .ok (.iload_n 3, 1) := by decide +kernel
theorem dX2_findPair_52 : decode cX2_findPair 52 = .ok (.iaload, 1) := by decide +kernel
theorem dX2_findPair_53 : decode cX2_findPair 53 = .ok (.istore 4, 2) := by decide +kernel
theorem dX2_findPair_55 : decode cX2_findPair 55 = .ok (.aload_n 0, 1) := by decide +kernel
theorem dX2_findPair_56 : decode cX2_findPair 56 = .ok (.getfield 41, 3) := by decide +kernel
theorem dX2_findPair_59 : decode cX2_findPair 59 = .ok (.iload 4, 2) := by decide +kernel
theorem dX2_findPair_61 : decode cX2_findPair 61 = .ok (.iaload, 1) := by decide +kernel
theorem dX2_findPair_62 : decode cX2_findPair 62 = .ok (.iconst (-1), 1) := by decide +kernel
theorem dX2_findPair_63 : decode cX2_findPair 63 = .ok (.if_icmp .ne 14, 3) := by decide +kernel
theorem dX2_findPair_66 : decode cX2_findPair 66 = .ok (.aload_n 0, 1) := by decide +kernel
theorem dX2_findPair_67 : decode cX2_findPair 67 = .ok (.getfield 41, 3) := by decide +kernel
theorem dX2_findPair_70 : decode cX2_findPair 70 = .ok (.iload 4, 2) := by decide +kernel
theorem dX2_findPair_72 : decode cX2_findPair 72 = .ok (.iload_n 3, 1) := by decide +kernel
theorem dX2_findPair_73 : decode cX2_findPair 73 = .ok (.iastore, 1) := by decide +kernel
theorem dX2_findPair_74 : decode cX2_findPair 74 = .ok (.goto 28, 3) := by decide +kernel
theorem dX2_findPair_77 : decode cX2_findPair 77 = .ok (.iload 4, 2) := by decide +kernel
theorem dX2_findPair_79 : decode cX2_findPair 79 = .ok (.iload_n 2, 1) := by decide +kernel
theorem dX2_findPair_80 : decode cX2_findPair 80 = .ok (.if_icmp .ge 22, 3) := by decide +kernel
theorem dX2_findPair_83 : decode cX2_findPair 83 = .ok (.iload 4, 2) := by decide +kernel
theorem dX2_findPair_85 : decode cX2_findPair 85 = .ok (.istore_n 2, 1) := by decide +kernel
theorem dX2_findPair_86 : decode cX2_findPair 86 = .ok (.aload_n 0, 1) := by decide +kernel
theorem dX2_findPair_87 : decode cX2_findPair 87 = .ok (.aload_n 0, 1) := by decide +kernel
theorem dX2_findPair_88 : decode cX2_findPair 88 = .ok (.getfield 41, 3) := by decide +kernel
theorem dX2_findPair_91 : decode cX2_findPair 91 = .ok (.iload 4, 2) := by decide +kernel
theorem dX2_findPair_93 : decode cX2_findPair 93 = .ok (.iaload, 1) := by decide +kernel
theorem dX2_findPair_94 : decode cX2_findPair 94 = .ok (.putfield 86, 3) := by decide +kernel
theorem dX2_findPair_97 : decode cX2_findPair 97 = .ok (.aload_n 0, 1) := by decide +kernel
theorem dX2_findPair_98 : decode cX2_findPair 98 = .ok (.iload_n 3, 1) := by decide +kernel
theorem dX2_findPair_99 : decode cX2_findPair 99 = .ok (.putfield 89, 3) := by decide +kernel
theorem dX2_findPair_102 : decode cX2_findPair 102 = .ok (.iinc 3 1, 3) := by decide +kernel
theorem dX2_findPair_105 : decode cX2_findPair 105 = .ok (.goto (-90), 3) := by decide +kernel
theorem dX2_findPair_108 : decode cX2_findPair 108 = .ok (.iload_n 2, 1) := by decide +kernel
theorem dX2_findPair_109 : decode cX2_findPair 109 = .ok (.aload_n 0, 1) := by decide +kernel
theorem dX2_findPair_110 : decode cX2_findPair 110 = .ok (.getfield 9, 3) := by decide +kernel
theorem dX2_findPair_113 : decode cX2_findPair 113 = .ok (.if_icmp .ge 7, 3) := by decide +kernel
theorem dX2_findPair_116 : decode cX2_findPair 116 = .ok (.iconst 1, 1) := by decide +kernel
theorem dX2_findPair_117 : decode cX2_findPair 117 = .ok (.goto 4, 3) := by decide +kernel
theorem dX2_findPair_120 : decode cX2_findPair 120 = .ok (.iconst 0, 1) := by decide +kernel
theorem dX2_findPair_121 : decode cX2_findPair 121 = .ok (.ireturn, 1) := by decide +kernel
set_option maxRecDepth 100000 in
theorem ok_X2_findPair {G : GX} (hAp : Ap G) : ∀ d, ∀ e ∈ tb_X2_findPair, Snd G mts yX2_findPair.cls cX2_findPair 5 (some .boolean) d none e.1 e.2 := by
  intro d
  unfold tb_X2_findPair
  refine fa_c (s_la_n dX2_findPair_0 rfl) ?_
  refine fa_c (gf_X2_9 w_80 dX2_findPair_1) ?_
  refine fa_c (s_iconst dX2_findPair_4 (by decide)) ?_
  refine fa_c (s_cs mo_J7_fill_53178 dX2_findPair_5 w_268 w_126 (by decide)) ?_
  refine fa_c (s_la_n dX2_findPair_8 rfl) ?_
  refine fa_c (gf_X2_0 w_71 dX2_findPair_9) ?_
  refine fa_c (s_st_n dX2_findPair_12 rfl (by decide)) ?_
  refine fa_c (s_iconst dX2_findPair_13 (by decide)) ?_
  refine fa_c (s_st_n dX2_findPair_14 rfl (by decide)) ?_
  refine fa_c (s_li_n dX2_findPair_15 rfl) ?_
  refine fa_c (s_la_n dX2_findPair_16 rfl) ?_
  refine fa_c (gf_X2_10 w_81 dX2_findPair_17) ?_
  refine fa_c (s_ic_ge dX2_findPair_20 (by decide)) ?_
  refine fa_c (s_li_n dX2_findPair_23 rfl) ?_
  refine fa_c (s_if_eq dX2_findPair_24 (by decide)) ?_
  refine fa_c (s_la_n dX2_findPair_27 rfl) ?_
  refine fa_c (gf_X2_8 w_79 dX2_findPair_28) ?_
  refine fa_c (s_li_n dX2_findPair_31 rfl) ?_
  refine fa_c (s_ba dX2_findPair_32) ?_
  refine fa_c (s_if_eq dX2_findPair_33 (by decide)) ?_
  refine fa_c (s_go dX2_findPair_36 (by decide)) ?_
  refine fa_c (s_la_n dX2_findPair_39 rfl) ?_
  refine fa_c (s_li_n dX2_findPair_40 rfl) ?_
  refine fa_c (s_cv mo_X2_isRoot co_X2 (by decide) (fun _ _ => ⟨_, rfl⟩) dX2_findPair_41 w_269 w_271 w_3 (by decide)) ?_
  refine fa_c (s_if_eq dX2_findPair_44 (by decide)) ?_
  refine fa_c (s_la_n dX2_findPair_47 rfl) ?_
  refine fa_c (gf_X2_4 w_75 dX2_findPair_48) ?_
  refine fa_c (s_li_n dX2_findPair_51 rfl) ?_
  refine fa_c (s_ia dX2_findPair_52) ?_
  refine fa_c (s_st dX2_findPair_53 (by decide)) ?_
  refine fa_c (s_la_n dX2_findPair_55 rfl) ?_
  refine fa_c (gf_X2_9 w_80 dX2_findPair_56) ?_
  refine fa_c (s_li dX2_findPair_59) ?_
  refine fa_c (s_ia dX2_findPair_61) ?_
  refine fa_c (s_iconst dX2_findPair_62 (by decide)) ?_
  refine fa_c (s_ic_ne dX2_findPair_63 (by decide)) ?_
  refine fa_c (s_la_n dX2_findPair_66 rfl) ?_
  refine fa_c (gf_X2_9 w_80 dX2_findPair_67) ?_
  refine fa_c (s_li dX2_findPair_70) ?_
  refine fa_c (s_li_n dX2_findPair_72 rfl) ?_
  refine fa_c (s_is hAp dX2_findPair_73) ?_
  refine fa_c (s_go dX2_findPair_74 (by decide)) ?_
  refine fa_c (s_li dX2_findPair_77) ?_
  refine fa_c (s_li_n dX2_findPair_79 rfl) ?_
  refine fa_c (s_ic_ge dX2_findPair_80 (by decide)) ?_
  refine fa_c (s_li dX2_findPair_83) ?_
  refine fa_c (s_st_n dX2_findPair_85 rfl (by decide)) ?_
  refine fa_c (s_la_n dX2_findPair_86 rfl) ?_
  refine fa_c (s_la_n dX2_findPair_87 rfl) ?_
  refine fa_c (gf_X2_9 w_80 dX2_findPair_88) ?_
  refine fa_c (s_li dX2_findPair_91) ?_
  refine fa_c (s_ia dX2_findPair_93) ?_
  refine fa_c (pf_X2_13 hAp w_84 dX2_findPair_94) ?_
  refine fa_c (s_la_n dX2_findPair_97 rfl) ?_
  refine fa_c (s_li_n dX2_findPair_98 rfl) ?_
  refine fa_c (pf_X2_14 hAp w_85 dX2_findPair_99) ?_
  refine fa_c (s_inc dX2_findPair_102 (by decide) (by decide)) ?_
  refine fa_c (s_go dX2_findPair_105 (by decide)) ?_
  refine fa_c (s_li_n dX2_findPair_108 rfl) ?_
  refine fa_c (s_la_n dX2_findPair_109 rfl) ?_
  refine fa_c (gf_X2_0 w_71 dX2_findPair_110) ?_
  refine fa_c (s_ic_ge dX2_findPair_113 (by decide)) ?_
  refine fa_c (s_iconst dX2_findPair_116 (by decide)) ?_
  refine fa_c (s_go dX2_findPair_117 (by decide)) ?_
  refine fa_c (s_iconst dX2_findPair_120 (by decide)) ?_
  refine fa_c (s_rz dX2_findPair_121 rfl) ?_
  exact fun e he => absurd he List.not_mem_nil
theorem cl_X2_findPair {G : GX} (hAp : Ap G) : Cl1 (Ct G mts) n_X2_findPair tb_X2_findPair := ct_cl (y := n_X2_findPair) (yn := yX2_findPair) rfl (by decide +kernel) (ok_X2_findPair hAp)
theorem dX2_linkTwo_0 : decode cX2_linkTwo 0 = .ok (.aload_n 0, 1) := by decide +kernel
theorem dX2_linkTwo_1 : decode cX2_linkTwo 1 = .ok (.iload_n 1, 1) := by decide +kernel
theorem dX2_linkTwo_2 : decode cX2_linkTwo 2 = .ok (.iload_n 2, 1) := by decide +kernel
theorem dX2_linkTwo_3 : decode cX2_linkTwo 3 = .ok (.invokevirtual 64, 3) := by decide +kernel
theorem dX2_linkTwo_6 : decode cX2_linkTwo 6 = .ok (.ifCond .eq 7, 3) := by decide +kernel
theorem dX2_linkTwo_9 : decode cX2_linkTwo 9 = .ok (.iload_n 1, 1) := by decide +kernel
theorem dX2_linkTwo_10 : decode cX2_linkTwo 10 = .ok (.goto 4, 3) := by decide +kernel
theorem dX2_linkTwo_13 : decode cX2_linkTwo 13 = .ok (.iload_n 2, 1) := by decide +kernel
theorem dX2_linkTwo_14 : decode cX2_linkTwo 14 = .ok (.istore_n 3, 1) := by decide +kernel
theorem dX2_linkTwo_15 : decode cX2_linkTwo 15 = .ok (.iload_n 3, 1) := by decide +kernel
theorem dX2_linkTwo_16 : decode cX2_linkTwo 16 = .ok (.iload_n 1, 1) := by decide +kernel
theorem dX2_linkTwo_17 : decode cX2_linkTwo 17 = .ok (.if_icmp .ne 7, 3) := by decide +kernel
theorem dX2_linkTwo_20 : decode cX2_linkTwo 20 = .ok (.iload_n 2, 1) := by decide +kernel
theorem dX2_linkTwo_21 : decode cX2_linkTwo 21 = .ok (.goto 4, 3) := by decide +kernel
theorem dX2_linkTwo_24 : decode cX2_linkTwo 24 = .ok (.iload_n 1, 1) := by decide +kernel
theorem dX2_linkTwo_25 : decode cX2_linkTwo 25 = .ok (.istore 4, 2) := by decide +kernel
theorem dX2_linkTwo_27 : decode cX2_linkTwo 27 = .ok (.aload_n 0, 1) := by decide +kernel
theorem dX2_linkTwo_28 : decode cX2_linkTwo 28 = .ok (.iload_n 3, 1) := by decide +kernel
theorem dX2_linkTwo_29 : decode cX2_linkTwo 29 = .ok (.iconst (-1), 1) := by decide +kernel
theorem dX2_linkTwo_30 : decode cX2_linkTwo 30 = .ok (.invokevirtual 106, 3) := by decide +kernel
theorem dX2_linkTwo_33 : decode cX2_linkTwo 33 = .ok (.istore 5, 2) := by decide +kernel
theorem dX2_linkTwo_35 : decode cX2_linkTwo 35 = .ok (.iload 5, 2) := by decide +kernel
theorem dX2_linkTwo_37 : decode cX2_linkTwo 37 = .ok (.iconst (-1), 1) := by decide +kernel
theorem dX2_linkTwo_38 : decode cX2_linkTwo 38 = .ok (.if_icmp .ne 14, 3) := by decide +kernel
theorem dX2_linkTwo_41 : decode cX2_linkTwo 41 = .ok (.aload_n 0, 1) := by decide +kernel
theorem dX2_linkTwo_42 : decode cX2_linkTwo 42 = .ok (.getfield 28, 3) := by decide +kernel
theorem dX2_linkTwo_45 : decode cX2_linkTwo 45 = .ok (.iload_n 3, 1) := by decide +kernel
theorem dX2_linkTwo_46 : decode cX2_linkTwo 46 = .ok (.iload 4, 2) := by decide +kernel
theorem dX2_linkTwo_48 : decode cX2_linkTwo 48 = .ok (.iastore, 1) := by decide +kernel
theorem dX2_linkTwo_49 : decode cX2_linkTwo 49 = .ok (.goto 12, 3) := by decide +kernel
theorem dX2_linkTwo_52 : decode cX2_linkTwo 52 = .ok (.aload_n 0, 1) := by decide +kernel
theorem dX2_linkTwo_53 : decode cX2_linkTwo 53 = .ok (.getfield 31, 3) := by decide +kernel
theorem dX2_linkTwo_56 : decode cX2_linkTwo 56 = .ok (.iload 5, 2) := by decide +kernel
theorem dX2_linkTwo_58 : decode cX2_linkTwo 58 = .ok (.iload 4, 2) := by decide +kernel
theorem dX2_linkTwo_60 : decode cX2_linkTwo 60 = .ok (.iastore, 1) := by decide +kernel
theorem dX2_linkTwo_61 : decode cX2_linkTwo 61 = .ok (.aload_n 0, 1) := by decide +kernel
theorem dX2_linkTwo_62 : decode cX2_linkTwo 62 = .ok (.getfield 31, 3) := by decide +kernel
theorem dX2_linkTwo_65 : decode cX2_linkTwo 65 = .ok (.iload 4, 2) := by decide +kernel
theorem dX2_linkTwo_67 : decode cX2_linkTwo 67 = .ok (.iconst (-1), 1) := by decide +kernel
theorem dX2_linkTwo_68 : decode cX2_linkTwo 68 = .ok (.iastore, 1) := by decide +kernel
theorem dX2_linkTwo_69 : decode cX2_linkTwo 69 = .ok (.aload_n 0, 1) := by decide +kernel
theorem dX2_linkTwo_70 : decode cX2_linkTwo 70 = .ok (.getfield 22, 3) := by decide +kernel
theorem dX2_linkTwo_73 : decode cX2_linkTwo 73 = .ok (.iload 4, 2) := by decide +kernel
theorem dX2_linkTwo_75 : decode cX2_linkTwo 75 = .ok (.iload_n 3, 1) := by decide +kernel
theorem dX2_linkTwo_76 : decode cX2_linkTwo 76 = .ok (.iastore, 1) := by decide +kernel
theorem dX2_linkTwo_77 : decode cX2_linkTwo 77 = .ok (.aload_n 0, 1) := by decide +kernel
theorem dX2_linkTwo_78 : decode cX2_linkTwo 78 = .ok (.getfield 25, 3) := by decide +kernel
theorem dX2_linkTwo_81 : decode cX2_linkTwo 81 = .ok (.iload_n 3, 1) := by decide +kernel
theorem dX2_linkTwo_82 : decode cX2_linkTwo 82 = .ok (.dup2, 1) := by decide +kernel
theorem dX2_linkTwo_83 : decode cX2_linkTwo 83 = .ok (.iaload, 1) := by decide +kernel
theorem dX2_linkTwo_84 : decode cX2_linkTwo 84 = .ok (.iconst 1, 1) := by decide +kernel
theorem dX2_linkTwo_85 : decode cX2_linkTwo 85 = .ok (.iadd, 1) := by decide +kernel
theorem dX2_linkTwo_86 : decode cX2_linkTwo 86 = .ok (.iastore, 1) := by decide +kernel
theorem dX2_linkTwo_87 : decode cX2_linkTwo 87 = .ok (.aload_n 0, 1) := by decide +kernel
theorem dX2_linkTwo_88 : decode cX2_linkTwo 88 = .ok (.dup, 1) := by decide +kernel
theorem dX2_linkTwo_89 : decode cX2_linkTwo 89 = .ok (.getfield 47, 3) := by decide +kernel
theorem dX2_linkTwo_92 : decode cX2_linkTwo 92 = .ok (.iconst 1, 1) := by decide +kernel
theorem dX2_linkTwo_93 : decode cX2_linkTwo 93 = .ok (.iadd, 1) := by decide +kernel
theorem dX2_linkTwo_94 : decode cX2_linkTwo 94 = .ok (.putfield 47, 3) := by decide +kernel
theorem dX2_linkTwo_97 : decode cX2_linkTwo 97 = .ok (.return_, 1) := by decide +kernel
set_option maxRecDepth 100000 in
theorem ok_X2_linkTwo {G : GX} (hAp : Ap G) : ∀ d, ∀ e ∈ tb_X2_linkTwo, Snd G mts yX2_linkTwo.cls cX2_linkTwo 6 (none) d none e.1 e.2 := by
  intro d
  unfold tb_X2_linkTwo
  refine fa_c (s_la_n dX2_linkTwo_0 rfl) ?_
  refine fa_c (s_li_n dX2_linkTwo_1 rfl) ?_
  refine fa_c (s_li_n dX2_linkTwo_2 rfl) ?_
  refine fa_c (s_cv mo_X2_isSooner co_X2 (by decide) (fun _ _ => ⟨_, rfl⟩) dX2_linkTwo_3 w_256 w_258 w_0 (by decide)) ?_
  refine fa_c (s_if_eq dX2_linkTwo_6 (by decide)) ?_
  refine fa_c (s_li_n dX2_linkTwo_9 rfl) ?_
  refine fa_c (s_go dX2_linkTwo_10 (by decide)) ?_
  refine fa_c (s_li_n dX2_linkTwo_13 rfl) ?_
  refine fa_c (s_st_n dX2_linkTwo_14 rfl (by decide)) ?_
  refine fa_c (s_li_n dX2_linkTwo_15 rfl) ?_
  refine fa_c (s_li_n dX2_linkTwo_16 rfl) ?_
  refine fa_c (s_ic_ne dX2_linkTwo_17 (by decide)) ?_
  refine fa_c (s_li_n dX2_linkTwo_20 rfl) ?_
  refine fa_c (s_go dX2_linkTwo_21 (by decide)) ?_
  refine fa_c (s_li_n dX2_linkTwo_24 rfl) ?_
  refine fa_c (s_st dX2_linkTwo_25 (by decide)) ?_
  refine fa_c (s_la_n dX2_linkTwo_27 rfl) ?_
  refine fa_c (s_li_n dX2_linkTwo_28 rfl) ?_
  refine fa_c (s_iconst dX2_linkTwo_29 (by decide)) ?_
  refine fa_c (s_cv mo_X2_besideBefore co_X2 (by decide) (fun _ _ => ⟨_, rfl⟩) dX2_linkTwo_30 w_277 w_279 w_5 (by decide)) ?_
  refine fa_c (s_st dX2_linkTwo_33 (by decide)) ?_
  refine fa_c (s_li dX2_linkTwo_35) ?_
  refine fa_c (s_iconst dX2_linkTwo_37 (by decide)) ?_
  refine fa_c (s_ic_ne dX2_linkTwo_38 (by decide)) ?_
  refine fa_c (s_la_n dX2_linkTwo_41 rfl) ?_
  refine fa_c (gf_X2_5 w_76 dX2_linkTwo_42) ?_
  refine fa_c (s_li_n dX2_linkTwo_45 rfl) ?_
  refine fa_c (s_li dX2_linkTwo_46) ?_
  refine fa_c (s_is hAp dX2_linkTwo_48) ?_
  refine fa_c (s_go dX2_linkTwo_49 (by decide)) ?_
  refine fa_c (s_la_n dX2_linkTwo_52 rfl) ?_
  refine fa_c (gf_X2_6 w_77 dX2_linkTwo_53) ?_
  refine fa_c (s_li dX2_linkTwo_56) ?_
  refine fa_c (s_li dX2_linkTwo_58) ?_
  refine fa_c (s_is hAp dX2_linkTwo_60) ?_
  refine fa_c (s_la_n dX2_linkTwo_61 rfl) ?_
  refine fa_c (gf_X2_6 w_77 dX2_linkTwo_62) ?_
  refine fa_c (s_li dX2_linkTwo_65) ?_
  refine fa_c (s_iconst dX2_linkTwo_67 (by decide)) ?_
  refine fa_c (s_is hAp dX2_linkTwo_68) ?_
  refine fa_c (s_la_n dX2_linkTwo_69 rfl) ?_
  refine fa_c (gf_X2_3 w_74 dX2_linkTwo_70) ?_
  refine fa_c (s_li dX2_linkTwo_73) ?_
  refine fa_c (s_li_n dX2_linkTwo_75 rfl) ?_
  refine fa_c (s_is hAp dX2_linkTwo_76) ?_
  refine fa_c (s_la_n dX2_linkTwo_77 rfl) ?_
  refine fa_c (gf_X2_4 w_75 dX2_linkTwo_78) ?_
  refine fa_c (s_li_n dX2_linkTwo_81 rfl) ?_
  refine fa_c (s_i_dup2 dX2_linkTwo_82) ?_
  refine fa_c (s_ia dX2_linkTwo_83) ?_
  refine fa_c (s_iconst dX2_linkTwo_84 (by decide)) ?_
  refine fa_c (s_i_add dX2_linkTwo_85) ?_
  refine fa_c (s_is hAp dX2_linkTwo_86) ?_
  refine fa_c (s_la_n dX2_linkTwo_87 rfl) ?_
  refine fa_c (s_i_dup dX2_linkTwo_88) ?_
  refine fa_c (gf_X2_11 w_82 dX2_linkTwo_89) ?_
  refine fa_c (s_iconst dX2_linkTwo_92 (by decide)) ?_
  refine fa_c (s_i_add dX2_linkTwo_93) ?_
  refine fa_c (pf_X2_11 hAp w_82 dX2_linkTwo_94) ?_
  refine fa_c (s_rv dX2_linkTwo_97 rfl) ?_
  exact fun e he => absurd he List.not_mem_nil
theorem cl_X2_linkTwo {G : GX} (hAp : Ap G) : Cl1 (Ct G mts) n_X2_linkTwo tb_X2_linkTwo := ct_cl (y := n_X2_linkTwo) (yn := yX2_linkTwo) rfl (by decide +kernel) (ok_X2_linkTwo hAp)
theorem dX2_cutOff_0 : decode cX2_cutOff 0 = .ok (.aload_n 0, 1) := by decide +kernel
theorem dX2_cutOff_1 : decode cX2_cutOff 1 = .ok (.getfield 22, 3) := by decide +kernel
theorem dX2_cutOff_4 : decode cX2_cutOff 4 = .ok (.iload_n 1, 1) := by decide +kernel
theorem dX2_cutOff_5 : decode cX2_cutOff 5 = .ok (.iaload, 1) := by decide +kernel
theorem dX2_cutOff_6 : decode cX2_cutOff 6 = .ok (.istore_n 2, 1) := by decide +kernel
theorem dX2_cutOff_7 : decode cX2_cutOff 7 = .ok (.iload_n 2, 1) := by decide +kernel
theorem dX2_cutOff_8 : decode cX2_cutOff 8 = .ok (.iconst (-1), 1) := by decide +kernel
theorem dX2_cutOff_9 : decode cX2_cutOff 9 = .ok (.if_icmp .ne 4, 3) := by decide +kernel
theorem dX2_cutOff_12 : decode cX2_cutOff 12 = .ok (.return_, 1) := by decide +kernel
theorem dX2_cutOff_13 : decode cX2_cutOff 13 = .ok (.aload_n 0, 1) := by decide +kernel
theorem dX2_cutOff_14 : decode cX2_cutOff 14 = .ok (.iload_n 2, 1) := by decide +kernel
theorem dX2_cutOff_15 : decode cX2_cutOff 15 = .ok (.iload_n 1, 1) := by decide +kernel
theorem dX2_cutOff_16 : decode cX2_cutOff 16 = .ok (.invokevirtual 106, 3) := by decide +kernel
theorem dX2_cutOff_19 : decode cX2_cutOff 19 = .ok (.istore_n 3, 1) := by decide +kernel
theorem dX2_cutOff_20 : decode cX2_cutOff 20 = .ok (.iload_n 3, 1) := by decide +kernel
theorem dX2_cutOff_21 : decode cX2_cutOff 21 = .ok (.iconst (-1), 1) := by decide +kernel
theorem dX2_cutOff_22 : decode cX2_cutOff 22 = .ok (.if_icmp .ne 18, 3) := by decide +kernel
theorem dX2_cutOff_25 : decode cX2_cutOff 25 = .ok (.aload_n 0, 1) := by decide +kernel
theorem dX2_cutOff_26 : decode cX2_cutOff 26 = .ok (.getfield 28, 3) := by decide +kernel
theorem dX2_cutOff_29 : decode cX2_cutOff 29 = .ok (.iload_n 2, 1) := by decide +kernel
theorem dX2_cutOff_30 : decode cX2_cutOff 30 = .ok (.aload_n 0, 1) := by decide +kernel
theorem dX2_cutOff_31 : decode cX2_cutOff 31 = .ok (.getfield 31, 3) := by decide +kernel
theorem dX2_cutOff_34 : decode cX2_cutOff 34 = .ok (.iload_n 1, 1) := by decide +kernel
theorem dX2_cutOff_35 : decode cX2_cutOff 35 = .ok (.iaload, 1) := by decide +kernel
theorem dX2_cutOff_36 : decode cX2_cutOff 36 = .ok (.iastore, 1) := by decide +kernel
theorem dX2_cutOff_37 : decode cX2_cutOff 37 = .ok (.goto 15, 3) := by decide +kernel
theorem dX2_cutOff_40 : decode cX2_cutOff 40 = .ok (.aload_n 0, 1) := by decide +kernel
theorem dX2_cutOff_41 : decode cX2_cutOff 41 = .ok (.getfield 31, 3) := by decide +kernel
theorem dX2_cutOff_44 : decode cX2_cutOff 44 = .ok (.iload_n 3, 1) := by decide +kernel
theorem dX2_cutOff_45 : decode cX2_cutOff 45 = .ok (.aload_n 0, 1) := by decide +kernel
theorem dX2_cutOff_46 : decode cX2_cutOff 46 = .ok (.getfield 31, 3) := by decide +kernel
theorem dX2_cutOff_49 : decode cX2_cutOff 49 = .ok (.iload_n 1, 1) := by decide +kernel
theorem dX2_cutOff_50 : decode cX2_cutOff 50 = .ok (.iaload, 1) := by decide +kernel
theorem dX2_cutOff_51 : decode cX2_cutOff 51 = .ok (.iastore, 1) := by decide +kernel
theorem dX2_cutOff_52 : decode cX2_cutOff 52 = .ok (.aload_n 0, 1) := by decide +kernel
theorem dX2_cutOff_53 : decode cX2_cutOff 53 = .ok (.getfield 25, 3) := by decide +kernel
theorem dX2_cutOff_56 : decode cX2_cutOff 56 = .ok (.iload_n 2, 1) := by decide +kernel
theorem dX2_cutOff_57 : decode cX2_cutOff 57 = .ok (.dup2, 1) := by decide +kernel
theorem dX2_cutOff_58 : decode cX2_cutOff 58 = .ok (.iaload, 1) := by decide +kernel
theorem dX2_cutOff_59 : decode cX2_cutOff 59 = .ok (.iconst 1, 1) := by decide +kernel
theorem dX2_cutOff_60 : decode cX2_cutOff 60 = .ok (.isub, 1) := by decide +kernel
theorem dX2_cutOff_61 : decode cX2_cutOff 61 = .ok (.iastore, 1) := by decide +kernel
theorem dX2_cutOff_62 : decode cX2_cutOff 62 = .ok (.aload_n 0, 1) := by decide +kernel
theorem dX2_cutOff_63 : decode cX2_cutOff 63 = .ok (.iload_n 1, 1) := by decide +kernel
theorem dX2_cutOff_64 : decode cX2_cutOff 64 = .ok (.invokevirtual 109, 3) := by decide +kernel
theorem dX2_cutOff_67 : decode cX2_cutOff 67 = .ok (.aload_n 0, 1) := by decide +kernel
theorem dX2_cutOff_68 : decode cX2_cutOff 68 = .ok (.dup, 1) := by decide +kernel
theorem dX2_cutOff_69 : decode cX2_cutOff 69 = .ok (.getfield 50, 3) := by decide +kernel
theorem dX2_cutOff_72 : decode cX2_cutOff 72 = .ok (.iconst 1, 1) := by decide +kernel
theorem dX2_cutOff_73 : decode cX2_cutOff 73 = .ok (.iadd, 1) := by decide +kernel
theorem dX2_cutOff_74 : decode cX2_cutOff 74 = .ok (.putfield 50, 3) := by decide +kernel
theorem dX2_cutOff_77 : decode cX2_cutOff 77 = .ok (.return_, 1) := by decide +kernel
set_option maxRecDepth 100000 in
theorem ok_X2_cutOff {G : GX} (hAp : Ap G) : ∀ d, ∀ e ∈ tb_X2_cutOff, Snd G mts yX2_cutOff.cls cX2_cutOff 4 (none) d none e.1 e.2 := by
  intro d
  unfold tb_X2_cutOff
  refine fa_c (s_la_n dX2_cutOff_0 rfl) ?_
  refine fa_c (gf_X2_3 w_74 dX2_cutOff_1) ?_
  refine fa_c (s_li_n dX2_cutOff_4 rfl) ?_
  refine fa_c (s_ia dX2_cutOff_5) ?_
  refine fa_c (s_st_n dX2_cutOff_6 rfl (by decide)) ?_
  refine fa_c (s_li_n dX2_cutOff_7 rfl) ?_
  refine fa_c (s_iconst dX2_cutOff_8 (by decide)) ?_
  refine fa_c (s_ic_ne dX2_cutOff_9 (by decide)) ?_
  refine fa_c (s_rv dX2_cutOff_12 rfl) ?_
  refine fa_c (s_la_n dX2_cutOff_13 rfl) ?_
  refine fa_c (s_li_n dX2_cutOff_14 rfl) ?_
  refine fa_c (s_li_n dX2_cutOff_15 rfl) ?_
  refine fa_c (s_cv mo_X2_besideBefore co_X2 (by decide) (fun _ _ => ⟨_, rfl⟩) dX2_cutOff_16 w_277 w_279 w_5 (by decide)) ?_
  refine fa_c (s_st_n dX2_cutOff_19 rfl (by decide)) ?_
  refine fa_c (s_li_n dX2_cutOff_20 rfl) ?_
  refine fa_c (s_iconst dX2_cutOff_21 (by decide)) ?_
  refine fa_c (s_ic_ne dX2_cutOff_22 (by decide)) ?_
  refine fa_c (s_la_n dX2_cutOff_25 rfl) ?_
  refine fa_c (gf_X2_5 w_76 dX2_cutOff_26) ?_
  refine fa_c (s_li_n dX2_cutOff_29 rfl) ?_
  refine fa_c (s_la_n dX2_cutOff_30 rfl) ?_
  refine fa_c (gf_X2_6 w_77 dX2_cutOff_31) ?_
  refine fa_c (s_li_n dX2_cutOff_34 rfl) ?_
  refine fa_c (s_ia dX2_cutOff_35) ?_
  refine fa_c (s_is hAp dX2_cutOff_36) ?_
  refine fa_c (s_go dX2_cutOff_37 (by decide)) ?_
  refine fa_c (s_la_n dX2_cutOff_40 rfl) ?_
  refine fa_c (gf_X2_6 w_77 dX2_cutOff_41) ?_
  refine fa_c (s_li_n dX2_cutOff_44 rfl) ?_
  refine fa_c (s_la_n dX2_cutOff_45 rfl) ?_
  refine fa_c (gf_X2_6 w_77 dX2_cutOff_46) ?_
  refine fa_c (s_li_n dX2_cutOff_49 rfl) ?_
  refine fa_c (s_ia dX2_cutOff_50) ?_
  refine fa_c (s_is hAp dX2_cutOff_51) ?_
  refine fa_c (s_la_n dX2_cutOff_52 rfl) ?_
  refine fa_c (gf_X2_4 w_75 dX2_cutOff_53) ?_
  refine fa_c (s_li_n dX2_cutOff_56 rfl) ?_
  refine fa_c (s_i_dup2 dX2_cutOff_57) ?_
  refine fa_c (s_ia dX2_cutOff_58) ?_
  refine fa_c (s_iconst dX2_cutOff_59 (by decide)) ?_
  refine fa_c (s_i_sub dX2_cutOff_60) ?_
  refine fa_c (s_is hAp dX2_cutOff_61) ?_
  refine fa_c (s_la_n dX2_cutOff_62 rfl) ?_
  refine fa_c (s_li_n dX2_cutOff_63 rfl) ?_
  refine fa_c (s_cv mo_X2_makeRoot co_X2 (by decide) (fun _ _ => ⟨_, rfl⟩) dX2_cutOff_64 w_281 w_283 w_6 (by decide)) ?_
  refine fa_c (s_la_n dX2_cutOff_67 rfl) ?_
  refine fa_c (s_i_dup dX2_cutOff_68) ?_
  refine fa_c (gf_X2_12 w_83 dX2_cutOff_69) ?_
  refine fa_c (s_iconst dX2_cutOff_72 (by decide)) ?_
  refine fa_c (s_i_add dX2_cutOff_73) ?_
  refine fa_c (pf_X2_12 hAp w_83 dX2_cutOff_74) ?_
  refine fa_c (s_rv dX2_cutOff_77 rfl) ?_
  exact fun e he => absurd he List.not_mem_nil
theorem cl_X2_cutOff {G : GX} (hAp : Ap G) : Cl1 (Ct G mts) n_X2_cutOff tb_X2_cutOff := ct_cl (y := n_X2_cutOff) (yn := yX2_cutOff) rfl (by decide +kernel) (ok_X2_cutOff hAp)
theorem dX2_freeChildren_0 : decode cX2_freeChildren 0 = .ok (.aload_n 0, 1) := by decide +kernel
theorem dX2_freeChildren_1 : decode cX2_freeChildren 1 = .ok (.getfield 28, 3) := by decide +kernel
theorem dX2_freeChildren_4 : decode cX2_freeChildren 4 = .ok (.iload_n 1, 1) := by decide +kernel
theorem dX2_freeChildren_5 : decode cX2_freeChildren 5 = .ok (.iaload, 1) := by decide +kernel
theorem dX2_freeChildren_6 : decode cX2_freeChildren 6 = .ok (.istore_n 2, 1) := by decide +kernel
theorem dX2_freeChildren_7 : decode cX2_freeChildren 7 = .ok (.iconst 0, 1) := by decide +kernel
theorem dX2_freeChildren_8 : decode cX2_freeChildren 8 = .ok (.istore_n 3, 1) := by decide +kernel
theorem dX2_freeChildren_9 : decode cX2_freeChildren 9 = .ok (.iload_n 3, 1) := by decide +kernel
theorem dX2_freeChildren_10 : decode cX2_freeChildren 10 = .ok (.aload_n 0, 1) := by decide +kernel
theorem dX2_freeChildren_11 : decode cX2_freeChildren 11 = .ok (.getfield 9, 3) := by decide +kernel
theorem dX2_freeChildren_14 : decode cX2_freeChildren 14 = .ok (.if_icmp .ge 30, 3) := by decide +kernel
theorem dX2_freeChildren_17 : decode cX2_freeChildren 17 = .ok (.iload_n 2, 1) := by decide +kernel
theorem dX2_freeChildren_18 : decode cX2_freeChildren 18 = .ok (.iconst (-1), 1) := by decide +kernel
theorem dX2_freeChildren_19 : decode cX2_freeChildren 19 = .ok (.if_icmp .eq 25, 3) := by decide +kernel
theorem dX2_freeChildren_22 : decode cX2_freeChildren 22 = .ok (.aload_n 0, 1) := by decide +kernel
theorem dX2_freeChildren_23 : decode cX2_freeChildren 23 = .ok (.getfield 31, 3) := by decide +kernel
theorem dX2_freeChildren_26 : decode cX2_freeChildren 26 = .ok (.iload_n 2, 1) := by decide +kernel
theorem dX2_freeChildren_27 : decode cX2_freeChildren 27 = .ok (.iaload, 1) := by decide +kernel
theorem dX2_freeChildren_28 : decode cX2_freeChildren 28 = .ok (.istore 4, 2) := by decide +kernel
theorem dX2_freeChildren_30 : decode cX2_freeChildren 30 = .ok (.aload_n 0, 1) := by decide +kernel
theorem dX2_freeChildren_31 : decode cX2_freeChildren 31 = .ok (.iload_n 2, 1) := by decide +kernel
theorem dX2_freeChildren_32 : decode cX2_freeChildren 32 = .ok (.invokevirtual 109, 3) := by decide +kernel
theorem dX2_freeChildren_35 : decode cX2_freeChildren 35 = .ok (.iload 4, 2) := by decide +kernel
theorem dX2_freeChildren_37 : decode cX2_freeChildren 37 = .ok (.istore_n 2, 1) := by decide +kernel
theorem dX2_freeChildren_38 : decode cX2_freeChildren 38 = .ok (.iinc 3 1, 3) := by decide +kernel
theorem dX2_freeChildren_41 : decode cX2_freeChildren 41 = .ok (.goto (-32), 3) := by decide +kernel
theorem dX2_freeChildren_44 : decode cX2_freeChildren 44 = .ok (.aload_n 0, 1) := by decide +kernel
theorem dX2_freeChildren_45 : decode cX2_freeChildren 45 = .ok (.getfield 28, 3) := by decide +kernel
theorem dX2_freeChildren_48 : decode cX2_freeChildren 48 = .ok (.iload_n 1, 1) := by decide +kernel
theorem dX2_freeChildren_49 : decode cX2_freeChildren 49 = .ok (.iconst (-1), 1) := by decide +kernel
theorem dX2_freeChildren_50 : decode cX2_freeChildren 50 = .ok (.iastore, 1) := by decide +kernel
theorem dX2_freeChildren_51 : decode cX2_freeChildren 51 = .ok (.aload_n 0, 1) := by decide +kernel
theorem dX2_freeChildren_52 : decode cX2_freeChildren 52 = .ok (.getfield 25, 3) := by decide +kernel
theorem dX2_freeChildren_55 : decode cX2_freeChildren 55 = .ok (.iload_n 1, 1) := by decide +kernel
theorem dX2_freeChildren_56 : decode cX2_freeChildren 56 = .ok (.iconst 0, 1) := by decide +kernel
theorem dX2_freeChildren_57 : decode cX2_freeChildren 57 = .ok (.iastore, 1) := by decide +kernel
theorem dX2_freeChildren_58 : decode cX2_freeChildren 58 = .ok (.return_, 1) := by decide +kernel
set_option maxRecDepth 100000 in
theorem ok_X2_freeChildren {G : GX} (hAp : Ap G) : ∀ d, ∀ e ∈ tb_X2_freeChildren, Snd G mts yX2_freeChildren.cls cX2_freeChildren 5 (none) d none e.1 e.2 := by
  intro d
  unfold tb_X2_freeChildren
  refine fa_c (s_la_n dX2_freeChildren_0 rfl) ?_
  refine fa_c (gf_X2_5 w_76 dX2_freeChildren_1) ?_
  refine fa_c (s_li_n dX2_freeChildren_4 rfl) ?_
  refine fa_c (s_ia dX2_freeChildren_5) ?_
  refine fa_c (s_st_n dX2_freeChildren_6 rfl (by decide)) ?_
  refine fa_c (s_iconst dX2_freeChildren_7 (by decide)) ?_
  refine fa_c (s_st_n dX2_freeChildren_8 rfl (by decide)) ?_
  refine fa_c (s_li_n dX2_freeChildren_9 rfl) ?_
  refine fa_c (s_la_n dX2_freeChildren_10 rfl) ?_
  refine fa_c (gf_X2_0 w_71 dX2_freeChildren_11) ?_
  refine fa_c (s_ic_ge dX2_freeChildren_14 (by decide)) ?_
  refine fa_c (s_li_n dX2_freeChildren_17 rfl) ?_
  refine fa_c (s_iconst dX2_freeChildren_18 (by decide)) ?_
  refine fa_c (s_ic_eq dX2_freeChildren_19 (by decide)) ?_
  refine fa_c (s_la_n dX2_freeChildren_22 rfl) ?_
  refine fa_c (gf_X2_6 w_77 dX2_freeChildren_23) ?_
  refine fa_c (s_li_n dX2_freeChildren_26 rfl) ?_
  refine fa_c (s_ia dX2_freeChildren_27) ?_
  refine fa_c (s_st dX2_freeChildren_28 (by decide)) ?_
  refine fa_c (s_la_n dX2_freeChildren_30 rfl) ?_
  refine fa_c (s_li_n dX2_freeChildren_31 rfl) ?_
  refine fa_c (s_cv mo_X2_makeRoot co_X2 (by decide) (fun _ _ => ⟨_, rfl⟩) dX2_freeChildren_32 w_281 w_283 w_6 (by decide)) ?_
  refine fa_c (s_li dX2_freeChildren_35) ?_
  refine fa_c (s_st_n dX2_freeChildren_37 rfl (by decide)) ?_
  refine fa_c (s_inc dX2_freeChildren_38 (by decide) (by decide)) ?_
  refine fa_c (s_go dX2_freeChildren_41 (by decide)) ?_
  refine fa_c (s_la_n dX2_freeChildren_44 rfl) ?_
  refine fa_c (gf_X2_5 w_76 dX2_freeChildren_45) ?_
  refine fa_c (s_li_n dX2_freeChildren_48 rfl) ?_
  refine fa_c (s_iconst dX2_freeChildren_49 (by decide)) ?_
  refine fa_c (s_is hAp dX2_freeChildren_50) ?_
  refine fa_c (s_la_n dX2_freeChildren_51 rfl) ?_
  refine fa_c (gf_X2_4 w_75 dX2_freeChildren_52) ?_
  refine fa_c (s_li_n dX2_freeChildren_55 rfl) ?_
  refine fa_c (s_iconst dX2_freeChildren_56 (by decide)) ?_
  refine fa_c (s_is hAp dX2_freeChildren_57) ?_
  refine fa_c (s_rv dX2_freeChildren_58 rfl) ?_
  exact fun e he => absurd he List.not_mem_nil
theorem cl_X2_freeChildren {G : GX} (hAp : Ap G) : Cl1 (Ct G mts) n_X2_freeChildren tb_X2_freeChildren := ct_cl (y := n_X2_freeChildren) (yn := yX2_freeChildren) rfl (by decide +kernel) (ok_X2_freeChildren hAp)
theorem dX2_makeRoot_0 : decode cX2_makeRoot 0 = .ok (.aload_n 0, 1) := by decide +kernel
theorem dX2_makeRoot_1 : decode cX2_makeRoot 1 = .ok (.getfield 22, 3) := by decide +kernel
theorem dX2_makeRoot_4 : decode cX2_makeRoot 4 = .ok (.iload_n 1, 1) := by decide +kernel
theorem dX2_makeRoot_5 : decode cX2_makeRoot 5 = .ok (.iconst (-1), 1) := by decide +kernel
theorem dX2_makeRoot_6 : decode cX2_makeRoot 6 = .ok (.iastore, 1) := by decide +kernel
theorem dX2_makeRoot_7 : decode cX2_makeRoot 7 = .ok (.aload_n 0, 1) := by decide +kernel
theorem dX2_makeRoot_8 : decode cX2_makeRoot 8 = .ok (.getfield 38, 3) := by decide +kernel
theorem dX2_makeRoot_11 : decode cX2_makeRoot 11 = .ok (.iload_n 1, 1) := by decide +kernel
theorem dX2_makeRoot_12 : decode cX2_makeRoot 12 = .ok (.iconst 0, 1) := by decide +kernel
theorem dX2_makeRoot_13 : decode cX2_makeRoot 13 = .ok (.bastore, 1) := by decide +kernel
theorem dX2_makeRoot_14 : decode cX2_makeRoot 14 = .ok (.return_, 1) := by decide +kernel
set_option maxRecDepth 100000 in
theorem ok_X2_makeRoot {G : GX} (hAp : Ap G) : ∀ d, ∀ e ∈ tb_X2_makeRoot, Snd G mts yX2_makeRoot.cls cX2_makeRoot 2 (none) d none e.1 e.2 := by
  intro d
  unfold tb_X2_makeRoot
  refine fa_c (s_la_n dX2_makeRoot_0 rfl) ?_
  refine fa_c (gf_X2_3 w_74 dX2_makeRoot_1) ?_
  refine fa_c (s_li_n dX2_makeRoot_4 rfl) ?_
  refine fa_c (s_iconst dX2_makeRoot_5 (by decide)) ?_
  refine fa_c (s_is hAp dX2_makeRoot_6) ?_
  refine fa_c (s_la_n dX2_makeRoot_7 rfl) ?_
  refine fa_c (gf_X2_8 w_79 dX2_makeRoot_8) ?_
  refine fa_c (s_li_n dX2_makeRoot_11 rfl) ?_
  refine fa_c (s_iconst dX2_makeRoot_12 (by decide)) ?_
  refine fa_c (s_bs hAp dX2_makeRoot_13) ?_
  refine fa_c (s_rv dX2_makeRoot_14 rfl) ?_
  exact fun e he => absurd he List.not_mem_nil
theorem cl_X2_makeRoot {G : GX} (hAp : Ap G) : Cl1 (Ct G mts) n_X2_makeRoot tb_X2_makeRoot := ct_cl (y := n_X2_makeRoot) (yn := yX2_makeRoot) rfl (by decide +kernel) (ok_X2_makeRoot hAp)
theorem dX2_besideBefore_0 : decode cX2_besideBefore 0 = .ok (.iconst (-1), 1) := by decide +kernel
theorem dX2_besideBefore_1 : decode cX2_besideBefore 1 = .ok (.istore_n 3, 1) := by decide +kernel
theorem dX2_besideBefore_2 : decode cX2_besideBefore 2 = .ok (.aload_n 0, 1) := by decide +kernel
theorem dX2_besideBefore_3 : decode cX2_besideBefore 3 = .ok (.getfield 28, 3) := by decide +kernel
theorem dX2_besideBefore_6 : decode cX2_besideBefore 6 = .ok (.iload_n 1, 1) := by decide +kernel
theorem dX2_besideBefore_7 : decode cX2_besideBefore 7 = .ok (.iaload, 1) := by decide +kernel
theorem dX2_besideBefore_8 : decode cX2_besideBefore 8 = .ok (.istore 4, 2) := by decide +kernel
theorem dX2_besideBefore_10 : decode cX2_besideBefore 10 = .ok (.iconst 0, 1) := by decide +kernel
theorem dX2_besideBefore_11 : decode cX2_besideBefore 11 = .ok (.istore 5, 2) := by decide +kernel
theorem dX2_besideBefore_13 : decode cX2_besideBefore 13 = .ok (.iload 5, 2) := by decide +kernel
theorem dX2_besideBefore_15 : decode cX2_besideBefore 15 = .ok (.aload_n 0, 1) := by decide +kernel
theorem dX2_besideBefore_16 : decode cX2_besideBefore 16 = .ok (.getfield 9, 3) := by decide +kernel
theorem dX2_besideBefore_19 : decode cX2_besideBefore 19 = .ok (.if_icmp .ge 33, 3) := by decide +kernel
theorem dX2_besideBefore_22 : decode cX2_besideBefore 22 = .ok (.iload 4, 2) := by decide +kernel
theorem dX2_besideBefore_24 : decode cX2_besideBefore 24 = .ok (.iconst (-1), 1) := by decide +kernel
theorem dX2_besideBefore_25 : decode cX2_besideBefore 25 = .ok (.if_icmp .eq 27, 3) := by decide +kernel
theorem dX2_besideBefore_28 : decode cX2_besideBefore 28 = .ok (.iload 4, 2) := by decide +kernel
theorem dX2_besideBefore_30 : decode cX2_besideBefore 30 = .ok (.iload_n 2, 1) := by decide +kernel
theorem dX2_besideBefore_31 : decode cX2_besideBefore 31 = .ok (.if_icmp .eq 21, 3) := by decide +kernel
theorem dX2_besideBefore_34 : decode cX2_besideBefore 34 = .ok (.iload 4, 2) := by decide +kernel
theorem dX2_besideBefore_36 : decode cX2_besideBefore 36 = .ok (.istore_n 3, 1) := by decide +kernel
theorem dX2_besideBefore_37 : decode cX2_besideBefore 37 = .ok (.aload_n 0, 1) := by decide +kernel
theorem dX2_besideBefore_38 : decode cX2_besideBefore 38 = .ok (.getfield 31, 3) := by decide +kernel
theorem dX2_besideBefore_41 : decode cX2_besideBefore 41 = .ok (.iload 4, 2) := by decide +kernel
theorem dX2_besideBefore_43 : decode cX2_besideBefore 43 = .ok (.iaload, 1) := by decide +kernel
theorem dX2_besideBefore_44 : decode cX2_besideBefore 44 = .ok (.istore 4, 2) := by decide +kernel
theorem dX2_besideBefore_46 : decode cX2_besideBefore 46 = .ok (.iinc 5 1, 3) := by decide +kernel
theorem dX2_besideBefore_49 : decode cX2_besideBefore 49 = .ok (.goto (-36), 3) := by decide +kernel
theorem dX2_besideBefore_52 : decode cX2_besideBefore 52 = .ok (.iload_n 3, 1) := by decide +kernel
theorem dX2_besideBefore_53 : decode cX2_besideBefore 53 = .ok (.ireturn, 1) := by decide +kernel
set_option maxRecDepth 100000 in
theorem ok_X2_besideBefore {G : GX} (hAp : Ap G) : ∀ d, ∀ e ∈ tb_X2_besideBefore, Snd G mts yX2_besideBefore.cls cX2_besideBefore 6 (some .int) d none e.1 e.2 := by
  intro d
  unfold tb_X2_besideBefore
  refine fa_c (s_iconst dX2_besideBefore_0 (by decide)) ?_
  refine fa_c (s_st_n dX2_besideBefore_1 rfl (by decide)) ?_
  refine fa_c (s_la_n dX2_besideBefore_2 rfl) ?_
  refine fa_c (gf_X2_5 w_76 dX2_besideBefore_3) ?_
  refine fa_c (s_li_n dX2_besideBefore_6 rfl) ?_
  refine fa_c (s_ia dX2_besideBefore_7) ?_
  refine fa_c (s_st dX2_besideBefore_8 (by decide)) ?_
  refine fa_c (s_iconst dX2_besideBefore_10 (by decide)) ?_
  refine fa_c (s_st dX2_besideBefore_11 (by decide)) ?_
  refine fa_c (s_li dX2_besideBefore_13) ?_
  refine fa_c (s_la_n dX2_besideBefore_15 rfl) ?_
  refine fa_c (gf_X2_0 w_71 dX2_besideBefore_16) ?_
  refine fa_c (s_ic_ge dX2_besideBefore_19 (by decide)) ?_
  refine fa_c (s_li dX2_besideBefore_22) ?_
  refine fa_c (s_iconst dX2_besideBefore_24 (by decide)) ?_
  refine fa_c (s_ic_eq dX2_besideBefore_25 (by decide)) ?_
  refine fa_c (s_li dX2_besideBefore_28) ?_
  refine fa_c (s_li_n dX2_besideBefore_30 rfl) ?_
  refine fa_c (s_ic_eq dX2_besideBefore_31 (by decide)) ?_
  refine fa_c (s_li dX2_besideBefore_34) ?_
  refine fa_c (s_st_n dX2_besideBefore_36 rfl (by decide)) ?_
  refine fa_c (s_la_n dX2_besideBefore_37 rfl) ?_
  refine fa_c (gf_X2_6 w_77 dX2_besideBefore_38) ?_
  refine fa_c (s_li dX2_besideBefore_41) ?_
  refine fa_c (s_ia dX2_besideBefore_43) ?_
  refine fa_c (s_st dX2_besideBefore_44 (by decide)) ?_
  refine fa_c (s_inc dX2_besideBefore_46 (by decide) (by decide)) ?_
  refine fa_c (s_go dX2_besideBefore_49 (by decide)) ?_
  refine fa_c (s_li_n dX2_besideBefore_52 rfl) ?_
  refine fa_c (s_ri dX2_besideBefore_53 rfl) ?_
  exact fun e he => absurd he List.not_mem_nil
theorem cl_X2_besideBefore {G : GX} (hAp : Ap G) : Cl1 (Ct G mts) n_X2_besideBefore tb_X2_besideBefore := ct_cl (y := n_X2_besideBefore) (yn := yX2_besideBefore) rfl (by decide +kernel) (ok_X2_besideBefore hAp)
theorem dX2_isSooner_0 : decode cX2_isSooner 0 = .ok (.aload_n 0, 1) := by decide +kernel
theorem dX2_isSooner_1 : decode cX2_isSooner 1 = .ok (.getfield 19, 3) := by decide +kernel
theorem dX2_isSooner_4 : decode cX2_isSooner 4 = .ok (.iload_n 1, 1) := by decide +kernel
theorem dX2_isSooner_5 : decode cX2_isSooner 5 = .ok (.iaload, 1) := by decide +kernel
theorem dX2_isSooner_6 : decode cX2_isSooner 6 = .ok (.aload_n 0, 1) := by decide +kernel
theorem dX2_isSooner_7 : decode cX2_isSooner 7 = .ok (.getfield 19, 3) := by decide +kernel
theorem dX2_isSooner_10 : decode cX2_isSooner 10 = .ok (.iload_n 2, 1) := by decide +kernel
theorem dX2_isSooner_11 : decode cX2_isSooner 11 = .ok (.iaload, 1) := by decide +kernel
theorem dX2_isSooner_12 : decode cX2_isSooner 12 = .ok (.if_icmp .lt 23, 3) := by decide +kernel
theorem dX2_isSooner_15 : decode cX2_isSooner 15 = .ok (.aload_n 0, 1) := by decide +kernel
theorem dX2_isSooner_16 : decode cX2_isSooner 16 = .ok (.getfield 19, 3) := by decide +kernel
theorem dX2_isSooner_19 : decode cX2_isSooner 19 = .ok (.iload_n 1, 1) := by decide +kernel
theorem dX2_isSooner_20 : decode cX2_isSooner 20 = .ok (.iaload, 1) := by decide +kernel
theorem dX2_isSooner_21 : decode cX2_isSooner 21 = .ok (.aload_n 0, 1) := by decide +kernel
theorem dX2_isSooner_22 : decode cX2_isSooner 22 = .ok (.getfield 19, 3) := by decide +kernel
theorem dX2_isSooner_25 : decode cX2_isSooner 25 = .ok (.iload_n 2, 1) := by decide +kernel
theorem dX2_isSooner_26 : decode cX2_isSooner 26 = .ok (.iaload, 1) := by decide +kernel
theorem dX2_isSooner_27 : decode cX2_isSooner 27 = .ok (.if_icmp .ne 12, 3) := by decide +kernel
theorem dX2_isSooner_30 : decode cX2_isSooner 30 = .ok (.iload_n 1, 1) := by decide +kernel
theorem dX2_isSooner_31 : decode cX2_isSooner 31 = .ok (.iload_n 2, 1) := by decide +kernel
theorem dX2_isSooner_32 : decode cX2_isSooner 32 = .ok (.if_icmp .ge 7, 3) := by decide +kernel
theorem dX2_isSooner_35 : decode cX2_isSooner 35 = .ok (.iconst 1, 1) := by decide +kernel
theorem dX2_isSooner_36 : decode cX2_isSooner 36 = .ok (.goto 4, 3) := by decide +kernel
theorem dX2_isSooner_39 : decode cX2_isSooner 39 = .ok (.iconst 0, 1) := by decide +kernel
theorem dX2_isSooner_40 : decode cX2_isSooner 40 = .ok (.ireturn, 1) := by decide +kernel
set_option maxRecDepth 100000 in
theorem ok_X2_isSooner {G : GX} (hAp : Ap G) : ∀ d, ∀ e ∈ tb_X2_isSooner, Snd G mts yX2_isSooner.cls cX2_isSooner 3 (some .boolean) d none e.1 e.2 := by
  intro d
  unfold tb_X2_isSooner
  refine fa_c (s_la_n dX2_isSooner_0 rfl) ?_
  refine fa_c (gf_X2_2 w_73 dX2_isSooner_1) ?_
  refine fa_c (s_li_n dX2_isSooner_4 rfl) ?_
  refine fa_c (s_ia dX2_isSooner_5) ?_
  refine fa_c (s_la_n dX2_isSooner_6 rfl) ?_
  refine fa_c (gf_X2_2 w_73 dX2_isSooner_7) ?_
  refine fa_c (s_li_n dX2_isSooner_10 rfl) ?_
  refine fa_c (s_ia dX2_isSooner_11) ?_
  refine fa_c (s_ic_lt dX2_isSooner_12 (by decide)) ?_
  refine fa_c (s_la_n dX2_isSooner_15 rfl) ?_
  refine fa_c (gf_X2_2 w_73 dX2_isSooner_16) ?_
  refine fa_c (s_li_n dX2_isSooner_19 rfl) ?_
  refine fa_c (s_ia dX2_isSooner_20) ?_
  refine fa_c (s_la_n dX2_isSooner_21 rfl) ?_
  refine fa_c (gf_X2_2 w_73 dX2_isSooner_22) ?_
  refine fa_c (s_li_n dX2_isSooner_25 rfl) ?_
  refine fa_c (s_ia dX2_isSooner_26) ?_
  refine fa_c (s_ic_ne dX2_isSooner_27 (by decide)) ?_
  refine fa_c (s_li_n dX2_isSooner_30 rfl) ?_
  refine fa_c (s_li_n dX2_isSooner_31 rfl) ?_
  refine fa_c (s_ic_ge dX2_isSooner_32 (by decide)) ?_
  refine fa_c (s_iconst dX2_isSooner_35 (by decide)) ?_
  refine fa_c (s_go dX2_isSooner_36 (by decide)) ?_
  refine fa_c (s_iconst dX2_isSooner_39 (by decide)) ?_
  refine fa_c (s_rz dX2_isSooner_40 rfl) ?_
  exact fun e he => absurd he List.not_mem_nil
theorem cl_X2_isSooner {G : GX} (hAp : Ap G) : Cl1 (Ct G mts) n_X2_isSooner tb_X2_isSooner := ct_cl (y := n_X2_isSooner) (yn := yX2_isSooner) rfl (by decide +kernel) (ok_X2_isSooner hAp)
theorem dX2_isRoot_0 : decode cX2_isRoot 0 = .ok (.aload_n 0, 1) := by decide +kernel
theorem dX2_isRoot_1 : decode cX2_isRoot 1 = .ok (.getfield 34, 3) := by decide +kernel
theorem dX2_isRoot_4 : decode cX2_isRoot 4 = .ok (.iload_n 1, 1) := by decide +kernel
theorem dX2_isRoot_5 : decode cX2_isRoot 5 = .ok (.baload, 1) := by decide +kernel
theorem dX2_isRoot_6 : decode cX2_isRoot 6 = .ok (.ifCond .eq 17, 3) := by decide +kernel
theorem dX2_isRoot_9 : decode cX2_isRoot 9 = .ok (.aload_n 0, 1) := by decide +kernel
theorem dX2_isRoot_10 : decode cX2_isRoot 10 = .ok (.getfield 22, 3) := by decide +kernel
theorem dX2_isRoot_13 : decode cX2_isRoot 13 = .ok (.iload_n 1, 1) := by decide +kernel
theorem dX2_isRoot_14 : decode cX2_isRoot 14 = .ok (.iaload, 1) := by decide +kernel
theorem dX2_isRoot_15 : decode cX2_isRoot 15 = .ok (.iconst (-1), 1) := by decide +kernel
theorem dX2_isRoot_16 : decode cX2_isRoot 16 = .ok (.if_icmp .ne 7, 3) := by decide +kernel
theorem dX2_isRoot_19 : decode cX2_isRoot 19 = .ok (.iconst 1, 1) := by decide +kernel
theorem dX2_isRoot_20 : decode cX2_isRoot 20 = .ok (.goto 4, 3) := by decide +kernel
theorem dX2_isRoot_23 : decode cX2_isRoot 23 = .ok (.iconst 0, 1) := by decide +kernel
theorem dX2_isRoot_24 : decode cX2_isRoot 24 = .ok (.ireturn, 1) := by decide +kernel
set_option maxRecDepth 100000 in
theorem ok_X2_isRoot {G : GX} (hAp : Ap G) : ∀ d, ∀ e ∈ tb_X2_isRoot, Snd G mts yX2_isRoot.cls cX2_isRoot 2 (some .boolean) d none e.1 e.2 := by
  intro d
  unfold tb_X2_isRoot
  refine fa_c (s_la_n dX2_isRoot_0 rfl) ?_
  refine fa_c (gf_X2_7 w_78 dX2_isRoot_1) ?_
  refine fa_c (s_li_n dX2_isRoot_4 rfl) ?_
  refine fa_c (s_ba dX2_isRoot_5) ?_
  refine fa_c (s_if_eq dX2_isRoot_6 (by decide)) ?_
  refine fa_c (s_la_n dX2_isRoot_9 rfl) ?_
  refine fa_c (gf_X2_3 w_74 dX2_isRoot_10) ?_
  refine fa_c (s_li_n dX2_isRoot_13 rfl) ?_
  refine fa_c (s_ia dX2_isRoot_14) ?_
  refine fa_c (s_iconst dX2_isRoot_15 (by decide)) ?_
  refine fa_c (s_ic_ne dX2_isRoot_16 (by decide)) ?_
  refine fa_c (s_iconst dX2_isRoot_19 (by decide)) ?_
  refine fa_c (s_go dX2_isRoot_20 (by decide)) ?_
  refine fa_c (s_iconst dX2_isRoot_23 (by decide)) ?_
  refine fa_c (s_rz dX2_isRoot_24 rfl) ?_
  exact fun e he => absurd he List.not_mem_nil
theorem cl_X2_isRoot {G : GX} (hAp : Ap G) : Cl1 (Ct G mts) n_X2_isRoot tb_X2_isRoot := ct_cl (y := n_X2_isRoot) (yn := yX2_isRoot) rfl (by decide +kernel) (ok_X2_isRoot hAp)
theorem dX2_count_0 : decode cX2_count 0 = .ok (.aload_n 0, 1) := by decide +kernel
theorem dX2_count_1 : decode cX2_count 1 = .ok (.getfield 44, 3) := by decide +kernel
theorem dX2_count_4 : decode cX2_count 4 = .ok (.ireturn, 1) := by decide +kernel
set_option maxRecDepth 100000 in
theorem ok_X2_count {G : GX} (hAp : Ap G) : ∀ d, ∀ e ∈ tb_X2_count, Snd G mts yX2_count.cls cX2_count 1 (some .int) d none e.1 e.2 := by
  intro d
  unfold tb_X2_count
  refine fa_c (s_la_n dX2_count_0 rfl) ?_
  refine fa_c (gf_X2_10 w_81 dX2_count_1) ?_
  refine fa_c (s_ri dX2_count_4 rfl) ?_
  exact fun e he => absurd he List.not_mem_nil
theorem cl_X2_count {G : GX} (hAp : Ap G) : Cl1 (Ct G mts) n_X2_count tb_X2_count := ct_cl (y := n_X2_count) (yn := yX2_count) rfl (by decide +kernel) (ok_X2_count hAp)
theorem dX2_links_0 : decode cX2_links 0 = .ok (.aload_n 0, 1) := by decide +kernel
theorem dX2_links_1 : decode cX2_links 1 = .ok (.getfield 47, 3) := by decide +kernel
theorem dX2_links_4 : decode cX2_links 4 = .ok (.ireturn, 1) := by decide +kernel
set_option maxRecDepth 100000 in
theorem ok_X2_links {G : GX} (hAp : Ap G) : ∀ d, ∀ e ∈ tb_X2_links, Snd G mts yX2_links.cls cX2_links 1 (some .int) d none e.1 e.2 := by
  intro d
  unfold tb_X2_links
  refine fa_c (s_la_n dX2_links_0 rfl) ?_
  refine fa_c (gf_X2_11 w_82 dX2_links_1) ?_
  refine fa_c (s_ri dX2_links_4 rfl) ?_
  exact fun e he => absurd he List.not_mem_nil
theorem cl_X2_links {G : GX} (hAp : Ap G) : Cl1 (Ct G mts) n_X2_links tb_X2_links := ct_cl (y := n_X2_links) (yn := yX2_links) rfl (by decide +kernel) (ok_X2_links hAp)
theorem dX2_cuts_0 : decode cX2_cuts 0 = .ok (.aload_n 0, 1) := by decide +kernel
theorem dX2_cuts_1 : decode cX2_cuts 1 = .ok (.getfield 50, 3) := by decide +kernel
theorem dX2_cuts_4 : decode cX2_cuts 4 = .ok (.ireturn, 1) := by decide +kernel
set_option maxRecDepth 100000 in
theorem ok_X2_cuts {G : GX} (hAp : Ap G) : ∀ d, ∀ e ∈ tb_X2_cuts, Snd G mts yX2_cuts.cls cX2_cuts 1 (some .int) d none e.1 e.2 := by
  intro d
  unfold tb_X2_cuts
  refine fa_c (s_la_n dX2_cuts_0 rfl) ?_
  refine fa_c (gf_X2_12 w_83 dX2_cuts_1) ?_
  refine fa_c (s_ri dX2_cuts_4 rfl) ?_
  exact fun e he => absurd he List.not_mem_nil
theorem cl_X2_cuts {G : GX} (hAp : Ap G) : Cl1 (Ct G mts) n_X2_cuts tb_X2_cuts := ct_cl (y := n_X2_cuts) (yn := yX2_cuts) rfl (by decide +kernel) (ok_X2_cuts hAp)
theorem dX2_kindOf_0 : decode cX2_kindOf 0 = .ok (.aload_n 0, 1) := by decide +kernel
theorem dX2_kindOf_1 : decode cX2_kindOf 1 = .ok (.getfield 15, 3) := by decide +kernel
theorem dX2_kindOf_4 : decode cX2_kindOf 4 = .ok (.iload_n 1, 1) := by decide +kernel
theorem dX2_kindOf_5 : decode cX2_kindOf 5 = .ok (.iaload, 1) := by decide +kernel
theorem dX2_kindOf_6 : decode cX2_kindOf 6 = .ok (.ireturn, 1) := by decide +kernel
set_option maxRecDepth 100000 in
theorem ok_X2_kindOf {G : GX} (hAp : Ap G) : ∀ d, ∀ e ∈ tb_X2_kindOf, Snd G mts yX2_kindOf.cls cX2_kindOf 2 (some .int) d none e.1 e.2 := by
  intro d
  unfold tb_X2_kindOf
  refine fa_c (s_la_n dX2_kindOf_0 rfl) ?_
  refine fa_c (gf_X2_1 w_72 dX2_kindOf_1) ?_
  refine fa_c (s_li_n dX2_kindOf_4 rfl) ?_
  refine fa_c (s_ia dX2_kindOf_5) ?_
  refine fa_c (s_ri dX2_kindOf_6 rfl) ?_
  exact fun e he => absurd he List.not_mem_nil
theorem cl_X2_kindOf {G : GX} (hAp : Ap G) : Cl1 (Ct G mts) n_X2_kindOf tb_X2_kindOf := ct_cl (y := n_X2_kindOf) (yn := yX2_kindOf) rfl (by decide +kernel) (ok_X2_kindOf hAp)
theorem dX2_keyOf_0 : decode cX2_keyOf 0 = .ok (.aload_n 0, 1) := by decide +kernel
theorem dX2_keyOf_1 : decode cX2_keyOf 1 = .ok (.getfield 19, 3) := by decide +kernel
theorem dX2_keyOf_4 : decode cX2_keyOf 4 = .ok (.iload_n 1, 1) := by decide +kernel
theorem dX2_keyOf_5 : decode cX2_keyOf 5 = .ok (.iaload, 1) := by decide +kernel
theorem dX2_keyOf_6 : decode cX2_keyOf 6 = .ok (.ireturn, 1) := by decide +kernel
set_option maxRecDepth 100000 in
theorem ok_X2_keyOf {G : GX} (hAp : Ap G) : ∀ d, ∀ e ∈ tb_X2_keyOf, Snd G mts yX2_keyOf.cls cX2_keyOf 2 (some .int) d none e.1 e.2 := by
  intro d
  unfold tb_X2_keyOf
  refine fa_c (s_la_n dX2_keyOf_0 rfl) ?_
  refine fa_c (gf_X2_2 w_73 dX2_keyOf_1) ?_
  refine fa_c (s_li_n dX2_keyOf_4 rfl) ?_
  refine fa_c (s_ia dX2_keyOf_5) ?_
  refine fa_c (s_ri dX2_keyOf_6 rfl) ?_
  exact fun e he => absurd he List.not_mem_nil
theorem cl_X2_keyOf {G : GX} (hAp : Ap G) : Cl1 (Ct G mts) n_X2_keyOf tb_X2_keyOf := ct_cl (y := n_X2_keyOf) (yn := yX2_keyOf) rfl (by decide +kernel) (ok_X2_keyOf hAp)
theorem dX2_aboveOf_0 : decode cX2_aboveOf 0 = .ok (.aload_n 0, 1) := by decide +kernel
theorem dX2_aboveOf_1 : decode cX2_aboveOf 1 = .ok (.getfield 22, 3) := by decide +kernel
theorem dX2_aboveOf_4 : decode cX2_aboveOf 4 = .ok (.iload_n 1, 1) := by decide +kernel
theorem dX2_aboveOf_5 : decode cX2_aboveOf 5 = .ok (.iaload, 1) := by decide +kernel
theorem dX2_aboveOf_6 : decode cX2_aboveOf 6 = .ok (.ireturn, 1) := by decide +kernel
set_option maxRecDepth 100000 in
theorem ok_X2_aboveOf {G : GX} (hAp : Ap G) : ∀ d, ∀ e ∈ tb_X2_aboveOf, Snd G mts yX2_aboveOf.cls cX2_aboveOf 2 (some .int) d none e.1 e.2 := by
  intro d
  unfold tb_X2_aboveOf
  refine fa_c (s_la_n dX2_aboveOf_0 rfl) ?_
  refine fa_c (gf_X2_3 w_74 dX2_aboveOf_1) ?_
  refine fa_c (s_li_n dX2_aboveOf_4 rfl) ?_
  refine fa_c (s_ia dX2_aboveOf_5) ?_
  refine fa_c (s_ri dX2_aboveOf_6 rfl) ?_
  exact fun e he => absurd he List.not_mem_nil
theorem cl_X2_aboveOf {G : GX} (hAp : Ap G) : Cl1 (Ct G mts) n_X2_aboveOf tb_X2_aboveOf := ct_cl (y := n_X2_aboveOf) (yn := yX2_aboveOf) rfl (by decide +kernel) (ok_X2_aboveOf hAp)
theorem dX2_rankOf_0 : decode cX2_rankOf 0 = .ok (.aload_n 0, 1) := by decide +kernel
theorem dX2_rankOf_1 : decode cX2_rankOf 1 = .ok (.getfield 25, 3) := by decide +kernel
theorem dX2_rankOf_4 : decode cX2_rankOf 4 = .ok (.iload_n 1, 1) := by decide +kernel
theorem dX2_rankOf_5 : decode cX2_rankOf 5 = .ok (.iaload, 1) := by decide +kernel
theorem dX2_rankOf_6 : decode cX2_rankOf 6 = .ok (.ireturn, 1) := by decide +kernel
set_option maxRecDepth 100000 in
theorem ok_X2_rankOf {G : GX} (hAp : Ap G) : ∀ d, ∀ e ∈ tb_X2_rankOf, Snd G mts yX2_rankOf.cls cX2_rankOf 2 (some .int) d none e.1 e.2 := by
  intro d
  unfold tb_X2_rankOf
  refine fa_c (s_la_n dX2_rankOf_0 rfl) ?_
  refine fa_c (gf_X2_4 w_75 dX2_rankOf_1) ?_
  refine fa_c (s_li_n dX2_rankOf_4 rfl) ?_
  refine fa_c (s_ia dX2_rankOf_5) ?_
  refine fa_c (s_ri dX2_rankOf_6 rfl) ?_
  exact fun e he => absurd he List.not_mem_nil
theorem cl_X2_rankOf {G : GX} (hAp : Ap G) : Cl1 (Ct G mts) n_X2_rankOf tb_X2_rankOf := ct_cl (y := n_X2_rankOf) (yn := yX2_rankOf) rfl (by decide +kernel) (ok_X2_rankOf hAp)
theorem dX2_isStanding_0 : decode cX2_isStanding 0 = .ok (.aload_n 0, 1) := by decide +kernel
theorem dX2_isStanding_1 : decode cX2_isStanding 1 = .ok (.getfield 34, 3) := by decide +kernel
theorem dX2_isStanding_4 : decode cX2_isStanding 4 = .ok (.iload_n 1, 1) := by decide +kernel
theorem dX2_isStanding_5 : decode cX2_isStanding 5 = .ok (.baload, 1) := by decide +kernel
theorem dX2_isStanding_6 : decode cX2_isStanding 6 = .ok (.ireturn, 1) := by decide +kernel
set_option maxRecDepth 100000 in
theorem ok_X2_isStanding {G : GX} (hAp : Ap G) : ∀ d, ∀ e ∈ tb_X2_isStanding, Snd G mts yX2_isStanding.cls cX2_isStanding 2 (some .boolean) d none e.1 e.2 := by
  intro d
  unfold tb_X2_isStanding
  refine fa_c (s_la_n dX2_isStanding_0 rfl) ?_
  refine fa_c (gf_X2_7 w_78 dX2_isStanding_1) ?_
  refine fa_c (s_li_n dX2_isStanding_4 rfl) ?_
  refine fa_c (s_ba dX2_isStanding_5) ?_
  refine fa_c (s_rz dX2_isStanding_6 rfl) ?_
  exact fun e he => absurd he List.not_mem_nil
theorem cl_X2_isStanding {G : GX} (hAp : Ap G) : Cl1 (Ct G mts) n_X2_isStanding tb_X2_isStanding := ct_cl (y := n_X2_isStanding) (yn := yX2_isStanding) rfl (by decide +kernel) (ok_X2_isStanding hAp)
theorem dX2_isLoose_0 : decode cX2_isLoose 0 = .ok (.aload_n 0, 1) := by decide +kernel
theorem dX2_isLoose_1 : decode cX2_isLoose 1 = .ok (.getfield 38, 3) := by decide +kernel
theorem dX2_isLoose_4 : decode cX2_isLoose 4 = .ok (.iload_n 1, 1) := by decide +kernel
theorem dX2_isLoose_5 : decode cX2_isLoose 5 = .ok (.baload, 1) := by decide +kernel
theorem dX2_isLoose_6 : decode cX2_isLoose 6 = .ok (.ireturn, 1) := by decide +kernel
set_option maxRecDepth 100000 in
theorem ok_X2_isLoose {G : GX} (hAp : Ap G) : ∀ d, ∀ e ∈ tb_X2_isLoose, Snd G mts yX2_isLoose.cls cX2_isLoose 2 (some .boolean) d none e.1 e.2 := by
  intro d
  unfold tb_X2_isLoose
  refine fa_c (s_la_n dX2_isLoose_0 rfl) ?_
  refine fa_c (gf_X2_8 w_79 dX2_isLoose_1) ?_
  refine fa_c (s_li_n dX2_isLoose_4 rfl) ?_
  refine fa_c (s_ba dX2_isLoose_5) ?_
  refine fa_c (s_rz dX2_isLoose_6 rfl) ?_
  exact fun e he => absurd he List.not_mem_nil
theorem cl_X2_isLoose {G : GX} (hAp : Ap G) : Cl1 (Ct G mts) n_X2_isLoose tb_X2_isLoose := ct_cl (y := n_X2_isLoose) (yn := yX2_isLoose) rfl (by decide +kernel) (ok_X2_isLoose hAp)
theorem dX2_soonest_0 : decode cX2_soonest 0 = .ok (.iconst (-1), 1) := by decide +kernel
theorem dX2_soonest_1 : decode cX2_soonest 1 = .ok (.istore_n 1, 1) := by decide +kernel
theorem dX2_soonest_2 : decode cX2_soonest 2 = .ok (.iconst 0, 1) := by decide +kernel
theorem dX2_soonest_3 : decode cX2_soonest 3 = .ok (.istore_n 2, 1) := by decide +kernel
theorem dX2_soonest_4 : decode cX2_soonest 4 = .ok (.iload_n 2, 1) := by decide +kernel
theorem dX2_soonest_5 : decode cX2_soonest 5 = .ok (.aload_n 0, 1) := by decide +kernel
theorem dX2_soonest_6 : decode cX2_soonest 6 = .ok (.getfield 44, 3) := by decide +kernel
theorem dX2_soonest_9 : decode cX2_soonest 9 = .ok (.if_icmp .ge 34, 3) := by decide +kernel
theorem dX2_soonest_12 : decode cX2_soonest 12 = .ok (.aload_n 0, 1) := by decide +kernel
theorem dX2_soonest_13 : decode cX2_soonest 13 = .ok (.getfield 34, 3) := by decide +kernel
theorem dX2_soonest_16 : decode cX2_soonest 16 = .ok (.iload_n 2, 1) := by decide +kernel
theorem dX2_soonest_17 : decode cX2_soonest 17 = .ok (.baload, 1) := by decide +kernel
theorem dX2_soonest_18 : decode cX2_soonest 18 = .ok (.ifCond .eq 19, 3) := by decide +kernel
theorem dX2_soonest_21 : decode cX2_soonest 21 = .ok (.iload_n 1, 1) := by decide +kernel
theorem dX2_soonest_22 : decode cX2_soonest 22 = .ok (.iconst (-1), 1) := by decide +kernel
theorem dX2_soonest_23 : decode cX2_soonest 23 = .ok (.if_icmp .eq 12, 3) := by decide +kernel
theorem dX2_soonest_26 : decode cX2_soonest 26 = .ok (.aload_n 0, 1) := by decide +kernel
theorem dX2_soonest_27 : decode cX2_soonest 27 = .ok (.iload_n 2, 1) := by decide +kernel
theorem dX2_soonest_28 : decode cX2_soonest 28 = .ok (.iload_n 1, 1) := by decide +kernel
theorem dX2_soonest_29 : decode cX2_soonest 29 = .ok (.invokevirtual 64, 3) := by decide +kernel
theorem dX2_soonest_32 : decode cX2_soonest 32 = .ok (.ifCond .eq 5, 3) := by decide +kernel
theorem dX2_soonest_35 : decode cX2_soonest 35 = .ok (.iload_n 2, 1) := by decide +kernel
theorem dX2_soonest_36 : decode cX2_soonest 36 = .ok (.istore_n 1, 1) := by decide +kernel
theorem dX2_soonest_37 : decode cX2_soonest 37 = .ok (.iinc 2 1, 3) := by decide +kernel
theorem dX2_soonest_40 : decode cX2_soonest 40 = .ok (.goto (-36), 3) := by decide +kernel
theorem dX2_soonest_43 : decode cX2_soonest 43 = .ok (.iload_n 1, 1) := by decide +kernel
theorem dX2_soonest_44 : decode cX2_soonest 44 = .ok (.ireturn, 1) := by decide +kernel
set_option maxRecDepth 100000 in
theorem ok_X2_soonest {G : GX} (hAp : Ap G) : ∀ d, ∀ e ∈ tb_X2_soonest, Snd G mts yX2_soonest.cls cX2_soonest 3 (some .int) d none e.1 e.2 := by
  intro d
  unfold tb_X2_soonest
  refine fa_c (s_iconst dX2_soonest_0 (by decide)) ?_
  refine fa_c (s_st_n dX2_soonest_1 rfl (by decide)) ?_
  refine fa_c (s_iconst dX2_soonest_2 (by decide)) ?_
  refine fa_c (s_st_n dX2_soonest_3 rfl (by decide)) ?_
  refine fa_c (s_li_n dX2_soonest_4 rfl) ?_
  refine fa_c (s_la_n dX2_soonest_5 rfl) ?_
  refine fa_c (gf_X2_10 w_81 dX2_soonest_6) ?_
  refine fa_c (s_ic_ge dX2_soonest_9 (by decide)) ?_
  refine fa_c (s_la_n dX2_soonest_12 rfl) ?_
  refine fa_c (gf_X2_7 w_78 dX2_soonest_13) ?_
  refine fa_c (s_li_n dX2_soonest_16 rfl) ?_
  refine fa_c (s_ba dX2_soonest_17) ?_
  refine fa_c (s_if_eq dX2_soonest_18 (by decide)) ?_
  refine fa_c (s_li_n dX2_soonest_21 rfl) ?_
  refine fa_c (s_iconst dX2_soonest_22 (by decide)) ?_
  refine fa_c (s_ic_eq dX2_soonest_23 (by decide)) ?_
  refine fa_c (s_la_n dX2_soonest_26 rfl) ?_
  refine fa_c (s_li_n dX2_soonest_27 rfl) ?_
  refine fa_c (s_li_n dX2_soonest_28 rfl) ?_
  refine fa_c (s_cv mo_X2_isSooner co_X2 (by decide) (fun _ _ => ⟨_, rfl⟩) dX2_soonest_29 w_256 w_258 w_0 (by decide)) ?_
  refine fa_c (s_if_eq dX2_soonest_32 (by decide)) ?_
  refine fa_c (s_li_n dX2_soonest_35 rfl) ?_
  refine fa_c (s_st_n dX2_soonest_36 rfl (by decide)) ?_
  refine fa_c (s_inc dX2_soonest_37 (by decide) (by decide)) ?_
  refine fa_c (s_go dX2_soonest_40 (by decide)) ?_
  refine fa_c (s_li_n dX2_soonest_43 rfl) ?_
  refine fa_c (s_ri dX2_soonest_44 rfl) ?_
  exact fun e he => absurd he List.not_mem_nil
theorem cl_X2_soonest {G : GX} (hAp : Ap G) : Cl1 (Ct G mts) n_X2_soonest tb_X2_soonest := ct_cl (y := n_X2_soonest) (yn := yX2_soonest) rfl (by decide +kernel) (ok_X2_soonest hAp)
theorem dX2_standingCount_0 : decode cX2_standingCount 0 = .ok (.iconst 0, 1) := by decide +kernel
theorem dX2_standingCount_1 : decode cX2_standingCount 1 = .ok (.istore_n 1, 1) := by decide +kernel
theorem dX2_standingCount_2 : decode cX2_standingCount 2 = .ok (.iconst 0, 1) := by decide +kernel
theorem dX2_standingCount_3 : decode cX2_standingCount 3 = .ok (.istore_n 2, 1) := by decide +kernel
theorem dX2_standingCount_4 : decode cX2_standingCount 4 = .ok (.iload_n 2, 1) := by decide +kernel
theorem dX2_standingCount_5 : decode cX2_standingCount 5 = .ok (.aload_n 0, 1) := by decide +kernel
theorem dX2_standingCount_6 : decode cX2_standingCount 6 = .ok (.getfield 44, 3) := by decide +kernel
theorem dX2_standingCount_9 : decode cX2_standingCount 9 = .ok (.if_icmp .ge 21, 3) := by decide +kernel
theorem dX2_standingCount_12 : decode cX2_standingCount 12 = .ok (.aload_n 0, 1) := by decide +kernel
theorem dX2_standingCount_13 : decode cX2_standingCount 13 = .ok (.getfield 34, 3) := by decide +kernel
theorem dX2_standingCount_16 : decode cX2_standingCount 16 = .ok (.iload_n 2, 1) := by decide +kernel
theorem dX2_standingCount_17 : decode cX2_standingCount 17 = .ok (.baload, 1) := by decide +kernel
theorem dX2_standingCount_18 : decode cX2_standingCount 18 = .ok (.ifCond .eq 6, 3) := by decide +kernel
theorem dX2_standingCount_21 : decode cX2_standingCount 21 = .ok (.iinc 1 1, 3) := by decide +kernel
theorem dX2_standingCount_24 : decode cX2_standingCount 24 = .ok (.iinc 2 1, 3) := by decide +kernel
theorem dX2_standingCount_27 : decode cX2_standingCount 27 = .ok (.goto (-23), 3) := by decide +kernel
theorem dX2_standingCount_30 : decode cX2_standingCount 30 = .ok (.iload_n 1, 1) := by decide +kernel
theorem dX2_standingCount_31 : decode cX2_standingCount 31 = .ok (.ireturn, 1) := by decide +kernel
set_option maxRecDepth 100000 in
theorem ok_X2_standingCount {G : GX} (hAp : Ap G) : ∀ d, ∀ e ∈ tb_X2_standingCount, Snd G mts yX2_standingCount.cls cX2_standingCount 3 (some .int) d none e.1 e.2 := by
  intro d
  unfold tb_X2_standingCount
  refine fa_c (s_iconst dX2_standingCount_0 (by decide)) ?_
  refine fa_c (s_st_n dX2_standingCount_1 rfl (by decide)) ?_
  refine fa_c (s_iconst dX2_standingCount_2 (by decide)) ?_
  refine fa_c (s_st_n dX2_standingCount_3 rfl (by decide)) ?_
  refine fa_c (s_li_n dX2_standingCount_4 rfl) ?_
  refine fa_c (s_la_n dX2_standingCount_5 rfl) ?_
  refine fa_c (gf_X2_10 w_81 dX2_standingCount_6) ?_
  refine fa_c (s_ic_ge dX2_standingCount_9 (by decide)) ?_
  refine fa_c (s_la_n dX2_standingCount_12 rfl) ?_
  refine fa_c (gf_X2_7 w_78 dX2_standingCount_13) ?_
  refine fa_c (s_li_n dX2_standingCount_16 rfl) ?_
  refine fa_c (s_ba dX2_standingCount_17) ?_
  refine fa_c (s_if_eq dX2_standingCount_18 (by decide)) ?_
  refine fa_c (s_inc dX2_standingCount_21 (by decide) (by decide)) ?_
  refine fa_c (s_inc dX2_standingCount_24 (by decide) (by decide)) ?_
  refine fa_c (s_go dX2_standingCount_27 (by decide)) ?_
  refine fa_c (s_li_n dX2_standingCount_30 rfl) ?_
  refine fa_c (s_ri dX2_standingCount_31 rfl) ?_
  exact fun e he => absurd he List.not_mem_nil
theorem cl_X2_standingCount {G : GX} (hAp : Ap G) : Cl1 (Ct G mts) n_X2_standingCount tb_X2_standingCount := ct_cl (y := n_X2_standingCount) (yn := yX2_standingCount) rfl (by decide +kernel) (ok_X2_standingCount hAp)
theorem dX2_standingAt_0 : decode cX2_standingAt 0 = .ok (.iload_n 1, 1) := by decide +kernel
theorem dX2_standingAt_1 : decode cX2_standingAt 1 = .ok (.istore_n 2, 1) := by decide +kernel
theorem dX2_standingAt_2 : decode cX2_standingAt 2 = .ok (.iconst 0, 1) := by decide +kernel
theorem dX2_standingAt_3 : decode cX2_standingAt 3 = .ok (.istore_n 3, 1) := by decide +kernel
theorem dX2_standingAt_4 : decode cX2_standingAt 4 = .ok (.iload_n 3, 1) := by decide +kernel
theorem dX2_standingAt_5 : decode cX2_standingAt 5 = .ok (.aload_n 0, 1) := by decide +kernel
theorem dX2_standingAt_6 : decode cX2_standingAt 6 = .ok (.getfield 44, 3) := by decide +kernel
theorem dX2_standingAt_9 : decode cX2_standingAt 9 = .ok (.if_icmp .ge 27, 3) := by decide +kernel
theorem dX2_standingAt_12 : decode cX2_standingAt 12 = .ok (.aload_n 0, 1) := by decide +kernel
theorem dX2_standingAt_13 : decode cX2_standingAt 13 = .ok (.getfield 34, 3) := by decide +kernel
theorem dX2_standingAt_16 : decode cX2_standingAt 16 = .ok (.iload_n 3, 1) := by decide +kernel
theorem dX2_standingAt_17 : decode cX2_standingAt 17 = .ok (.baload, 1) := by decide +kernel
theorem dX2_standingAt_18 : decode cX2_standingAt 18 = .ok (.ifCond .eq 12, 3) := by decide +kernel
theorem dX2_standingAt_21 : decode cX2_standingAt 21 = .ok (.iload_n 2, 1) := by decide +kernel
theorem dX2_standingAt_22 : decode cX2_standingAt 22 = .ok (.ifCond .ne 5, 3) := by decide +kernel
theorem dX2_standingAt_25 : decode cX2_standingAt 25 = .ok (.iload_n 3, 1) := by decide +kernel
theorem dX2_standingAt_26 : decode cX2_standingAt 26 = .ok (.ireturn, 1) := by decide +kernel
theorem dX2_standingAt_27 : decode cX2_standingAt 27 = .ok (.iinc 2 (-1), 3) := by decide +kernel
theorem dX2_standingAt_30 : decode cX2_standingAt 30 = .ok (.iinc 3 1, 3) := by decide +kernel
theorem dX2_standingAt_33 : decode cX2_standingAt 33 = .ok (.goto (-29), 3) := by decide +kernel
theorem dX2_standingAt_36 : decode cX2_standingAt 36 = .ok (.iconst (-1), 1) := by decide +kernel
theorem dX2_standingAt_37 : decode cX2_standingAt 37 = .ok (.ireturn, 1) := by decide +kernel
set_option maxRecDepth 100000 in
theorem ok_X2_standingAt {G : GX} (hAp : Ap G) : ∀ d, ∀ e ∈ tb_X2_standingAt, Snd G mts yX2_standingAt.cls cX2_standingAt 4 (some .int) d none e.1 e.2 := by
  intro d
  unfold tb_X2_standingAt
  refine fa_c (s_li_n dX2_standingAt_0 rfl) ?_
  refine fa_c (s_st_n dX2_standingAt_1 rfl (by decide)) ?_
  refine fa_c (s_iconst dX2_standingAt_2 (by decide)) ?_
  refine fa_c (s_st_n dX2_standingAt_3 rfl (by decide)) ?_
  refine fa_c (s_li_n dX2_standingAt_4 rfl) ?_
  refine fa_c (s_la_n dX2_standingAt_5 rfl) ?_
  refine fa_c (gf_X2_10 w_81 dX2_standingAt_6) ?_
  refine fa_c (s_ic_ge dX2_standingAt_9 (by decide)) ?_
  refine fa_c (s_la_n dX2_standingAt_12 rfl) ?_
  refine fa_c (gf_X2_7 w_78 dX2_standingAt_13) ?_
  refine fa_c (s_li_n dX2_standingAt_16 rfl) ?_
  refine fa_c (s_ba dX2_standingAt_17) ?_
  refine fa_c (s_if_eq dX2_standingAt_18 (by decide)) ?_
  refine fa_c (s_li_n dX2_standingAt_21 rfl) ?_
  refine fa_c (s_if_ne dX2_standingAt_22 (by decide)) ?_
  refine fa_c (s_li_n dX2_standingAt_25 rfl) ?_
  refine fa_c (s_ri dX2_standingAt_26 rfl) ?_
  refine fa_c (s_inc dX2_standingAt_27 (by decide) (by decide)) ?_
  refine fa_c (s_inc dX2_standingAt_30 (by decide) (by decide)) ?_
  refine fa_c (s_go dX2_standingAt_33 (by decide)) ?_
  refine fa_c (s_iconst dX2_standingAt_36 (by decide)) ?_
  refine fa_c (s_ri dX2_standingAt_37 rfl) ?_
  exact fun e he => absurd he List.not_mem_nil
theorem cl_X2_standingAt {G : GX} (hAp : Ap G) : Cl1 (Ct G mts) n_X2_standingAt tb_X2_standingAt := ct_cl (y := n_X2_standingAt) (yn := yX2_standingAt) rfl (by decide +kernel) (ok_X2_standingAt hAp)
theorem dX2_rootCount_0 : decode cX2_rootCount 0 = .ok (.iconst 0, 1) := by decide +kernel
theorem dX2_rootCount_1 : decode cX2_rootCount 1 = .ok (.istore_n 1, 1) := by decide +kernel
theorem dX2_rootCount_2 : decode cX2_rootCount 2 = .ok (.iconst 0, 1) := by decide +kernel
theorem dX2_rootCount_3 : decode cX2_rootCount 3 = .ok (.istore_n 2, 1) := by decide +kernel
theorem dX2_rootCount_4 : decode cX2_rootCount 4 = .ok (.iload_n 2, 1) := by decide +kernel
theorem dX2_rootCount_5 : decode cX2_rootCount 5 = .ok (.aload_n 0, 1) := by decide +kernel
theorem dX2_rootCount_6 : decode cX2_rootCount 6 = .ok (.getfield 44, 3) := by decide +kernel
theorem dX2_rootCount_9 : decode cX2_rootCount 9 = .ok (.if_icmp .ge 20, 3) := by decide +kernel
theorem dX2_rootCount_12 : decode cX2_rootCount 12 = .ok (.aload_n 0, 1) := by decide +kernel
theorem dX2_rootCount_13 : decode cX2_rootCount 13 = .ok (.iload_n 2, 1) := by decide +kernel
theorem dX2_rootCount_14 : decode cX2_rootCount 14 = .ok (.invokevirtual 102, 3) := by decide +kernel
theorem dX2_rootCount_17 : decode cX2_rootCount 17 = .ok (.ifCond .eq 6, 3) := by decide +kernel
theorem dX2_rootCount_20 : decode cX2_rootCount 20 = .ok (.iinc 1 1, 3) := by decide +kernel
theorem dX2_rootCount_23 : decode cX2_rootCount 23 = .ok (.iinc 2 1, 3) := by decide +kernel
theorem dX2_rootCount_26 : decode cX2_rootCount 26 = .ok (.goto (-22), 3) := by decide +kernel
theorem dX2_rootCount_29 : decode cX2_rootCount 29 = .ok (.iload_n 1, 1) := by decide +kernel
theorem dX2_rootCount_30 : decode cX2_rootCount 30 = .ok (.ireturn, 1) := by decide +kernel
set_option maxRecDepth 100000 in
theorem ok_X2_rootCount {G : GX} (hAp : Ap G) : ∀ d, ∀ e ∈ tb_X2_rootCount, Snd G mts yX2_rootCount.cls cX2_rootCount 3 (some .int) d none e.1 e.2 := by
  intro d
  unfold tb_X2_rootCount
  refine fa_c (s_iconst dX2_rootCount_0 (by decide)) ?_
  refine fa_c (s_st_n dX2_rootCount_1 rfl (by decide)) ?_
  refine fa_c (s_iconst dX2_rootCount_2 (by decide)) ?_
  refine fa_c (s_st_n dX2_rootCount_3 rfl (by decide)) ?_
  refine fa_c (s_li_n dX2_rootCount_4 rfl) ?_
  refine fa_c (s_la_n dX2_rootCount_5 rfl) ?_
  refine fa_c (gf_X2_10 w_81 dX2_rootCount_6) ?_
  refine fa_c (s_ic_ge dX2_rootCount_9 (by decide)) ?_
  refine fa_c (s_la_n dX2_rootCount_12 rfl) ?_
  refine fa_c (s_li_n dX2_rootCount_13 rfl) ?_
  refine fa_c (s_cv mo_X2_isRoot co_X2 (by decide) (fun _ _ => ⟨_, rfl⟩) dX2_rootCount_14 w_269 w_271 w_3 (by decide)) ?_
  refine fa_c (s_if_eq dX2_rootCount_17 (by decide)) ?_
  refine fa_c (s_inc dX2_rootCount_20 (by decide) (by decide)) ?_
  refine fa_c (s_inc dX2_rootCount_23 (by decide) (by decide)) ?_
  refine fa_c (s_go dX2_rootCount_26 (by decide)) ?_
  refine fa_c (s_li_n dX2_rootCount_29 rfl) ?_
  refine fa_c (s_ri dX2_rootCount_30 rfl) ?_
  exact fun e he => absurd he List.not_mem_nil
theorem cl_X2_rootCount {G : GX} (hAp : Ap G) : Cl1 (Ct G mts) n_X2_rootCount tb_X2_rootCount := ct_cl (y := n_X2_rootCount) (yn := yX2_rootCount) rfl (by decide +kernel) (ok_X2_rootCount hAp)
theorem dX2_looseCount_0 : decode cX2_looseCount 0 = .ok (.iconst 0, 1) := by decide +kernel
theorem dX2_looseCount_1 : decode cX2_looseCount 1 = .ok (.istore_n 1, 1) := by decide +kernel
theorem dX2_looseCount_2 : decode cX2_looseCount 2 = .ok (.iconst 0, 1) := by decide +kernel
theorem dX2_looseCount_3 : decode cX2_looseCount 3 = .ok (.istore_n 2, 1) := by decide +kernel
theorem dX2_looseCount_4 : decode cX2_looseCount 4 = .ok (.iload_n 2, 1) := by decide +kernel
theorem dX2_looseCount_5 : decode cX2_looseCount 5 = .ok (.aload_n 0, 1) := by decide +kernel
theorem dX2_looseCount_6 : decode cX2_looseCount 6 = .ok (.getfield 44, 3) := by decide +kernel
theorem dX2_looseCount_9 : decode cX2_looseCount 9 = .ok (.if_icmp .ge 21, 3) := by decide +kernel
theorem dX2_looseCount_12 : decode cX2_looseCount 12 = .ok (.aload_n 0, 1) := by decide +kernel
theorem dX2_looseCount_13 : decode cX2_looseCount 13 = .ok (.getfield 38, 3) := by decide +kernel
theorem dX2_looseCount_16 : decode cX2_looseCount 16 = .ok (.iload_n 2, 1) := by decide +kernel
theorem dX2_looseCount_17 : decode cX2_looseCount 17 = .ok (.baload, 1) := by decide +kernel
theorem dX2_looseCount_18 : decode cX2_looseCount 18 = .ok (.ifCond .eq 6, 3) := by decide +kernel
theorem dX2_looseCount_21 : decode cX2_looseCount 21 = .ok (.iinc 1 1, 3) := by decide +kernel
theorem dX2_looseCount_24 : decode cX2_looseCount 24 = .ok (.iinc 2 1, 3) := by decide +kernel
theorem dX2_looseCount_27 : decode cX2_looseCount 27 = .ok (.goto (-23), 3) := by decide +kernel
theorem dX2_looseCount_30 : decode cX2_looseCount 30 = .ok (.iload_n 1, 1) := by decide +kernel
theorem dX2_looseCount_31 : decode cX2_looseCount 31 = .ok (.ireturn, 1) := by decide +kernel
set_option maxRecDepth 100000 in
theorem ok_X2_looseCount {G : GX} (hAp : Ap G) : ∀ d, ∀ e ∈ tb_X2_looseCount, Snd G mts yX2_looseCount.cls cX2_looseCount 3 (some .int) d none e.1 e.2 := by
  intro d
  unfold tb_X2_looseCount
  refine fa_c (s_iconst dX2_looseCount_0 (by decide)) ?_
  refine fa_c (s_st_n dX2_looseCount_1 rfl (by decide)) ?_
  refine fa_c (s_iconst dX2_looseCount_2 (by decide)) ?_
  refine fa_c (s_st_n dX2_looseCount_3 rfl (by decide)) ?_
  refine fa_c (s_li_n dX2_looseCount_4 rfl) ?_
  refine fa_c (s_la_n dX2_looseCount_5 rfl) ?_
  refine fa_c (gf_X2_10 w_81 dX2_looseCount_6) ?_
  refine fa_c (s_ic_ge dX2_looseCount_9 (by decide)) ?_
  refine fa_c (s_la_n dX2_looseCount_12 rfl) ?_
  refine fa_c (gf_X2_8 w_79 dX2_looseCount_13) ?_
  refine fa_c (s_li_n dX2_looseCount_16 rfl) ?_
  refine fa_c (s_ba dX2_looseCount_17) ?_
  refine fa_c (s_if_eq dX2_looseCount_18 (by decide)) ?_
  refine fa_c (s_inc dX2_looseCount_21 (by decide) (by decide)) ?_
  refine fa_c (s_inc dX2_looseCount_24 (by decide) (by decide)) ?_
  refine fa_c (s_go dX2_looseCount_27 (by decide)) ?_
  refine fa_c (s_li_n dX2_looseCount_30 rfl) ?_
  refine fa_c (s_ri dX2_looseCount_31 rfl) ?_
  exact fun e he => absurd he List.not_mem_nil
theorem cl_X2_looseCount {G : GX} (hAp : Ap G) : Cl1 (Ct G mts) n_X2_looseCount tb_X2_looseCount := ct_cl (y := n_X2_looseCount) (yn := yX2_looseCount) rfl (by decide +kernel) (ok_X2_looseCount hAp)
theorem dX2_looseOfRank_0 : decode cX2_looseOfRank 0 = .ok (.iconst 0, 1) := by decide +kernel
theorem dX2_looseOfRank_1 : decode cX2_looseOfRank 1 = .ok (.istore_n 2, 1) := by decide +kernel
theorem dX2_looseOfRank_2 : decode cX2_looseOfRank 2 = .ok (.iload_n 2, 1) := by decide +kernel
theorem dX2_looseOfRank_3 : decode cX2_looseOfRank 3 = .ok (.aload_n 0, 1) := by decide +kernel
theorem dX2_looseOfRank_4 : decode cX2_looseOfRank 4 = .ok (.getfield 44, 3) := by decide +kernel
theorem dX2_looseOfRank_7 : decode cX2_looseOfRank 7 = .ok (.if_icmp .ge 30, 3) := by decide +kernel
theorem dX2_looseOfRank_10 : decode cX2_looseOfRank 10 = .ok (.aload_n 0, 1) := by decide +kernel
theorem dX2_looseOfRank_11 : decode cX2_looseOfRank 11 = .ok (.getfield 38, 3) := by decide +kernel
theorem dX2_looseOfRank_14 : decode cX2_looseOfRank 14 = .ok (.iload_n 2, 1) := by decide +kernel
theorem dX2_looseOfRank_15 : decode cX2_looseOfRank 15 = .ok (.baload, 1) := by decide +kernel
theorem dX2_looseOfRank_16 : decode cX2_looseOfRank 16 = .ok (.ifCond .eq 15, 3) := by decide +kernel
theorem dX2_looseOfRank_19 : decode cX2_looseOfRank 19 = .ok (.aload_n 0, 1) := by decide +kernel
theorem dX2_looseOfRank_20 : decode cX2_looseOfRank 20 = .ok (.getfield 25, 3) := by decide +kernel
theorem dX2_looseOfRank_23 : decode cX2_looseOfRank 23 = .ok (.iload_n 2, 1) := by decide +kernel
theorem dX2_looseOfRank_24 : decode cX2_looseOfRank 24 = .ok (.iaload, 1) := by decide +kernel
theorem dX2_looseOfRank_25 : decode cX2_looseOfRank 25 = .ok (.iload_n 1, 1) := by decide +kernel
theorem dX2_looseOfRank_26 : decode cX2_looseOfRank 26 = .ok (.if_icmp .ne 5, 3) := by decide +kernel
theorem dX2_looseOfRank_29 : decode cX2_looseOfRank 29 = .ok (.iload_n 2, 1) := by decide +kernel
theorem dX2_looseOfRank_30 : decode cX2_looseOfRank 30 = .ok (.ireturn, 1) := by decide +kernel
theorem dX2_looseOfRank_31 : decode cX2_looseOfRank 31 = .ok (.iinc 2 1, 3) := by decide +kernel
theorem dX2_looseOfRank_34 : decode cX2_looseOfRank 34 = .ok (.goto (-32), 3) := by decide +kernel
theorem dX2_looseOfRank_37 : decode cX2_looseOfRank 37 = .ok (.iconst (-1), 1) := by decide +kernel
theorem dX2_looseOfRank_38 : decode cX2_looseOfRank 38 = .ok (.ireturn, 1) := by decide +kernel
set_option maxRecDepth 100000 in
theorem ok_X2_looseOfRank {G : GX} (hAp : Ap G) : ∀ d, ∀ e ∈ tb_X2_looseOfRank, Snd G mts yX2_looseOfRank.cls cX2_looseOfRank 3 (some .int) d none e.1 e.2 := by
  intro d
  unfold tb_X2_looseOfRank
  refine fa_c (s_iconst dX2_looseOfRank_0 (by decide)) ?_
  refine fa_c (s_st_n dX2_looseOfRank_1 rfl (by decide)) ?_
  refine fa_c (s_li_n dX2_looseOfRank_2 rfl) ?_
  refine fa_c (s_la_n dX2_looseOfRank_3 rfl) ?_
  refine fa_c (gf_X2_10 w_81 dX2_looseOfRank_4) ?_
  refine fa_c (s_ic_ge dX2_looseOfRank_7 (by decide)) ?_
  refine fa_c (s_la_n dX2_looseOfRank_10 rfl) ?_
  refine fa_c (gf_X2_8 w_79 dX2_looseOfRank_11) ?_
  refine fa_c (s_li_n dX2_looseOfRank_14 rfl) ?_
  refine fa_c (s_ba dX2_looseOfRank_15) ?_
  refine fa_c (s_if_eq dX2_looseOfRank_16 (by decide)) ?_
  refine fa_c (s_la_n dX2_looseOfRank_19 rfl) ?_
  refine fa_c (gf_X2_4 w_75 dX2_looseOfRank_20) ?_
  refine fa_c (s_li_n dX2_looseOfRank_23 rfl) ?_
  refine fa_c (s_ia dX2_looseOfRank_24) ?_
  refine fa_c (s_li_n dX2_looseOfRank_25 rfl) ?_
  refine fa_c (s_ic_ne dX2_looseOfRank_26 (by decide)) ?_
  refine fa_c (s_li_n dX2_looseOfRank_29 rfl) ?_
  refine fa_c (s_ri dX2_looseOfRank_30 rfl) ?_
  refine fa_c (s_inc dX2_looseOfRank_31 (by decide) (by decide)) ?_
  refine fa_c (s_go dX2_looseOfRank_34 (by decide)) ?_
  refine fa_c (s_iconst dX2_looseOfRank_37 (by decide)) ?_
  refine fa_c (s_ri dX2_looseOfRank_38 rfl) ?_
  exact fun e he => absurd he List.not_mem_nil
theorem cl_X2_looseOfRank {G : GX} (hAp : Ap G) : Cl1 (Ct G mts) n_X2_looseOfRank tb_X2_looseOfRank := ct_cl (y := n_X2_looseOfRank) (yn := yX2_looseOfRank) rfl (by decide +kernel) (ok_X2_looseOfRank hAp)
theorem dX2_greatestRank_0 : decode cX2_greatestRank 0 = .ok (.iconst (-1), 1) := by decide +kernel
theorem dX2_greatestRank_1 : decode cX2_greatestRank 1 = .ok (.istore_n 1, 1) := by decide +kernel
theorem dX2_greatestRank_2 : decode cX2_greatestRank 2 = .ok (.iconst 0, 1) := by decide +kernel
theorem dX2_greatestRank_3 : decode cX2_greatestRank 3 = .ok (.istore_n 2, 1) := by decide +kernel
theorem dX2_greatestRank_4 : decode cX2_greatestRank 4 = .ok (.iload_n 2, 1) := by decide +kernel
theorem dX2_greatestRank_5 : decode cX2_greatestRank 5 = .ok (.aload_n 0, 1) := by decide +kernel
theorem dX2_greatestRank_6 : decode cX2_greatestRank 6 = .ok (.getfield 44, 3) := by decide +kernel
theorem dX2_greatestRank_9 : decode cX2_greatestRank 9 = .ok (.if_icmp .ge 29, 3) := by decide +kernel
theorem dX2_greatestRank_12 : decode cX2_greatestRank 12 = .ok (.aload_n 0, 1) := by decide +kernel
theorem dX2_greatestRank_13 : decode cX2_greatestRank 13 = .ok (.getfield 34, 3) := by decide +kernel
theorem dX2_greatestRank_16 : decode cX2_greatestRank 16 = .ok (.iload_n 2, 1) := by decide +kernel
theorem dX2_greatestRank_17 : decode cX2_greatestRank 17 = .ok (.baload, 1) := by decide +kernel
theorem dX2_greatestRank_18 : decode cX2_greatestRank 18 = .ok (.ifCond .eq 14, 3) := by decide +kernel
theorem dX2_greatestRank_21 : decode cX2_greatestRank 21 = .ok (.iload_n 1, 1) := by decide +kernel
theorem dX2_greatestRank_22 : decode cX2_greatestRank 22 = .ok (.aload_n 0, 1) := by decide +kernel
theorem dX2_greatestRank_23 : decode cX2_greatestRank 23 = .ok (.getfield 25, 3) := by decide +kernel
theorem dX2_greatestRank_26 : decode cX2_greatestRank 26 = .ok (.iload_n 2, 1) := by decide +kernel
theorem dX2_greatestRank_27 : decode cX2_greatestRank 27 = .ok (.iaload, 1) := by decide +kernel
theorem dX2_greatestRank_28 : decode cX2_greatestRank 28 = .ok (.invokestatic 112, 3) := by decide +kernel
theorem dX2_greatestRank_31 : decode cX2_greatestRank 31 = .ok (.istore_n 1, 1) := by decide +kernel
theorem dX2_greatestRank_32 : decode cX2_greatestRank 32 = .ok (.iinc 2 1, 3) := by decide +kernel
theorem dX2_greatestRank_35 : decode cX2_greatestRank 35 = .ok (.goto (-31), 3) := by decide +kernel
theorem dX2_greatestRank_38 : decode cX2_greatestRank 38 = .ok (.iload_n 1, 1) := by decide +kernel
theorem dX2_greatestRank_39 : decode cX2_greatestRank 39 = .ok (.ireturn, 1) := by decide +kernel
set_option maxRecDepth 100000 in
theorem ok_X2_greatestRank {G : GX} (hAp : Ap G) : ∀ d, ∀ e ∈ tb_X2_greatestRank, Snd G mts yX2_greatestRank.cls cX2_greatestRank 3 (some .int) d none e.1 e.2 := by
  intro d
  unfold tb_X2_greatestRank
  refine fa_c (s_iconst dX2_greatestRank_0 (by decide)) ?_
  refine fa_c (s_st_n dX2_greatestRank_1 rfl (by decide)) ?_
  refine fa_c (s_iconst dX2_greatestRank_2 (by decide)) ?_
  refine fa_c (s_st_n dX2_greatestRank_3 rfl (by decide)) ?_
  refine fa_c (s_li_n dX2_greatestRank_4 rfl) ?_
  refine fa_c (s_la_n dX2_greatestRank_5 rfl) ?_
  refine fa_c (gf_X2_10 w_81 dX2_greatestRank_6) ?_
  refine fa_c (s_ic_ge dX2_greatestRank_9 (by decide)) ?_
  refine fa_c (s_la_n dX2_greatestRank_12 rfl) ?_
  refine fa_c (gf_X2_7 w_78 dX2_greatestRank_13) ?_
  refine fa_c (s_li_n dX2_greatestRank_16 rfl) ?_
  refine fa_c (s_ba dX2_greatestRank_17) ?_
  refine fa_c (s_if_eq dX2_greatestRank_18 (by decide)) ?_
  refine fa_c (s_li_n dX2_greatestRank_21 rfl) ?_
  refine fa_c (s_la_n dX2_greatestRank_22 rfl) ?_
  refine fa_c (gf_X2_4 w_75 dX2_greatestRank_23) ?_
  refine fa_c (s_li_n dX2_greatestRank_26 rfl) ?_
  refine fa_c (s_ia dX2_greatestRank_27) ?_
  refine fa_c (s_max dX2_greatestRank_28 w_396 w_397 w_54 w_398) ?_
  refine fa_c (s_st_n dX2_greatestRank_31 rfl (by decide)) ?_
  refine fa_c (s_inc dX2_greatestRank_32 (by decide) (by decide)) ?_
  refine fa_c (s_go dX2_greatestRank_35 (by decide)) ?_
  refine fa_c (s_li_n dX2_greatestRank_38 rfl) ?_
  refine fa_c (s_ri dX2_greatestRank_39 rfl) ?_
  exact fun e he => absurd he List.not_mem_nil
theorem cl_X2_greatestRank {G : GX} (hAp : Ap G) : Cl1 (Ct G mts) n_X2_greatestRank tb_X2_greatestRank := ct_cl (y := n_X2_greatestRank) (yn := yX2_greatestRank) rfl (by decide +kernel) (ok_X2_greatestRank hAp)

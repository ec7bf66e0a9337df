/-! LooseHeapModel() -/
section INI7
variable {l : Launch} {D : va_G} {cI cB : ClassId}
abbrev lModel (cI cB : ClassId) (b q1 q2 q3 q4 q5 q6 q7 q8 q9 q10 q11 q12 q13 : Nat) (g : Nat → Int32) : va_W := [(b, .inr (6, [.int 0, .ref q1, .ref q2, .ref q3, .ref q4, .ref q5, .ref q6, .int 0, .int 0, .int 0, .int 0, .int 0, .ref q7, .int 0, .int 0, .ref q8, .ref q9, .ref q10, .ref q11, .int 0, .int 0, .int 0, .ref q12, .ref q13, .long 0])), (q1, .inl (cI, 48, .inl (fun _ => 0))), (q2, .inl (cI, 48, .inl (fun _ => 0))), (q3, .inl (cB, 48, .inl (fun _ => 0))), (q4, .inl (cI, 48, .inl (fun _ => 0))), (q5, .inl (cB, 48, .inl (fun _ => 0))), (q6, .inl (cI, 48, .inl (fun _ => 0))), (q7, .inl (cI, 16, .inl (g))), (q8, .inl (cI, 14, .inl (fun _ => 0))), (q9, .inl (cI, 14, .inl (fun _ => 0))), (q10, .inl (cI, 14, .inl (fun _ => 0))), (q11, .inl (cI, 8, .inl (fun _ => 0))), (q12, .inl (cI, 520, .inl (fun _ => 0))), (q13, .inl (cB, 2, .inl (fun _ => 0)))]
def wModel (cI cB : ClassId) (b : Nat) (w : va_W) : Prop := ∃ (q1 q2 q3 q4 q5 q6 q7 q8 q9 q10 q11 q12 q13 : Nat) (g : Nat → Int32), (∀ j, j < 16 → g j = -1) ∧ w = lModel cI cB b q1 q2 q3 q4 q5 q6 q7 q8 q9 q10 q11 q12 q13 g
set_option maxRecDepth 20000 in
theorem model_loop {p : Program} {e : Env} {R : Room} {s : State} {m : MethodId} {args : Array Value} {below : List Frame} {meth : Method} {c : Code} {H0 : Heap} {cells slots : Nat} {Z : State → Prop} {A : Nat → Prop} {b q1 q2 q3 q4 q5 q6 q7 q8 q9 q10 q11 q12 q13 : Nat} (F : CF p c cX7_init 2 s args RX7 m A H0 cI cB) (hK : va_K D vwCl [(cI, .int)] s) (hend : ∀ (g : Nat → Int32) (H : Heap) (locs : List Loc) (ls : Array Slot), CV D s (lModel cI cB b q1 q2 q3 q4 q5 q6 q7 q8 q9 q10 q11 q12 q13 g) H locs A H0 → (∀ j, j < 16 → g j = -1) → W p l e R s m args below meth c H locs cells slots Z (F0 m 129 ls [])) : ∀ (k i : Nat) (g : Nat → Int32) (H : Heap) (locs : List Loc) (ls : Array Slot) (lv : List (Nat × Value)), i + k = 16 → lv_has ls 2 lv → (0, Value.ref b) ∈ lv → (1, Value.int (nI i)) ∈ lv → CV D s (lModel cI cB b q1 q2 q3 q4 q5 q6 q7 q8 q9 q10 q11 q12 q13 g) H locs A H0 → (∀ j, j < i → g j = -1) → W p l e R s m args below meth c H locs cells slots Z (F0 m 110 ls []) := by
  obtain ⟨f1, f2, f3, f4, f5, f6, f7, f8⟩ := F
  intro k
  induction k with
  | zero =>
    intro i g H locs ls lv hi h1 m0 m1 I hg
    have ei : i = 16 := by omega
    subst ei
    obtain ⟨k1, e1⟩ := List.getElem?_of_mem m1
    refine lv_iload_n f1 f2 dX7_init_110 rfl (lv_at h1 k1 e1) ?_
    refine lv_bipush (v := nI 16) f1 f2 dX7_init_111 (by decide) ?_
    refine lv_icmp_ge (tgt := 129) f1 f2 dX7_init_113 (by decide) (fun _ => ?_) (fun q => absurd (Int32.le_refl _) q)
    exact hend g H locs ls I hg
  | succ k ih =>
    intro i g H locs ls lv hi h1 m0 m1 I hg
    have hiN : i < 16 := by omega
    obtain ⟨k0, e0⟩ := List.getElem?_of_mem m0
    obtain ⟨k1, e1⟩ := List.getElem?_of_mem m1
    obtain ⟨hK0, hP, hD, hS⟩ := I
    refine lv_iload_n f1 f2 dX7_init_110 rfl (lv_at h1 k1 e1) ?_
    refine lv_bipush (v := nI 16) f1 f2 dX7_init_111 (by decide) ?_
    refine lv_icmp_ge (tgt := 129) f1 f2 dX7_init_113 (by decide) (fun q => absurd q (nI_ge hiN (by omega))) (fun _ => ?_)
    refine lv_aload_n f1 f2 dX7_init_116 rfl (lv_at h1 k0 e0) ?_
    refine va_get (D := D) (cl := vwCl) (ci := 6) (v := .ref q7) (C := RX7) (T := TX7) (N := 25) f1 f2 f5 co_X7.2.2.1 f4 hK0 hP 0 rfl rfl 12 (by decide) (f5 _ w_645) (fun _ h9 => h9) rfl dX7_init_117 ?_
    refine lv_iload_n f1 f2 dX7_init_120 rfl (lv_at h1 k1 e1) ?_
    refine lv_iconst (v := -1) f1 f2 dX7_init_121 (by decide) ?_
    refine va_iast f1 f2 hK hP hD hS 7 0 rfl rfl (vp_in_nI hiN (by omega)) dX7_init_122 (fun H1 locs1 hP hD hS => ?_)
    have ci : (nI i).toNatClampNeg = i := nI_clamp (by omega)
    rw [ci] at hP hD
    refine lv_iinc (v := nI (i + 1)) f1 f2 dX7_init_123 h1 (k := k1) e1 (nI_1 i) (by decide) rfl (fun ls3 hl3 => ?_)
    refine lv_goto (tgt := 110) f1 f2 dX7_init_126 (by decide) ?_
    refine ih (i + 1) (upd g i (-1)) H1 locs1 ls3 _ (by omega) hl3 (List.mem_cons_of_mem _ (List.mem_filter.mpr ⟨m0, rfl⟩)) List.mem_cons_self ⟨hK0, hP, hD, hS⟩ (fun j hj => ?_)
    by_cases q : j = i
    · rw [q]; exact pk_us
    · rw [pk_un q]; exact hg j (by omega)
set_option maxRecDepth 20000 in
theorem i_X7 : Ini l D cI cB yX7_init cX7_init 2 1 12 6 [.int 0, .null, .null, .null, .null, .null, .null, .int 0, .int 0, .int 0, .int 0, .int 0, .null, .int 0, .int 0, .null, .null, .null, .null, .int 0, .int 0, .int 0, .null, .null, .long 0] [] 13 876 (fun b w ty => wModel cI cB b w ∧ ty = [(cI, .int), (cB, .boolean)]) := by
  intro b sz
  refine Met.ofW (cc := cX7_init) (maxL := 2) (ret := none) (by decide +kernel) rfl ?_
  intro p e s m args below meth c s₁ B hml hv
  obtain ⟨rfl, hsz, hP, hK, hD0, hfi, hfz⟩ := hv
  have hts := atoms_spec (ws := Cond.code yX7_init cX7_init 2 none :: tW) B.pre
  have hown : s.vm.findClass RX7 = some m.cls := findClass_of_methodNamed B.named
  have hin : meth.name = "<init>" := (name_of_methodNamed B.named B.method).1
  subst hsz
  have hD := hD0.self (sz := s.heap.size)
  generalize hAe : va_A [(b, .inr (6, [.int 0, .null, .null, .null, .null, .null, .null, .int 0, .int 0, .int 0, .int 0, .int 0, .null, .int 0, .int 0, .null, .null, .null, .null, .int 0, .int 0, .int 0, .null, .null, .long 0]))] s.heap.size = A at hD ⊢
  have hA : ∀ q : Nat, s.heap.size ≤ q → A q := fun q h => by rw [← hAe]; exact Or.inr h
  have htw : ∀ w ∈ tW, w.before _ s = true := fun w hw => hts w (List.mem_cons_of_mem _ hw)
  have F : CF p c cX7_init 2 s _ RX7 m A s.heap cI cB := ⟨B.exec, B.bytes, hml, hown, htw, hA, hfi, hfz⟩
  have I : CV D s [(b, .inr (6, [.int 0, .null, .null, .null, .null, .null, .null, .int 0, .int 0, .int 0, .int 0, .int 0, .null, .int 0, .int 0, .null, .null, .null, .null, .int 0, .int 0, .int 0, .null, .null, .long 0]))] s.heap [] A s.heap := ⟨hK, hP, hD, va_S.rf⟩
  have hl := lv_entry ([.ref b]) (n := 2) (Nat.le_of_ble_eq_true rfl)
  rw [lg_entry_eq]
  generalize (lg_sl ([.ref b]) ++ List.replicate (2 - (lg_sl ([.ref b])).length) Slot.unset).toArray = ls at hl ⊢
  have hl : lv_has ls 2 [(0, .ref b)] := hl
  refine lv_aload_n B.exec B.bytes dX7_init_0 rfl (lv_at hl 0 rfl) ?_
  refine k_obj F w_632 hl.1 dX7_init_1 (Nat.le_of_ble_eq_true rfl) (Nat.le_of_ble_eq_true rfl) ?_
  refine lv_aload_n B.exec B.bytes dX7_init_4 rfl (lv_at hl 0 rfl) ?_
  refine lv_bipush (v := 48) B.exec B.bytes dX7_init_5 (by decide) ?_
  refine k_int (N := 48) F I (by decide) rfl (by omega) (Nat.le_of_ble_eq_true rfl) (Nat.le_of_ble_eq_true rfl) dX7_init_7 (fun q1 H kk1 I => ?_)
  refine k_putF F hin I co_X7 0 rfl 1 (by decide) w_634 rfl rfl (ty := .array .int) (by decide +kernel) rfl rfl (Nat.le_of_ble_eq_true rfl) dX7_init_9 (fun H locs I => ?_)
  have I : CV D s [(b, .inr (6, [.int 0, .ref q1, .null, .null, .null, .null, .null, .int 0, .int 0, .int 0, .int 0, .int 0, .null, .int 0, .int 0, .null, .null, .null, .null, .int 0, .int 0, .int 0, .null, .null, .long 0])), (q1, .inl (cI, 48, .inl (fun _ => 0)))] H locs A s.heap := I
  refine lv_aload_n B.exec B.bytes dX7_init_12 rfl (lv_at hl 0 rfl) ?_
  refine lv_bipush (v := 48) B.exec B.bytes dX7_init_13 (by decide) ?_
  refine k_int (N := 48) F I (by decide) rfl (by omega) (Nat.le_of_ble_eq_true rfl) (Nat.le_of_ble_eq_true rfl) dX7_init_15 (fun q2 H kk2 I => ?_)
  refine k_putF F hin I co_X7 0 rfl 2 (by decide) w_635 rfl rfl (ty := .array .int) (by decide +kernel) rfl rfl (Nat.le_of_ble_eq_true rfl) dX7_init_17 (fun H locs I => ?_)
  have I : CV D s [(b, .inr (6, [.int 0, .ref q1, .ref q2, .null, .null, .null, .null, .int 0, .int 0, .int 0, .int 0, .int 0, .null, .int 0, .int 0, .null, .null, .null, .null, .int 0, .int 0, .int 0, .null, .null, .long 0])), (q1, .inl (cI, 48, .inl (fun _ => 0))), (q2, .inl (cI, 48, .inl (fun _ => 0)))] H locs A s.heap := I
  refine lv_aload_n B.exec B.bytes dX7_init_20 rfl (lv_at hl 0 rfl) ?_
  refine lv_bipush (v := 48) B.exec B.bytes dX7_init_21 (by decide) ?_
  refine k_bool (N := 48) F I (by decide) rfl (by omega) (Nat.le_of_ble_eq_true rfl) (Nat.le_of_ble_eq_true rfl) dX7_init_23 (fun q3 H kk3 I => ?_)
  refine k_putF F hin I co_X7 0 rfl 3 (by decide) w_636 rfl rfl (ty := .array .boolean) (by decide +kernel) rfl rfl (Nat.le_of_ble_eq_true rfl) dX7_init_25 (fun H locs I => ?_)
  have I : CV D s [(b, .inr (6, [.int 0, .ref q1, .ref q2, .ref q3, .null, .null, .null, .int 0, .int 0, .int 0, .int 0, .int 0, .null, .int 0, .int 0, .null, .null, .null, .null, .int 0, .int 0, .int 0, .null, .null, .long 0])), (q1, .inl (cI, 48, .inl (fun _ => 0))), (q2, .inl (cI, 48, .inl (fun _ => 0))), (q3, .inl (cB, 48, .inl (fun _ => 0)))] H locs A s.heap := I
  refine lv_aload_n B.exec B.bytes dX7_init_28 rfl (lv_at hl 0 rfl) ?_
  refine lv_bipush (v := 48) B.exec B.bytes dX7_init_29 (by decide) ?_
  refine k_int (N := 48) F I (by decide) rfl (by omega) (Nat.le_of_ble_eq_true rfl) (Nat.le_of_ble_eq_true rfl) dX7_init_31 (fun q4 H kk4 I => ?_)
  refine k_putF F hin I co_X7 0 rfl 4 (by decide) w_637 rfl rfl (ty := .array .int) (by decide +kernel) rfl rfl (Nat.le_of_ble_eq_true rfl) dX7_init_33 (fun H locs I => ?_)
  have I : CV D s [(b, .inr (6, [.int 0, .ref q1, .ref q2, .ref q3, .ref q4, .null, .null, .int 0, .int 0, .int 0, .int 0, .int 0, .null, .int 0, .int 0, .null, .null, .null, .null, .int 0, .int 0, .int 0, .null, .null, .long 0])), (q1, .inl (cI, 48, .inl (fun _ => 0))), (q2, .inl (cI, 48, .inl (fun _ => 0))), (q3, .inl (cB, 48, .inl (fun _ => 0))), (q4, .inl (cI, 48, .inl (fun _ => 0)))] H locs A s.heap := I
  refine lv_aload_n B.exec B.bytes dX7_init_36 rfl (lv_at hl 0 rfl) ?_
  refine lv_bipush (v := 48) B.exec B.bytes dX7_init_37 (by decide) ?_
  refine k_bool (N := 48) F I (by decide) rfl (by omega) (Nat.le_of_ble_eq_true rfl) (Nat.le_of_ble_eq_true rfl) dX7_init_39 (fun q5 H kk5 I => ?_)
  refine k_putF F hin I co_X7 0 rfl 5 (by decide) w_638 rfl rfl (ty := .array .boolean) (by decide +kernel) rfl rfl (Nat.le_of_ble_eq_true rfl) dX7_init_41 (fun H locs I => ?_)
  have I : CV D s [(b, .inr (6, [.int 0, .ref q1, .ref q2, .ref q3, .ref q4, .ref q5, .null, .int 0, .int 0, .int 0, .int 0, .int 0, .null, .int 0, .int 0, .null, .null, .null, .null, .int 0, .int 0, .int 0, .null, .null, .long 0])), (q1, .inl (cI, 48, .inl (fun _ => 0))), (q2, .inl (cI, 48, .inl (fun _ => 0))), (q3, .inl (cB, 48, .inl (fun _ => 0))), (q4, .inl (cI, 48, .inl (fun _ => 0))), (q5, .inl (cB, 48, .inl (fun _ => 0)))] H locs A s.heap := I
  refine lv_aload_n B.exec B.bytes dX7_init_44 rfl (lv_at hl 0 rfl) ?_
  refine lv_bipush (v := 48) B.exec B.bytes dX7_init_45 (by decide) ?_
  refine k_int (N := 48) F I (by decide) rfl (by omega) (Nat.le_of_ble_eq_true rfl) (Nat.le_of_ble_eq_true rfl) dX7_init_47 (fun q6 H kk6 I => ?_)
  refine k_putF F hin I co_X7 0 rfl 6 (by decide) w_639 rfl rfl (ty := .array .int) (by decide +kernel) rfl rfl (Nat.le_of_ble_eq_true rfl) dX7_init_49 (fun H locs I => ?_)
  have I : CV D s [(b, .inr (6, [.int 0, .ref q1, .ref q2, .ref q3, .ref q4, .ref q5, .ref q6, .int 0, .int 0, .int 0, .int 0, .int 0, .null, .int 0, .int 0, .null, .null, .null, .null, .int 0, .int 0, .int 0, .null, .null, .long 0])), (q1, .inl (cI, 48, .inl (fun _ => 0))), (q2, .inl (cI, 48, .inl (fun _ => 0))), (q3, .inl (cB, 48, .inl (fun _ => 0))), (q4, .inl (cI, 48, .inl (fun _ => 0))), (q5, .inl (cB, 48, .inl (fun _ => 0))), (q6, .inl (cI, 48, .inl (fun _ => 0)))] H locs A s.heap := I
  refine lv_aload_n B.exec B.bytes dX7_init_52 rfl (lv_at hl 0 rfl) ?_
  refine lv_bipush (v := 16) B.exec B.bytes dX7_init_53 (by decide) ?_
  refine k_int (N := 16) F I (by decide) rfl (by omega) (Nat.le_of_ble_eq_true rfl) (Nat.le_of_ble_eq_true rfl) dX7_init_55 (fun q7 H kk7 I => ?_)
  refine k_putF F hin I co_X7 0 rfl 12 (by decide) w_645 rfl rfl (ty := .array .int) (by decide +kernel) rfl rfl (Nat.le_of_ble_eq_true rfl) dX7_init_57 (fun H locs I => ?_)
  have I : CV D s [(b, .inr (6, [.int 0, .ref q1, .ref q2, .ref q3, .ref q4, .ref q5, .ref q6, .int 0, .int 0, .int 0, .int 0, .int 0, .ref q7, .int 0, .int 0, .null, .null, .null, .null, .int 0, .int 0, .int 0, .null, .null, .long 0])), (q1, .inl (cI, 48, .inl (fun _ => 0))), (q2, .inl (cI, 48, .inl (fun _ => 0))), (q3, .inl (cB, 48, .inl (fun _ => 0))), (q4, .inl (cI, 48, .inl (fun _ => 0))), (q5, .inl (cB, 48, .inl (fun _ => 0))), (q6, .inl (cI, 48, .inl (fun _ => 0))), (q7, .inl (cI, 16, .inl (fun _ => 0)))] H locs A s.heap := I
  refine lv_aload_n B.exec B.bytes dX7_init_60 rfl (lv_at hl 0 rfl) ?_
  refine lv_bipush (v := 14) B.exec B.bytes dX7_init_61 (by decide) ?_
  refine k_int (N := 14) F I (by decide) rfl (by omega) (Nat.le_of_ble_eq_true rfl) (Nat.le_of_ble_eq_true rfl) dX7_init_63 (fun q8 H kk8 I => ?_)
  refine k_putF F hin I co_X7 0 rfl 15 (by decide) w_648 rfl rfl (ty := .array .int) (by decide +kernel) rfl rfl (Nat.le_of_ble_eq_true rfl) dX7_init_65 (fun H locs I => ?_)
  have I : CV D s [(b, .inr (6, [.int 0, .ref q1, .ref q2, .ref q3, .ref q4, .ref q5, .ref q6, .int 0, .int 0, .int 0, .int 0, .int 0, .ref q7, .int 0, .int 0, .ref q8, .null, .null, .null, .int 0, .int 0, .int 0, .null, .null, .long 0])), (q1, .inl (cI, 48, .inl (fun _ => 0))), (q2, .inl (cI, 48, .inl (fun _ => 0))), (q3, .inl (cB, 48, .inl (fun _ => 0))), (q4, .inl (cI, 48, .inl (fun _ => 0))), (q5, .inl (cB, 48, .inl (fun _ => 0))), (q6, .inl (cI, 48, .inl (fun _ => 0))), (q7, .inl (cI, 16, .inl (fun _ => 0))), (q8, .inl (cI, 14, .inl (fun _ => 0)))] H locs A s.heap := I
  refine lv_aload_n B.exec B.bytes dX7_init_68 rfl (lv_at hl 0 rfl) ?_
  refine lv_bipush (v := 14) B.exec B.bytes dX7_init_69 (by decide) ?_
  refine k_int (N := 14) F I (by decide) rfl (by omega) (Nat.le_of_ble_eq_true rfl) (Nat.le_of_ble_eq_true rfl) dX7_init_71 (fun q9 H kk9 I => ?_)
  refine k_putF F hin I co_X7 0 rfl 16 (by decide) w_649 rfl rfl (ty := .array .int) (by decide +kernel) rfl rfl (Nat.le_of_ble_eq_true rfl) dX7_init_73 (fun H locs I => ?_)
  have I : CV D s [(b, .inr (6, [.int 0, .ref q1, .ref q2, .ref q3, .ref q4, .ref q5, .ref q6, .int 0, .int 0, .int 0, .int 0, .int 0, .ref q7, .int 0, .int 0, .ref q8, .ref q9, .null, .null, .int 0, .int 0, .int 0, .null, .null, .long 0])), (q1, .inl (cI, 48, .inl (fun _ => 0))), (q2, .inl (cI, 48, .inl (fun _ => 0))), (q3, .inl (cB, 48, .inl (fun _ => 0))), (q4, .inl (cI, 48, .inl (fun _ => 0))), (q5, .inl (cB, 48, .inl (fun _ => 0))), (q6, .inl (cI, 48, .inl (fun _ => 0))), (q7, .inl (cI, 16, .inl (fun _ => 0))), (q8, .inl (cI, 14, .inl (fun _ => 0))), (q9, .inl (cI, 14, .inl (fun _ => 0)))] H locs A s.heap := I
  refine lv_aload_n B.exec B.bytes dX7_init_76 rfl (lv_at hl 0 rfl) ?_
  refine lv_bipush (v := 14) B.exec B.bytes dX7_init_77 (by decide) ?_
  refine k_int (N := 14) F I (by decide) rfl (by omega) (Nat.le_of_ble_eq_true rfl) (Nat.le_of_ble_eq_true rfl) dX7_init_79 (fun q10 H kk10 I => ?_)
  refine k_putF F hin I co_X7 0 rfl 17 (by decide) w_650 rfl rfl (ty := .array .int) (by decide +kernel) rfl rfl (Nat.le_of_ble_eq_true rfl) dX7_init_81 (fun H locs I => ?_)
  have I : CV D s [(b, .inr (6, [.int 0, .ref q1, .ref q2, .ref q3, .ref q4, .ref q5, .ref q6, .int 0, .int 0, .int 0, .int 0, .int 0, .ref q7, .int 0, .int 0, .ref q8, .ref q9, .ref q10, .null, .int 0, .int 0, .int 0, .null, .null, .long 0])), (q1, .inl (cI, 48, .inl (fun _ => 0))), (q2, .inl (cI, 48, .inl (fun _ => 0))), (q3, .inl (cB, 48, .inl (fun _ => 0))), (q4, .inl (cI, 48, .inl (fun _ => 0))), (q5, .inl (cB, 48, .inl (fun _ => 0))), (q6, .inl (cI, 48, .inl (fun _ => 0))), (q7, .inl (cI, 16, .inl (fun _ => 0))), (q8, .inl (cI, 14, .inl (fun _ => 0))), (q9, .inl (cI, 14, .inl (fun _ => 0))), (q10, .inl (cI, 14, .inl (fun _ => 0)))] H locs A s.heap := I
  refine lv_aload_n B.exec B.bytes dX7_init_84 rfl (lv_at hl 0 rfl) ?_
  refine lv_bipush (v := 8) B.exec B.bytes dX7_init_85 (by decide) ?_
  refine k_int (N := 8) F I (by decide) rfl (by omega) (Nat.le_of_ble_eq_true rfl) (Nat.le_of_ble_eq_true rfl) dX7_init_87 (fun q11 H kk11 I => ?_)
  refine k_putF F hin I co_X7 0 rfl 18 (by decide) w_651 rfl rfl (ty := .array .int) (by decide +kernel) rfl rfl (Nat.le_of_ble_eq_true rfl) dX7_init_89 (fun H locs I => ?_)
  have I : CV D s [(b, .inr (6, [.int 0, .ref q1, .ref q2, .ref q3, .ref q4, .ref q5, .ref q6, .int 0, .int 0, .int 0, .int 0, .int 0, .ref q7, .int 0, .int 0, .ref q8, .ref q9, .ref q10, .ref q11, .int 0, .int 0, .int 0, .null, .null, .long 0])), (q1, .inl (cI, 48, .inl (fun _ => 0))), (q2, .inl (cI, 48, .inl (fun _ => 0))), (q3, .inl (cB, 48, .inl (fun _ => 0))), (q4, .inl (cI, 48, .inl (fun _ => 0))), (q5, .inl (cB, 48, .inl (fun _ => 0))), (q6, .inl (cI, 48, .inl (fun _ => 0))), (q7, .inl (cI, 16, .inl (fun _ => 0))), (q8, .inl (cI, 14, .inl (fun _ => 0))), (q9, .inl (cI, 14, .inl (fun _ => 0))), (q10, .inl (cI, 14, .inl (fun _ => 0))), (q11, .inl (cI, 8, .inl (fun _ => 0)))] H locs A s.heap := I
  refine lv_aload_n B.exec B.bytes dX7_init_92 rfl (lv_at hl 0 rfl) ?_
  refine lv_sipush (v := 520) B.exec B.bytes dX7_init_93 (by decide) ?_
  refine k_int (N := 520) F I (by decide) rfl (by omega) (Nat.le_of_ble_eq_true rfl) (Nat.le_of_ble_eq_true rfl) dX7_init_96 (fun q12 H kk12 I => ?_)
  refine k_putF F hin I co_X7 0 rfl 22 (by decide) w_655 rfl rfl (ty := .array .int) (by decide +kernel) rfl rfl (Nat.le_of_ble_eq_true rfl) dX7_init_98 (fun H locs I => ?_)
  have I : CV D s [(b, .inr (6, [.int 0, .ref q1, .ref q2, .ref q3, .ref q4, .ref q5, .ref q6, .int 0, .int 0, .int 0, .int 0, .int 0, .ref q7, .int 0, .int 0, .ref q8, .ref q9, .ref q10, .ref q11, .int 0, .int 0, .int 0, .ref q12, .null, .long 0])), (q1, .inl (cI, 48, .inl (fun _ => 0))), (q2, .inl (cI, 48, .inl (fun _ => 0))), (q3, .inl (cB, 48, .inl (fun _ => 0))), (q4, .inl (cI, 48, .inl (fun _ => 0))), (q5, .inl (cB, 48, .inl (fun _ => 0))), (q6, .inl (cI, 48, .inl (fun _ => 0))), (q7, .inl (cI, 16, .inl (fun _ => 0))), (q8, .inl (cI, 14, .inl (fun _ => 0))), (q9, .inl (cI, 14, .inl (fun _ => 0))), (q10, .inl (cI, 14, .inl (fun _ => 0))), (q11, .inl (cI, 8, .inl (fun _ => 0))), (q12, .inl (cI, 520, .inl (fun _ => 0)))] H locs A s.heap := I
  refine lv_aload_n B.exec B.bytes dX7_init_101 rfl (lv_at hl 0 rfl) ?_
  refine lv_iconst (v := 2) B.exec B.bytes dX7_init_102 (by decide) ?_
  refine k_bool (N := 2) F I (by decide) rfl (by omega) (Nat.le_of_ble_eq_true rfl) (Nat.le_of_ble_eq_true rfl) dX7_init_103 (fun q13 H kk13 I => ?_)
  refine k_putF F hin I co_X7 0 rfl 23 (by decide) w_656 rfl rfl (ty := .array .boolean) (by decide +kernel) rfl rfl (Nat.le_of_ble_eq_true rfl) dX7_init_105 (fun H locs I => ?_)
  have I : CV D s [(b, .inr (6, [.int 0, .ref q1, .ref q2, .ref q3, .ref q4, .ref q5, .ref q6, .int 0, .int 0, .int 0, .int 0, .int 0, .ref q7, .int 0, .int 0, .ref q8, .ref q9, .ref q10, .ref q11, .int 0, .int 0, .int 0, .ref q12, .ref q13, .long 0])), (q1, .inl (cI, 48, .inl (fun _ => 0))), (q2, .inl (cI, 48, .inl (fun _ => 0))), (q3, .inl (cB, 48, .inl (fun _ => 0))), (q4, .inl (cI, 48, .inl (fun _ => 0))), (q5, .inl (cB, 48, .inl (fun _ => 0))), (q6, .inl (cI, 48, .inl (fun _ => 0))), (q7, .inl (cI, 16, .inl (fun _ => 0))), (q8, .inl (cI, 14, .inl (fun _ => 0))), (q9, .inl (cI, 14, .inl (fun _ => 0))), (q10, .inl (cI, 14, .inl (fun _ => 0))), (q11, .inl (cI, 8, .inl (fun _ => 0))), (q12, .inl (cI, 520, .inl (fun _ => 0))), (q13, .inl (cB, 2, .inl (fun _ => 0)))] H locs A s.heap := I
  refine lv_iconst (v := 0) B.exec B.bytes dX7_init_108 (by decide) ?_
  refine lv_istore_n B.exec B.bytes dX7_init_109 rfl hl (by decide) rfl (fun ls1 hl1 => ?_)
  have hl1 : lv_has ls1 2 [(1, .int (nI 0)), (0, .ref b)] := hl1
  refine W.widen (k := 13) (n := 876) (Nat.le_of_ble_eq_true rfl) (Nat.le_of_ble_eq_true rfl) ?_
  refine model_loop F kk1 (fun g H locs ls I hg => ?_) 16 0 (fun _ => 0) H locs ls1 _ (by omega) hl1 (by simp) (by simp) I (fun j hj => absurd hj (Nat.not_lt_zero j))
  obtain ⟨i1, i2, i3, i4⟩ := I
  exact W.vret B.exec B.bytes B.returns (fun t ht hW => ⟨⟨(lModel cI cB b q1 q2 q3 q4 q5 q6 q7 q8 q9 q10 q11 q12 q13 g, [(cI, .int), (cB, .boolean)]), rfl, ⟨⟨q1, q2, q3, q4, q5, q6, q7, q8, q9, q10, q11, q12, q13, g, hg, rfl⟩, rfl⟩, by rw [ht]; exact i2, va_K.moved hW.alike (kk1.app kk3), i3⟩, i4.F ht⟩) i4.2.2 dX7_init_129
end INI7

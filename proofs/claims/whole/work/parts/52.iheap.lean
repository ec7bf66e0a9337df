section INI2
variable {p : Program} {l : Launch} {e : Env} {D : va_G} {cI cB : ClassId}
def wHeap (cI cB : ClassId) (r b : Nat) (w : va_W) : Prop := ∃ q1 q2 q3 q4 q5 q6 q7 q8 q9 : Nat, w = [(b, .inr (1, [.int (nI r), .ref q1, .ref q2, .ref q3, .ref q4, .ref q5, .ref q6, .ref q7, .ref q8, .ref q9, .int 0, .int 0, .int 0, .int 0, .int 0])), (q1, .inl (cI, r, .inl (fun _ => 0))), (q2, .inl (cI, r, .inl (fun _ => 0))), (q3, .inl (cI, r, .inl (fun _ => 0))), (q4, .inl (cI, r, .inl (fun _ => 0))), (q5, .inl (cI, r, .inl (fun _ => 0))), (q6, .inl (cI, r, .inl (fun _ => 0))), (q7, .inl (cB, r, .inl (fun _ => 0))), (q8, .inl (cB, r, .inl (fun _ => 0))), (q9, .inl (cI, r, .inl (fun _ => 0)))]
abbrev fHeap : List Value := [.int 0, .null, .null, .null, .null, .null, .null, .null, .null, .null, .int 0, .int 0, .int 0, .int 0, .int 0]
set_option maxRecDepth 20000 in
/-- Heap(room) -/
theorem i_X2 {r : Nat} (hr : r ≤ 40) : Ini l D cI cB yX2_init cX2_init 2 1 12 1 fHeap [.int (nI r)] 9 360 (fun b w ty => wHeap cI cB r b w ∧ ty = [(cI, .int), (cB, .boolean)]) := by
  intro b sz
  refine Met.ofW (cc := cX2_init) (maxL := 2) (ret := none) (by decide +kernel) rfl ?_
  intro p e s m args below meth c s₁ B hml hv
  obtain ⟨rfl, hsz, hP, hK, hD0, hfi, hfz⟩ := hv
  have hts := atoms_spec (ws := Cond.code yX2_init cX2_init 2 none :: tW) B.pre
  have hown : s.vm.findClass RX2 = some m.cls := findClass_of_methodNamed B.named
  have hin : meth.name = "<init>" := (name_of_methodNamed B.named B.method).1
  subst hsz
  have hD := hD0.self (sz := s.heap.size)
  generalize hAe : va_A [(b, .inr (1, fHeap))] s.heap.size = A at hD ⊢
  have hA : ∀ q : Nat, s.heap.size ≤ q → A q := fun q h => by rw [← hAe]; exact Or.inr h
  have F : CF p c cX2_init 2 s _ RX2 m A s.heap cI cB := ⟨B.exec, B.bytes, hml, hown, fun w hw => hts w (List.mem_cons_of_mem _ hw), hA, hfi, hfz⟩
  have I : CV D s [(b, .inr (1, [.int 0, .null, .null, .null, .null, .null, .null, .null, .null, .null, .int 0, .int 0, .int 0, .int 0, .int 0]))] s.heap [] A s.heap := ⟨hK, hP, hD, va_S.rf⟩
  have hl := lv_entry ([.ref b, .int (nI r)]) (n := 2) (Nat.le_of_ble_eq_true rfl)
  rw [lg_entry_eq]
  generalize (lg_sl ([.ref b, .int (nI r)]) ++ List.replicate (2 - (lg_sl ([.ref b, .int (nI r)])).length) Slot.unset).toArray = ls at hl ⊢
  have hl : lv_has ls 2 [(0, .ref b), (1, .int (nI r))] := hl
  have hn0 : ¬ nI r < 0 := fun h => by
    have := nI_toInt (n := r) (by omega)
    rw [Int32.lt_iff_toInt_lt] at h
    have h0 : (0 : Int32).toInt = 0 := by decide
    omega
  have hN0 : (nI r).toNatClampNeg = r := nI_clamp (by omega)
  refine lv_aload_n B.exec B.bytes dX2_init_0 rfl (lv_at hl 0 rfl) ?_
  refine k_obj F w_70 hl.1 dX2_init_1 (Nat.le_of_ble_eq_true rfl) (Nat.le_of_ble_eq_true rfl) ?_
  refine lv_aload_n B.exec B.bytes dX2_init_4 rfl (lv_at hl 0 rfl) ?_
  refine lv_iload_n B.exec B.bytes dX2_init_5 rfl (lv_at hl 1 rfl) ?_
  refine k_putF F hin I co_X2 0 rfl 0 (by decide) w_71 rfl rfl (ty := .int) (by decide +kernel) rfl rfl (Nat.le_of_ble_eq_true rfl) dX2_init_6 (fun H locs I => ?_)
  have I : CV D s [(b, .inr (1, [.int (nI r), .null, .null, .null, .null, .null, .null, .null, .null, .null, .int 0, .int 0, .int 0, .int 0, .int 0]))] H locs A s.heap := I
  refine lv_aload_n B.exec B.bytes dX2_init_9 rfl (lv_at hl 0 rfl) ?_
  refine lv_iload_n B.exec B.bytes dX2_init_10 rfl (lv_at hl 1 rfl) ?_
  refine k_int F I hn0 hN0 (by omega) (by show 0 + 1 ≤ 9; omega) (by show 0 + r ≤ 360; omega) dX2_init_11 (fun q1 H kk1 I => ?_)
  have I : CV D s [(b, .inr (1, [.int (nI r), .null, .null, .null, .null, .null, .null, .null, .null, .null, .int 0, .int 0, .int 0, .int 0, .int 0])), (q1, .inl (cI, r, .inl (fun _ => 0)))] H locs A s.heap := I
  refine k_putF F hin I co_X2 0 rfl 1 (by decide) w_72 rfl rfl (ty := .array .int) (by decide +kernel) rfl rfl (Nat.le_of_ble_eq_true rfl) dX2_init_13 (fun H locs I => ?_)
  have I : CV D s [(b, .inr (1, [.int (nI r), .ref q1, .null, .null, .null, .null, .null, .null, .null, .null, .int 0, .int 0, .int 0, .int 0, .int 0])), (q1, .inl (cI, r, .inl (fun _ => 0)))] H locs A s.heap := I
  refine lv_aload_n B.exec B.bytes dX2_init_16 rfl (lv_at hl 0 rfl) ?_
  refine lv_iload_n B.exec B.bytes dX2_init_17 rfl (lv_at hl 1 rfl) ?_
  refine k_int F I hn0 hN0 (by omega) (by show 1 + 1 ≤ 9; omega) (by show 0 + r + r ≤ 360; omega) dX2_init_18 (fun q2 H kk2 I => ?_)
  have I : CV D s [(b, .inr (1, [.int (nI r), .ref q1, .null, .null, .null, .null, .null, .null, .null, .null, .int 0, .int 0, .int 0, .int 0, .int 0])), (q1, .inl (cI, r, .inl (fun _ => 0))), (q2, .inl (cI, r, .inl (fun _ => 0)))] H locs A s.heap := I
  refine k_putF F hin I co_X2 0 rfl 2 (by decide) w_73 rfl rfl (ty := .array .int) (by decide +kernel) rfl rfl (Nat.le_of_ble_eq_true rfl) dX2_init_20 (fun H locs I => ?_)
  have I : CV D s [(b, .inr (1, [.int (nI r), .ref q1, .ref q2, .null, .null, .null, .null, .null, .null, .null, .int 0, .int 0, .int 0, .int 0, .int 0])), (q1, .inl (cI, r, .inl (fun _ => 0))), (q2, .inl (cI, r, .inl (fun _ => 0)))] H locs A s.heap := I
  refine lv_aload_n B.exec B.bytes dX2_init_23 rfl (lv_at hl 0 rfl) ?_
  refine lv_iload_n B.exec B.bytes dX2_init_24 rfl (lv_at hl 1 rfl) ?_
  refine k_int F I hn0 hN0 (by omega) (by show 2 + 1 ≤ 9; omega) (by show 0 + r + r + r ≤ 360; omega) dX2_init_25 (fun q3 H kk3 I => ?_)
  have I : CV D s [(b, .inr (1, [.int (nI r), .ref q1, .ref q2, .null, .null, .null, .null, .null, .null, .null, .int 0, .int 0, .int 0, .int 0, .int 0])), (q1, .inl (cI, r, .inl (fun _ => 0))), (q2, .inl (cI, r, .inl (fun _ => 0))), (q3, .inl (cI, r, .inl (fun _ => 0)))] H locs A s.heap := I
  refine k_putF F hin I co_X2 0 rfl 3 (by decide) w_74 rfl rfl (ty := .array .int) (by decide +kernel) rfl rfl (Nat.le_of_ble_eq_true rfl) dX2_init_27 (fun H locs I => ?_)
  have I : CV D s [(b, .inr (1, [.int (nI r), .ref q1, .ref q2, .ref q3, .null, .null, .null, .null, .null, .null, .int 0, .int 0, .int 0, .int 0, .int 0])), (q1, .inl (cI, r, .inl (fun _ => 0))), (q2, .inl (cI, r, .inl (fun _ => 0))), (q3, .inl (cI, r, .inl (fun _ => 0)))] H locs A s.heap := I
  refine lv_aload_n B.exec B.bytes dX2_init_30 rfl (lv_at hl 0 rfl) ?_
  refine lv_iload_n B.exec B.bytes dX2_init_31 rfl (lv_at hl 1 rfl) ?_
  refine k_int F I hn0 hN0 (by omega) (by show 3 + 1 ≤ 9; omega) (by show 0 + r + r + r + r ≤ 360; omega) dX2_init_32 (fun q4 H kk4 I => ?_)
  have I : CV D s [(b, .inr (1, [.int (nI r), .ref q1, .ref q2, .ref q3, .null, .null, .null, .null, .null, .null, .int 0, .int 0, .int 0, .int 0, .int 0])), (q1, .inl (cI, r, .inl (fun _ => 0))), (q2, .inl (cI, r, .inl (fun _ => 0))), (q3, .inl (cI, r, .inl (fun _ => 0))), (q4, .inl (cI, r, .inl (fun _ => 0)))] H locs A s.heap := I
  refine k_putF F hin I co_X2 0 rfl 4 (by decide) w_75 rfl rfl (ty := .array .int) (by decide +kernel) rfl rfl (Nat.le_of_ble_eq_true rfl) dX2_init_34 (fun H locs I => ?_)
  have I : CV D s [(b, .inr (1, [.int (nI r), .ref q1, .ref q2, .ref q3, .ref q4, .null, .null, .null, .null, .null, .int 0, .int 0, .int 0, .int 0, .int 0])), (q1, .inl (cI, r, .inl (fun _ => 0))), (q2, .inl (cI, r, .inl (fun _ => 0))), (q3, .inl (cI, r, .inl (fun _ => 0))), (q4, .inl (cI, r, .inl (fun _ => 0)))] H locs A s.heap := I
  refine lv_aload_n B.exec B.bytes dX2_init_37 rfl (lv_at hl 0 rfl) ?_
  refine lv_iload_n B.exec B.bytes dX2_init_38 rfl (lv_at hl 1 rfl) ?_
  refine k_int F I hn0 hN0 (by omega) (by show 4 + 1 ≤ 9; omega) (by show 0 + r + r + r + r + r ≤ 360; omega) dX2_init_39 (fun q5 H kk5 I => ?_)
  have I : CV D s [(b, .inr (1, [.int (nI r), .ref q1, .ref q2, .ref q3, .ref q4, .null, .null, .null, .null, .null, .int 0, .int 0, .int 0, .int 0, .int 0])), (q1, .inl (cI, r, .inl (fun _ => 0))), (q2, .inl (cI, r, .inl (fun _ => 0))), (q3, .inl (cI, r, .inl (fun _ => 0))), (q4, .inl (cI, r, .inl (fun _ => 0))), (q5, .inl (cI, r, .inl (fun _ => 0)))] H locs A s.heap := I
  refine k_putF F hin I co_X2 0 rfl 5 (by decide) w_76 rfl rfl (ty := .array .int) (by decide +kernel) rfl rfl (Nat.le_of_ble_eq_true rfl) dX2_init_41 (fun H locs I => ?_)
  have I : CV D s [(b, .inr (1, [.int (nI r), .ref q1, .ref q2, .ref q3, .ref q4, .ref q5, .null, .null, .null, .null, .int 0, .int 0, .int 0, .int 0, .int 0])), (q1, .inl (cI, r, .inl (fun _ => 0))), (q2, .inl (cI, r, .inl (fun _ => 0))), (q3, .inl (cI, r, .inl (fun _ => 0))), (q4, .inl (cI, r, .inl (fun _ => 0))), (q5, .inl (cI, r, .inl (fun _ => 0)))] H locs A s.heap := I
  refine lv_aload_n B.exec B.bytes dX2_init_44 rfl (lv_at hl 0 rfl) ?_
  refine lv_iload_n B.exec B.bytes dX2_init_45 rfl (lv_at hl 1 rfl) ?_
  refine k_int F I hn0 hN0 (by omega) (by show 5 + 1 ≤ 9; omega) (by show 0 + r + r + r + r + r + r ≤ 360; omega) dX2_init_46 (fun q6 H kk6 I => ?_)
  have I : CV D s [(b, .inr (1, [.int (nI r), .ref q1, .ref q2, .ref q3, .ref q4, .ref q5, .null, .null, .null, .null, .int 0, .int 0, .int 0, .int 0, .int 0])), (q1, .inl (cI, r, .inl (fun _ => 0))), (q2, .inl (cI, r, .inl (fun _ => 0))), (q3, .inl (cI, r, .inl (fun _ => 0))), (q4, .inl (cI, r, .inl (fun _ => 0))), (q5, .inl (cI, r, .inl (fun _ => 0))), (q6, .inl (cI, r, .inl (fun _ => 0)))] H locs A s.heap := I
  refine k_putF F hin I co_X2 0 rfl 6 (by decide) w_77 rfl rfl (ty := .array .int) (by decide +kernel) rfl rfl (Nat.le_of_ble_eq_true rfl) dX2_init_48 (fun H locs I => ?_)
  have I : CV D s [(b, .inr (1, [.int (nI r), .ref q1, .ref q2, .ref q3, .ref q4, .ref q5, .ref q6, .null, .null, .null, .int 0, .int 0, .int 0, .int 0, .int 0])), (q1, .inl (cI, r, .inl (fun _ => 0))), (q2, .inl (cI, r, .inl (fun _ => 0))), (q3, .inl (cI, r, .inl (fun _ => 0))), (q4, .inl (cI, r, .inl (fun _ => 0))), (q5, .inl (cI, r, .inl (fun _ => 0))), (q6, .inl (cI, r, .inl (fun _ => 0)))] H locs A s.heap := I
  refine lv_aload_n B.exec B.bytes dX2_init_51 rfl (lv_at hl 0 rfl) ?_
  refine lv_iload_n B.exec B.bytes dX2_init_52 rfl (lv_at hl 1 rfl) ?_
  refine k_bool F I hn0 hN0 (by omega) (by show 6 + 1 ≤ 9; omega) (by show 0 + r + r + r + r + r + r + r ≤ 360; omega) dX2_init_53 (fun q7 H kk7 I => ?_)
  have I : CV D s [(b, .inr (1, [.int (nI r), .ref q1, .ref q2, .ref q3, .ref q4, .ref q5, .ref q6, .null, .null, .null, .int 0, .int 0, .int 0, .int 0, .int 0])), (q1, .inl (cI, r, .inl (fun _ => 0))), (q2, .inl (cI, r, .inl (fun _ => 0))), (q3, .inl (cI, r, .inl (fun _ => 0))), (q4, .inl (cI, r, .inl (fun _ => 0))), (q5, .inl (cI, r, .inl (fun _ => 0))), (q6, .inl (cI, r, .inl (fun _ => 0))), (q7, .inl (cB, r, .inl (fun _ => 0)))] H locs A s.heap := I
  refine k_putF F hin I co_X2 0 rfl 7 (by decide) w_78 rfl rfl (ty := .array .boolean) (by decide +kernel) rfl rfl (Nat.le_of_ble_eq_true rfl) dX2_init_55 (fun H locs I => ?_)
  have I : CV D s [(b, .inr (1, [.int (nI r), .ref q1, .ref q2, .ref q3, .ref q4, .ref q5, .ref q6, .ref q7, .null, .null, .int 0, .int 0, .int 0, .int 0, .int 0])), (q1, .inl (cI, r, .inl (fun _ => 0))), (q2, .inl (cI, r, .inl (fun _ => 0))), (q3, .inl (cI, r, .inl (fun _ => 0))), (q4, .inl (cI, r, .inl (fun _ => 0))), (q5, .inl (cI, r, .inl (fun _ => 0))), (q6, .inl (cI, r, .inl (fun _ => 0))), (q7, .inl (cB, r, .inl (fun _ => 0)))] H locs A s.heap := I
  refine lv_aload_n B.exec B.bytes dX2_init_58 rfl (lv_at hl 0 rfl) ?_
  refine lv_iload_n B.exec B.bytes dX2_init_59 rfl (lv_at hl 1 rfl) ?_
  refine k_bool F I hn0 hN0 (by omega) (by show 7 + 1 ≤ 9; omega) (by show 0 + r + r + r + r + r + r + r + r ≤ 360; omega) dX2_init_60 (fun q8 H kk8 I => ?_)
  have I : CV D s [(b, .inr (1, [.int (nI r), .ref q1, .ref q2, .ref q3, .ref q4, .ref q5, .ref q6, .ref q7, .null, .null, .int 0, .int 0, .int 0, .int 0, .int 0])), (q1, .inl (cI, r, .inl (fun _ => 0))), (q2, .inl (cI, r, .inl (fun _ => 0))), (q3, .inl (cI, r, .inl (fun _ => 0))), (q4, .inl (cI, r, .inl (fun _ => 0))), (q5, .inl (cI, r, .inl (fun _ => 0))), (q6, .inl (cI, r, .inl (fun _ => 0))), (q7, .inl (cB, r, .inl (fun _ => 0))), (q8, .inl (cB, r, .inl (fun _ => 0)))] H locs A s.heap := I
  refine k_putF F hin I co_X2 0 rfl 8 (by decide) w_79 rfl rfl (ty := .array .boolean) (by decide +kernel) rfl rfl (Nat.le_of_ble_eq_true rfl) dX2_init_62 (fun H locs I => ?_)
  have I : CV D s [(b, .inr (1, [.int (nI r), .ref q1, .ref q2, .ref q3, .ref q4, .ref q5, .ref q6, .ref q7, .ref q8, .null, .int 0, .int 0, .int 0, .int 0, .int 0])), (q1, .inl (cI, r, .inl (fun _ => 0))), (q2, .inl (cI, r, .inl (fun _ => 0))), (q3, .inl (cI, r, .inl (fun _ => 0))), (q4, .inl (cI, r, .inl (fun _ => 0))), (q5, .inl (cI, r, .inl (fun _ => 0))), (q6, .inl (cI, r, .inl (fun _ => 0))), (q7, .inl (cB, r, .inl (fun _ => 0))), (q8, .inl (cB, r, .inl (fun _ => 0)))] H locs A s.heap := I
  refine lv_aload_n B.exec B.bytes dX2_init_65 rfl (lv_at hl 0 rfl) ?_
  refine lv_iload_n B.exec B.bytes dX2_init_66 rfl (lv_at hl 1 rfl) ?_
  refine k_int F I hn0 hN0 (by omega) (by show 8 + 1 ≤ 9; omega) (by show 0 + r + r + r + r + r + r + r + r + r ≤ 360; omega) dX2_init_67 (fun q9 H kk9 I => ?_)
  have I : CV D s [(b, .inr (1, [.int (nI r), .ref q1, .ref q2, .ref q3, .ref q4, .ref q5, .ref q6, .ref q7, .ref q8, .null, .int 0, .int 0, .int 0, .int 0, .int 0])), (q1, .inl (cI, r, .inl (fun _ => 0))), (q2, .inl (cI, r, .inl (fun _ => 0))), (q3, .inl (cI, r, .inl (fun _ => 0))), (q4, .inl (cI, r, .inl (fun _ => 0))), (q5, .inl (cI, r, .inl (fun _ => 0))), (q6, .inl (cI, r, .inl (fun _ => 0))), (q7, .inl (cB, r, .inl (fun _ => 0))), (q8, .inl (cB, r, .inl (fun _ => 0))), (q9, .inl (cI, r, .inl (fun _ => 0)))] H locs A s.heap := I
  refine k_putF F hin I co_X2 0 rfl 9 (by decide) w_80 rfl rfl (ty := .array .int) (by decide +kernel) rfl rfl (Nat.le_of_ble_eq_true rfl) dX2_init_69 (fun H locs I => ?_)
  have I : CV D s [(b, .inr (1, [.int (nI r), .ref q1, .ref q2, .ref q3, .ref q4, .ref q5, .ref q6, .ref q7, .ref q8, .ref q9, .int 0, .int 0, .int 0, .int 0, .int 0])), (q1, .inl (cI, r, .inl (fun _ => 0))), (q2, .inl (cI, r, .inl (fun _ => 0))), (q3, .inl (cI, r, .inl (fun _ => 0))), (q4, .inl (cI, r, .inl (fun _ => 0))), (q5, .inl (cI, r, .inl (fun _ => 0))), (q6, .inl (cI, r, .inl (fun _ => 0))), (q7, .inl (cB, r, .inl (fun _ => 0))), (q8, .inl (cB, r, .inl (fun _ => 0))), (q9, .inl (cI, r, .inl (fun _ => 0)))] H locs A s.heap := I
  obtain ⟨i1, i2, i3, i4⟩ := I
  refine W.widen (k := 9) (n := 360) (by omega) (by omega) ?_
  exact W.vret B.exec B.bytes B.returns (fun t ht hW => ⟨⟨([(b, .inr (1, [.int (nI r), .ref q1, .ref q2, .ref q3, .ref q4, .ref q5, .ref q6, .ref q7, .ref q8, .ref q9, .int 0, .int 0, .int 0, .int 0, .int 0])), (q1, .inl (cI, r, .inl (fun _ => 0))), (q2, .inl (cI, r, .inl (fun _ => 0))), (q3, .inl (cI, r, .inl (fun _ => 0))), (q4, .inl (cI, r, .inl (fun _ => 0))), (q5, .inl (cI, r, .inl (fun _ => 0))), (q6, .inl (cI, r, .inl (fun _ => 0))), (q7, .inl (cB, r, .inl (fun _ => 0))), (q8, .inl (cB, r, .inl (fun _ => 0))), (q9, .inl (cI, r, .inl (fun _ => 0)))], [(cI, .int), (cB, .boolean)]), rfl, ⟨⟨q1, q2, q3, q4, q5, q6, q7, q8, q9, rfl⟩, rfl⟩, by rw [ht]; exact i2, va_K.moved hW.alike (kk1.app kk7), i3⟩, i4.F ht⟩) i4.2.2 dX2_init_72
end INI2

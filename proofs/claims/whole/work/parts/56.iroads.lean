/-! Image() and Roads() -/
section INI6
variable {l : Launch} {D : va_G} {cI cB : ClassId}
def wImage (cI cB : ClassId) (b : Nat) (w : va_W) : Prop := ∃ (h n : Nat) (wh wb : va_W), wHeap cI cB 40 h wh ∧ wBench cI n wb ∧ w = (b, .inr (2, [.ref h, .ref n, .int 0])) :: (wh ++ wb)
set_option maxRecDepth 20000 in
theorem i_X3 : Ini l D cI cB yX3_init cX3_init 1 2 60 2 [.null, .null, .int 0] [] 12 392 (fun b w ty => wImage cI cB b w ∧ ty = [(cI, .int), (cB, .boolean)]) := by
  intro b sz
  refine Met.ofW (cc := cX3_init) (maxL := 1) (ret := none) (by decide +kernel) rfl ?_
  intro p e s m args below meth c s₁ B hml hv
  obtain ⟨rfl, hsz, hP, hK, hD0, hfi, hfz⟩ := hv
  have hts := atoms_spec (ws := Cond.code yX3_init cX3_init 1 none :: tW) B.pre
  have hown : s.vm.findClass RX3 = some m.cls := findClass_of_methodNamed B.named
  have hin : meth.name = "<init>" := (name_of_methodNamed B.named B.method).1
  subst hsz
  have hD := hD0.self (sz := s.heap.size)
  generalize hAe : va_A [(b, .inr (2, [.null, .null, .int 0]))] s.heap.size = A at hD ⊢
  have hA : ∀ q : Nat, s.heap.size ≤ q → A q := fun q h => by rw [← hAe]; exact Or.inr h
  have htw : ∀ w ∈ tW, w.before _ s = true := fun w hw => hts w (List.mem_cons_of_mem _ hw)
  have F : CF p c cX3_init 1 s _ RX3 m A s.heap cI cB := ⟨B.exec, B.bytes, hml, hown, htw, hA, hfi, hfz⟩
  have I : CV D s [(b, .inr (2, [.null, .null, .int 0]))] s.heap [] A s.heap := ⟨hK, hP, hD, va_S.rf⟩
  have hl := lv_entry ([.ref b]) (n := 1) (Nat.le_of_ble_eq_true rfl)
  rw [lg_entry_eq]
  generalize (lg_sl ([.ref b]) ++ List.replicate (1 - (lg_sl ([.ref b])).length) Slot.unset).toArray = ls at hl ⊢
  have hl : lv_has ls 1 [(0, .ref b)] := hl
  refine lv_aload_n B.exec B.bytes dX3_init_0 rfl (lv_at hl 0 rfl) ?_
  refine k_obj F w_181 hl.1 dX3_init_1 (Nat.le_of_ble_eq_true rfl) (Nat.le_of_ble_eq_true rfl) ?_
  refine lv_aload_n B.exec B.bytes dX3_init_4 rfl (lv_at hl 0 rfl) ?_
  refine k_new F I co_X2 (fs := fHeap) (fun j hj => by match j, hj with | 0, _ => rfl | 1, _ => rfl | 2, _ => rfl | 3, _ => rfl | 4, _ => rfl | 5, _ => rfl | 6, _ => rfl | 7, _ => rfl | 8, _ => rfl | 9, _ => rfl | 10, _ => rfl | 11, _ => rfl | 12, _ => rfl | 13, _ => rfl | 14, _ => rfl) w_182 w_66 w_47 (Nat.le_of_ble_eq_true rfl) (Nat.le_of_ble_eq_true rfl) dX3_init_5 (fun h H I => ?_)
  refine lv_dup B.exec B.bytes dX3_init_8 rfl ?_
  refine lv_bipush (v := nI 40) B.exec B.bytes dX3_init_9 (by decide) ?_
  refine k_call F I (i_X2 (r := 40) (by omega)) rfl w_69 w_47 w_183 w_68 ⟨by decide, by decide, by decide +kernel⟩ ⟨Nat.le_of_ble_eq_true rfl, Nat.le_of_ble_eq_true rfl⟩ hl.1 (Nat.le_of_ble_eq_true rfl) dX3_init_11 ⟨Nat.le_of_ble_eq_true rfl, Nat.le_of_ble_eq_true rfl⟩ (fun wh tywh H locs hpwh hkwh I => ?_)
  refine k_putF F hin I co_X3 0 rfl 0 (by decide) w_186 rfl rfl (ty := .object "LooseHeap$Heap") (by decide +kernel) rfl rfl (Nat.le_of_ble_eq_true rfl) dX3_init_14 (fun H locs I => ?_)
  have I : CV D s ((b, .inr (2, [.ref h, .null, .int 0])) :: wh) H locs A s.heap := I
  refine lv_aload_n B.exec B.bytes dX3_init_17 rfl (lv_at hl 0 rfl) ?_
  refine k_new F I co_X0 (fs := [.null]) (fun j hj => by match j, hj with | 0, _ => rfl) w_184 w_120 w_48 (Nat.le_of_ble_eq_true rfl) (Nat.le_of_ble_eq_true rfl) dX3_init_18 (fun n H I => ?_)
  refine lv_dup B.exec B.bytes dX3_init_21 rfl ?_
  refine k_call F I i_X0 rfl w_123 w_48 w_185 w_122 ⟨by decide, by decide, by decide +kernel⟩ ⟨Nat.le_of_ble_eq_true rfl, Nat.le_of_ble_eq_true rfl⟩ hl.1 (Nat.le_of_ble_eq_true rfl) dX3_init_22 ⟨Nat.le_of_ble_eq_true rfl, Nat.le_of_ble_eq_true rfl⟩ (fun wb tywb H locs hpwb hkwb I => ?_)
  refine k_putF F hin I co_X3 0 rfl 1 (by decide) w_187 rfl rfl (ty := .object "LooseHeap$Benches") (by decide +kernel) rfl rfl (Nat.le_of_ble_eq_true rfl) dX3_init_25 (fun H locs I => ?_)
  have I : CV D s ((b, .inr (2, [.ref h, .ref n, .int 0])) :: (wh ++ wb)) H locs A s.heap := I
  obtain ⟨i1, i2, i3, i4⟩ := I
  refine W.widen (k := 12) (n := 392) (Nat.le_of_ble_eq_true rfl) (Nat.le_of_ble_eq_true rfl) ?_
  exact W.vret B.exec B.bytes B.returns (fun t ht hW => ⟨⟨((b, .inr (2, [.ref h, .ref n, .int 0])) :: (wh ++ wb), [(cI, .int), (cB, .boolean)]), rfl, ⟨⟨h, n, wh, wb, hpwh.1, hpwb.1, rfl⟩, rfl⟩, by rw [ht]; exact i2, va_K.moved hW.alike (by rw [← hpwh.2]; exact hkwh), i3⟩, i4.F ht⟩) i4.2.2 dX3_init_28
def wRoads (cI cB : ClassId) (b : Nat) (w : va_W) : Prop := ∃ (q1 q2 q3 q4 h : Nat) (wh : va_W), wHeap cI cB 8 h wh ∧ w = [(b, .inr (4, [.ref q1, .ref q2, .ref q3, .ref q4, .ref h, .int 0, .int 0, .int 0])), (q1, .inl (cI, 14, .inl (fun _ => 0))), (q2, .inl (cI, 14, .inl (fun _ => 0))), (q3, .inl (cI, 14, .inl (fun _ => 0))), (q4, .inl (cI, 8, .inl (fun _ => 0)))] ++ wh
set_option maxRecDepth 20000 in
theorem i_X5 : Ini l D cI cB yX5_init cX5_init 1 2 60 4 [.null, .null, .null, .null, .null, .int 0, .int 0, .int 0] [] 14 425 (fun b w ty => wRoads cI cB b w ∧ ty = [(cI, .int), (cB, .boolean)]) := by
  intro b sz
  refine Met.ofW (cc := cX5_init) (maxL := 1) (ret := none) (by decide +kernel) rfl ?_
  intro p e s m args below meth c s₁ B hml hv
  obtain ⟨rfl, hsz, hP, hK, hD0, hfi, hfz⟩ := hv
  have hts := atoms_spec (ws := Cond.code yX5_init cX5_init 1 none :: tW) B.pre
  have hown : s.vm.findClass RX5 = some m.cls := findClass_of_methodNamed B.named
  have hin : meth.name = "<init>" := (name_of_methodNamed B.named B.method).1
  subst hsz
  have hD := hD0.self (sz := s.heap.size)
  generalize hAe : va_A [(b, .inr (4, [.null, .null, .null, .null, .null, .int 0, .int 0, .int 0]))] s.heap.size = A at hD ⊢
  have hA : ∀ q : Nat, s.heap.size ≤ q → A q := fun q h => by rw [← hAe]; exact Or.inr h
  have htw : ∀ w ∈ tW, w.before _ s = true := fun w hw => hts w (List.mem_cons_of_mem _ hw)
  have F : CF p c cX5_init 1 s _ RX5 m A s.heap cI cB := ⟨B.exec, B.bytes, hml, hown, htw, hA, hfi, hfz⟩
  have I : CV D s [(b, .inr (4, [.null, .null, .null, .null, .null, .int 0, .int 0, .int 0]))] s.heap [] A s.heap := ⟨hK, hP, hD, va_S.rf⟩
  have hl := lv_entry ([.ref b]) (n := 1) (Nat.le_of_ble_eq_true rfl)
  rw [lg_entry_eq]
  generalize (lg_sl ([.ref b]) ++ List.replicate (1 - (lg_sl ([.ref b])).length) Slot.unset).toArray = ls at hl ⊢
  have hl : lv_has ls 1 [(0, .ref b)] := hl
  refine lv_aload_n B.exec B.bytes dX5_init_0 rfl (lv_at hl 0 rfl) ?_
  refine k_obj F w_137 hl.1 dX5_init_1 (Nat.le_of_ble_eq_true rfl) (Nat.le_of_ble_eq_true rfl) ?_
  refine lv_aload_n B.exec B.bytes dX5_init_4 rfl (lv_at hl 0 rfl) ?_
  refine lv_bipush (v := 14) B.exec B.bytes dX5_init_5 (by decide) ?_
  refine k_int (N := 14) F I (by decide) rfl (by omega) (Nat.le_of_ble_eq_true rfl) (Nat.le_of_ble_eq_true rfl) dX5_init_7 (fun q1 H kk1 I => ?_)
  refine k_putF F hin I co_X5 0 rfl 0 (by decide) w_140 rfl rfl (ty := .array .int) (by decide +kernel) rfl rfl (Nat.le_of_ble_eq_true rfl) dX5_init_9 (fun H locs I => ?_)
  have I : CV D s [(b, .inr (4, [.ref q1, .null, .null, .null, .null, .int 0, .int 0, .int 0])), (q1, .inl (cI, 14, .inl (fun _ => 0)))] H locs A s.heap := I
  refine lv_aload_n B.exec B.bytes dX5_init_12 rfl (lv_at hl 0 rfl) ?_
  refine lv_bipush (v := 14) B.exec B.bytes dX5_init_13 (by decide) ?_
  refine k_int (N := 14) F I (by decide) rfl (by omega) (Nat.le_of_ble_eq_true rfl) (Nat.le_of_ble_eq_true rfl) dX5_init_15 (fun q2 H kk2 I => ?_)
  refine k_putF F hin I co_X5 0 rfl 1 (by decide) w_141 rfl rfl (ty := .array .int) (by decide +kernel) rfl rfl (Nat.le_of_ble_eq_true rfl) dX5_init_17 (fun H locs I => ?_)
  have I : CV D s [(b, .inr (4, [.ref q1, .ref q2, .null, .null, .null, .int 0, .int 0, .int 0])), (q1, .inl (cI, 14, .inl (fun _ => 0))), (q2, .inl (cI, 14, .inl (fun _ => 0)))] H locs A s.heap := I
  refine lv_aload_n B.exec B.bytes dX5_init_20 rfl (lv_at hl 0 rfl) ?_
  refine lv_bipush (v := 14) B.exec B.bytes dX5_init_21 (by decide) ?_
  refine k_int (N := 14) F I (by decide) rfl (by omega) (Nat.le_of_ble_eq_true rfl) (Nat.le_of_ble_eq_true rfl) dX5_init_23 (fun q3 H kk3 I => ?_)
  refine k_putF F hin I co_X5 0 rfl 2 (by decide) w_142 rfl rfl (ty := .array .int) (by decide +kernel) rfl rfl (Nat.le_of_ble_eq_true rfl) dX5_init_25 (fun H locs I => ?_)
  have I : CV D s [(b, .inr (4, [.ref q1, .ref q2, .ref q3, .null, .null, .int 0, .int 0, .int 0])), (q1, .inl (cI, 14, .inl (fun _ => 0))), (q2, .inl (cI, 14, .inl (fun _ => 0))), (q3, .inl (cI, 14, .inl (fun _ => 0)))] H locs A s.heap := I
  refine lv_aload_n B.exec B.bytes dX5_init_28 rfl (lv_at hl 0 rfl) ?_
  refine lv_bipush (v := 8) B.exec B.bytes dX5_init_29 (by decide) ?_
  refine k_int (N := 8) F I (by decide) rfl (by omega) (Nat.le_of_ble_eq_true rfl) (Nat.le_of_ble_eq_true rfl) dX5_init_31 (fun q4 H kk4 I => ?_)
  refine k_putF F hin I co_X5 0 rfl 3 (by decide) w_143 rfl rfl (ty := .array .int) (by decide +kernel) rfl rfl (Nat.le_of_ble_eq_true rfl) dX5_init_33 (fun H locs I => ?_)
  have I : CV D s [(b, .inr (4, [.ref q1, .ref q2, .ref q3, .ref q4, .null, .int 0, .int 0, .int 0])), (q1, .inl (cI, 14, .inl (fun _ => 0))), (q2, .inl (cI, 14, .inl (fun _ => 0))), (q3, .inl (cI, 14, .inl (fun _ => 0))), (q4, .inl (cI, 8, .inl (fun _ => 0)))] H locs A s.heap := I
  refine lv_aload_n B.exec B.bytes dX5_init_36 rfl (lv_at hl 0 rfl) ?_
  refine k_new F I co_X2 (fs := fHeap) (fun j hj => by match j, hj with | 0, _ => rfl | 1, _ => rfl | 2, _ => rfl | 3, _ => rfl | 4, _ => rfl | 5, _ => rfl | 6, _ => rfl | 7, _ => rfl | 8, _ => rfl | 9, _ => rfl | 10, _ => rfl | 11, _ => rfl | 12, _ => rfl | 13, _ => rfl | 14, _ => rfl) w_138 w_66 w_47 (Nat.le_of_ble_eq_true rfl) (Nat.le_of_ble_eq_true rfl) dX5_init_37 (fun h H I => ?_)
  refine lv_dup B.exec B.bytes dX5_init_40 rfl ?_
  refine lv_bipush (v := nI 8) B.exec B.bytes dX5_init_41 (by decide) ?_
  refine k_call F I (i_X2 (r := 8) (by omega)) rfl w_69 w_47 w_139 w_68 ⟨by decide, by decide, by decide +kernel⟩ ⟨Nat.le_of_ble_eq_true rfl, Nat.le_of_ble_eq_true rfl⟩ hl.1 (Nat.le_of_ble_eq_true rfl) dX5_init_43 ⟨Nat.le_of_ble_eq_true rfl, Nat.le_of_ble_eq_true rfl⟩ (fun wh tywh H locs hpwh hkwh I => ?_)
  refine k_putF F hin I co_X5 0 rfl 4 (by decide) w_144 rfl rfl (ty := .object "LooseHeap$Heap") (by decide +kernel) rfl rfl (Nat.le_of_ble_eq_true rfl) dX5_init_46 (fun H locs I => ?_)
  have I : CV D s ([(b, .inr (4, [.ref q1, .ref q2, .ref q3, .ref q4, .ref h, .int 0, .int 0, .int 0])), (q1, .inl (cI, 14, .inl (fun _ => 0))), (q2, .inl (cI, 14, .inl (fun _ => 0))), (q3, .inl (cI, 14, .inl (fun _ => 0))), (q4, .inl (cI, 8, .inl (fun _ => 0)))] ++ wh) H locs A s.heap := I
  obtain ⟨i1, i2, i3, i4⟩ := I
  refine W.widen (k := 14) (n := 425) (Nat.le_of_ble_eq_true rfl) (Nat.le_of_ble_eq_true rfl) ?_
  exact W.vret B.exec B.bytes B.returns (fun t ht hW => ⟨⟨([(b, .inr (4, [.ref q1, .ref q2, .ref q3, .ref q4, .ref h, .int 0, .int 0, .int 0])), (q1, .inl (cI, 14, .inl (fun _ => 0))), (q2, .inl (cI, 14, .inl (fun _ => 0))), (q3, .inl (cI, 14, .inl (fun _ => 0))), (q4, .inl (cI, 8, .inl (fun _ => 0)))] ++ wh, [(cI, .int), (cB, .boolean)]), rfl, ⟨⟨q1, q2, q3, q4, h, wh, hpwh.1, rfl⟩, rfl⟩, by rw [ht]; exact i2, va_K.moved hW.alike (by rw [← hpwh.2]; exact hkwh), i3⟩, i4.F ht⟩) i4.2.2 dX5_init_49
end INI6

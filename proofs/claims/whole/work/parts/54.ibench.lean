/-! Benches() -/
section INI4
variable {l : Launch} {D : va_G} {cI cB : ClassId}
def wBench (cI : ClassId) (b : Nat) (w : va_W) : Prop := ∃ (q1 : Nat) (g : Nat → Int32), (∀ j, j < 16 → g j = -1) ∧ w = [(b, .inr (0, [.ref q1])), (q1, .inl (cI, 16, .inl g))]
set_option maxRecDepth 20000 in
theorem i_X0 : Ini l D cI cB yX0_init cX0_init 1 1 40 0 [.null] [] 1 16 (fun b w ty => wBench cI b w ∧ ty = [(cI, .int)]) := by
  intro b sz
  refine Met.ofW (cc := cX0_init) (maxL := 1) (ret := none) (by decide +kernel) rfl ?_
  intro p e s m args below meth c s₁ B hml hv
  obtain ⟨rfl, hsz, hP, hK, hD0, hfi, hfz⟩ := hv
  have hts := atoms_spec (ws := Cond.code yX0_init cX0_init 1 none :: tW) B.pre
  have hown : s.vm.findClass RX0 = some m.cls := findClass_of_methodNamed B.named
  have hin : meth.name = "<init>" := (name_of_methodNamed B.named B.method).1
  subst hsz
  have hD := hD0.self (sz := s.heap.size)
  generalize hAe : va_A [(b, .inr (0, [.null]))] s.heap.size = A at hD ⊢
  have hA : ∀ q : Nat, s.heap.size ≤ q → A q := fun q h => by rw [← hAe]; exact Or.inr h
  have htw : ∀ w ∈ tW, w.before _ s = true := fun w hw => hts w (List.mem_cons_of_mem _ hw)
  have F : CF p c cX0_init 1 s _ RX0 m A s.heap cI cB := ⟨B.exec, B.bytes, hml, hown, htw, hA, hfi, hfz⟩
  have I : CV D s [(b, .inr (0, [.null]))] s.heap [] A s.heap := ⟨hK, hP, hD, va_S.rf⟩
  have hl := lv_entry ([.ref b]) (n := 1) (Nat.le_of_ble_eq_true rfl)
  rw [lg_entry_eq]
  generalize (lg_sl ([.ref b]) ++ List.replicate (1 - (lg_sl ([.ref b])).length) Slot.unset).toArray = ls at hl ⊢
  have hl : lv_has ls 1 [(0, .ref b)] := hl
  refine lv_aload_n B.exec B.bytes dX0_init_0 rfl (lv_at hl 0 rfl) ?_
  refine k_obj F w_124 hl.1 dX0_init_1 (Nat.le_of_ble_eq_true rfl) (Nat.le_of_ble_eq_true rfl) ?_
  refine lv_aload_n B.exec B.bytes dX0_init_4 rfl (lv_at hl 0 rfl) ?_
  refine lv_bipush (v := 16) B.exec B.bytes dX0_init_5 (by decide) ?_
  refine k_int (N := 16) F I (by decide) rfl (by omega) (by show 0 + 1 ≤ 1; omega) (by show 0 + 16 ≤ 16; omega) dX0_init_7 (fun q1 H kk1 I => ?_)
  have I : CV D s [(b, .inr (0, [.null])), (q1, .inl (cI, 16, .inl (fun _ => 0)))] H [] A s.heap := I
  refine k_putF F hin I co_X0 0 rfl 0 (by decide) w_128 rfl rfl (ty := .array .int) (by decide +kernel) rfl rfl (Nat.le_of_ble_eq_true rfl) dX0_init_9 (fun H locs I => ?_)
  have I : CV D s [(b, .inr (0, [.ref q1])), (q1, .inl (cI, 16, .inl (fun _ => 0)))] H locs A s.heap := I
  obtain ⟨hK, hP, hD, hS⟩ := I
  refine lv_aload_n B.exec B.bytes dX0_init_12 rfl (lv_at hl 0 rfl) ?_
  refine va_get (D := D) (cl := vwCl) (ci := 0) (v := .ref q1) (C := RX0) (T := TX0) (N := 1) B.exec B.bytes htw co_X0.2.2.1 hown hK hP 0 rfl rfl 0 (by decide) (htw _ w_128) (fun _ h9 => h9) rfl dX0_init_13 ?_
  refine lv_iconst (v := -1) B.exec B.bytes dX0_init_16 (by decide) ?_
  have hPc := hP.sub (ws' := [(q1, .inl (cI, 16, .inl (fun _ => 0)))]) [1] rfl
  have hDc := hD.sub (ws' := [(q1, .inl (cI, 16, .inl (fun _ => 0)))]) [1] (by decide) rfl
  have hFc := va_free (wc := [(q1, .inl (cI, 16, .inl (fun _ => 0)))]) hD hS hA [1] rfl
  refine W.widen (k := 1) (n := 16) (by omega) (by omega) ?_
  refine va_callv (va_runS (As := [.ref q1, .int (-1)]) (rest := []) (nL := 1) ⟨B.exec, B.bytes, hml, hown, htw⟩ (i_fill (l := l) (D := D) (cI := cI) (N := 16) (by omega) (fun _ => 0) (-1) q1 H.size) ⟨callB_of 2 htw (good_code mo_J7_fill_53178.2.1) rfl rfl rfl (htw _ mo_J7_fill_53178.2.2.1) (htw _ w_125) ⟨by decide, by decide, by decide +kernel⟩ ⟨Nat.le_of_ble_eq_true rfl, Nat.le_of_ble_eq_true rfl⟩, htw _ w_126⟩ ⟨fun a U g mk q => by obtain ⟨q0, q1', qP, qK, qD⟩ := q; exact ⟨q0, q1', qP, va_K.moved (u := U) (U := U.calling g mk a) (Vm.Alike.refl U.vm) qK, qD⟩, fun U hU hW => ⟨rfl, by rw [hU], by rw [hU]; exact hPc, va_K.moved hW.alike kk1, hDc.weaken (fun _ _ _ _ => trivial)⟩⟩ rfl rfl hl.1 rfl (lv_room (Nat.le_of_ble_eq_true rfl)) dX0_init_17 ⟨Nat.le_of_ble_eq_true rfl, Nat.le_of_ble_eq_true rfl⟩) hS (fun q _ h => hFc q h) hFc (fun g t H1 locs ht hvm h5 hB hz1 hk1 hS => ?_)
  obtain ⟨hP1, hK1, hD1⟩ := hB
  rw [ht] at hP1
  obtain ⟨hP, hD⟩ := va_join (wr := [(b, .inr (0, [.ref q1]))]) (w1 := [(q1, .inl (cI, 16, .inl g))]) hP hD [1] [0] rfl rfl (by decide) (by decide) hk1 hFc hP1 hD1
  exact W.vret B.exec B.bytes B.returns (fun t ht hW => ⟨⟨([(b, .inr (0, [.ref q1])), (q1, .inl (cI, 16, .inl g))], [(cI, .int)]), rfl, ⟨⟨q1, g, h5, rfl⟩, rfl⟩, by rw [ht]; exact hP, va_K.moved hW.alike kk1, hD⟩, hS.F ht⟩) hS.2.2 dX0_init_20
end INI4

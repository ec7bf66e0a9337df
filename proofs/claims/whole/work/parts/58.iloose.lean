/-! LooseHeap() -/
section INI8
variable {p : Program} {l : Launch} {e : Env} {R : Room} {s : State} {m : MethodId} {args : Array Value} {below : List Frame} {meth : Method} {c : Code} {H H0 : Heap} {locs : List Loc} {cells slots : Nat} {Z : State → Prop} {ls : Array Slot} {rest : List Value} {A : Nat → Prop} {D : va_G} {ws : va_W} {cc : ByteArray} {own : String} {nL pc : Nat} {cI cB : ClassId}
theorem k_callN (F : CF p c cc nL s args own m A H0 cI cB) {b ci fr lo mL mc ms index : Nat} {y : MethodName} {bytes : ByteArray} {fs0 As : List Value} {Post : Nat → va_W → List (ClassId × FieldType) → Prop} (I : CV D s (ws ++ [(b, .inr (ci, fs0))]) H locs A H0) (hM : Ini l D cI cB y bytes mL fr lo ci fs0 As mc ms Post) (hy : y.name = "<init>") (hwc : Cond.code y bytes mL none ∈ tW) (hwi : Cond.initialized y.cls ∈ tW) {host : String} (hwl : va_Nw (.methodLinkNest own index y host) s) (hwm : Cond.instanceMethod y ∈ tW) (hyd : y.cls ≠ "java/lang/invoke/MethodHandle" ∧ y.cls ≠ "java/lang/invoke/VarHandle" ∧ (parseMethodDescriptor y.desc).map (fun d => d.parameters.length) = some As.length) (hR : fr + 1 ≤ R.frames ∧ 8 + (mL + 11) + lo ≤ R.locals) (hl : ls.size = nL) (hcat : (rest.map fun v => v.category).sum ≤ 8) (hd : decode cc pc = .ok (.invokespecial index, 3)) (hf : cells + mc ≤ R.cells ∧ slots + ms ≤ R.slots) (kk : ∀ (w : va_W) (tys : List (ClassId × FieldType)) (H1 : Heap) (locs1 : List Loc), Post b w tys → va_K D vwCl tys s → CV D s (ws ++ w) H1 locs1 A H0 → W p l e R s m args below meth c H1 locs1 (cells + mc) (slots + ms) Z (F0 m (pc + 3) ls rest)) : W p l e R s m args below meth c H locs cells slots Z (F0 m pc ls (As.reverse ++ .ref b :: rest)) := by
  obtain ⟨f1, f2, f3, f4, f5, f6, f7, f8⟩ := F
  obtain ⟨hK, hP, hD, hS⟩ := I
  have hi : [ws.length].map (fun i => (ws ++ [(b, .inr (ci, fs0))])[i]?) = [((b, .inr (ci, fs0)) : Nat × va_E)].map some := by simp
  have hPc := hP.sub (ws' := [(b, .inr (ci, fs0))]) [ws.length] (by simp)
  have hDc := hD.sub (ws' := [(b, .inr (ci, fs0))]) [ws.length] rfl hi
  have hFc := va_free (wc := [(b, .inr (ci, fs0))]) hD hS f6 [ws.length] hi
  refine va_callv (va_runIN (As := As) (rest := rest) (nL := nL) ⟨f1, f2, f3, f4, f5⟩ (hM b H.size) ⟨va_cnB As.length f5 (good_code hwc) rfl rfl rfl hwl (f5 _ hwi) hyd hR, hy, f5 _ hwm⟩ ⟨fun a U g mk q => by obtain ⟨q0, q1, qP, qK, qD, qi, qz⟩ := q; exact ⟨q0, q1, qP, va_K.moved (u := U) (U := U.calling g mk a) (Vm.Alike.refl U.vm) qK, qD, qi, qz⟩, fun U hU hW => ⟨rfl, by rw [hU], by rw [hU]; exact hPc, va_K.moved hW.alike hK, hDc.weaken (fun _ _ _ _ => trivial), by rw [hW.alike.findClass]; exact f7, by rw [hW.alike.findClass]; exact f8⟩⟩ rfl rfl hl rfl (lv_room hcat) hd hf) hS (fun q _ h => hFc q h) hFc (fun u t H1 locs1 ht hvm h5 hB hz1 hk1 hS => ?_)
  obtain ⟨hP1, hK1, hD1⟩ := hB
  rw [ht] at hP1
  have hK1 := va_K.moved hvm.symm hK1
  obtain ⟨hP, hD⟩ := va_join (wr := ws) (w1 := u.1) hP hD [ws.length] (List.range ws.length) hi (at_range ws _) (nd_range _) (fun i hi h => by
    have := List.mem_range.mp hi
    rw [List.mem_singleton.mp h] at this
    omega) hk1 hFc hP1 hD1
  exact kk u.1 u.2 H1 locs1 h5 hK1 ⟨hK, hP, hD, hS⟩
theorem g_mid {α : Type} (a : List α) (x : α) (r : List α) : (a ++ [x] ++ r)[a.length]? = some x := by simp
theorem s_mid {α : Type} (a : List α) (x y : α) (r : List α) : (a ++ [x] ++ r).set a.length y = a ++ [y] ++ r := by simp
theorem g_nx {α : Type} (a : List α) (x z : α) (m r : List α) : (a ++ [x] ++ m ++ (z :: r))[a.length + 1 + m.length]? = some z := by
  have e : a.length + 1 + m.length = (a ++ [x] ++ m).length := by simp; omega
  rw [e, List.getElem?_append_right (Nat.le_refl _), Nat.sub_self]
  rfl
theorem g_n1 {α : Type} (a : List α) (x z : α) (r : List α) : (a ++ [x] ++ (z :: r))[a.length + 1]? = some z := by
  have e : a.length + 1 = (a ++ [x]).length := by simp
  rw [e, List.getElem?_append_right (Nat.le_refl _), Nat.sub_self]
  rfl
def im2 (i0 i1 : Nat) : Nat → Option Nat := va_up (va_up (fun _ => none) 0 (some i0)) 1 (some i1)
def wLoose (cI cB cM : ClassId) (b : Nat) (w : va_W) : Prop := ∃ (h n r o im i0 i1 : Nat) (wh wb wr w0 w1 : va_W), wHeap cI cB 40 h wh ∧ wBench cI n wb ∧ wRoads cI cB r wr ∧ wImage cI cB i0 w0 ∧ wImage cI cB i1 w1 ∧ w = (b, .inr (5, [.ref h, .ref n, .ref r, .ref o, .ref im])) :: (wh ++ wb ++ wr ++ [(o, .inr (3, [.long 0])), (im, .inl (cM, 2, .inr (.inr (.inr (.inr (im2 i0 i1))))))] ++ w0 ++ w1)
set_option maxRecDepth 20000 in
theorem i_X6 (b sz : Nat) : Met l yX6_init (Cond.code yX6_init cX6_init 2 none :: tW) ({ frames := 3, cells := 55, slots := 1618, locals := 80 }) (va_Pc [.ref b] (fun U => U.heap.size = sz ∧ va_P D vwCl [(b, .inr (5, [.null, .null, .null, .null, .null]))] U.heap ∧ va_K D vwCl [] U ∧ va_D (fun _ => True) [(b, .inr (5, [.null, .null, .null, .null, .null]))] ∧ U.vm.findClass "[I" = some cI ∧ U.vm.findClass "[Z" = some cB ∧ va_Nw (.methodLinkNest "LooseHeap" 34 ⟨"LooseHeap$Lots", "<init>", "()V"⟩ "LooseHeap") U ∧ va_AO "LooseHeap$Image" U)) (va_Qv (fun u : va_W × ClassId => wLoose cI cB u.2 b u.1) (fun u t => va_P D vwCl u.1 t.heap ∧ va_K D vwCl [(cI, .int), (cB, .boolean), (u.2, .object "LooseHeap$Image")] t ∧ va_D (va_A [(b, .inr (5, [.null, .null, .null, .null, .null]))] sz) u.1) (va_A [(b, .inr (5, [.null, .null, .null, .null, .null]))] sz)) 55 1618 (va_A [(b, .inr (5, [.null, .null, .null, .null, .null]))] sz) := by
  refine Met.ofW (cc := cX6_init) (maxL := 2) (ret := none) (by decide +kernel) rfl ?_
  intro p e s m args below meth c s₁ B hml hv
  obtain ⟨rfl, hsz, hP, hK, hD0, hfi, hfz, hnw, hao⟩ := hv
  have hts := atoms_spec (ws := Cond.code yX6_init cX6_init 2 none :: tW) B.pre
  have hown : s.vm.findClass RX6 = some m.cls := findClass_of_methodNamed B.named
  have hin : meth.name = "<init>" := (name_of_methodNamed B.named B.method).1
  subst hsz
  have hD := hD0.self (sz := s.heap.size)
  generalize hAe : va_A [(b, .inr (5, [.null, .null, .null, .null, .null]))] s.heap.size = A at hD ⊢
  have hA : ∀ q : Nat, s.heap.size ≤ q → A q := fun q h => by rw [← hAe]; exact Or.inr h
  have htw : ∀ w ∈ tW, w.before _ s = true := fun w hw => hts w (List.mem_cons_of_mem _ hw)
  have F : CF p c cX6_init 2 s _ RX6 m A s.heap cI cB := ⟨B.exec, B.bytes, hml, hown, htw, hA, hfi, hfz⟩
  have I : CV D s [(b, .inr (5, [.null, .null, .null, .null, .null]))] s.heap [] A s.heap := ⟨hK, hP, hD, va_S.rf⟩
  have hl := lv_entry ([.ref b]) (n := 2) (Nat.le_of_ble_eq_true rfl)
  rw [lg_entry_eq]
  generalize (lg_sl ([.ref b]) ++ List.replicate (2 - (lg_sl ([.ref b])).length) Slot.unset).toArray = ls at hl ⊢
  have hl : lv_has ls 2 [(0, .ref b)] := hl
  refine lv_aload_n B.exec B.bytes dX6_init_0 rfl (lv_at hl 0 rfl) ?_
  refine k_obj F w_62 hl.1 dX6_init_1 (Nat.le_of_ble_eq_true rfl) (Nat.le_of_ble_eq_true rfl) ?_
  refine lv_aload_n B.exec B.bytes dX6_init_4 rfl (lv_at hl 0 rfl) ?_
  refine k_new F I co_X2 (fs := fHeap) (fun j hj => by match j, hj with | 0, _ => rfl | 1, _ => rfl | 2, _ => rfl | 3, _ => rfl | 4, _ => rfl | 5, _ => rfl | 6, _ => rfl | 7, _ => rfl | 8, _ => rfl | 9, _ => rfl | 10, _ => rfl | 11, _ => rfl | 12, _ => rfl | 13, _ => rfl | 14, _ => rfl) w_65 w_66 w_47 (Nat.le_of_ble_eq_true rfl) (Nat.le_of_ble_eq_true rfl) dX6_init_5 (fun h H I => ?_)
  refine lv_dup B.exec B.bytes dX6_init_8 rfl ?_
  refine lv_bipush (v := nI 40) B.exec B.bytes dX6_init_9 (by decide) ?_
  refine k_call F I (i_X2 (r := 40) (by omega)) rfl w_69 w_47 w_67 w_68 ⟨by decide, by decide, by decide +kernel⟩ ⟨Nat.le_of_ble_eq_true rfl, Nat.le_of_ble_eq_true rfl⟩ hl.1 (Nat.le_of_ble_eq_true rfl) dX6_init_11 ⟨Nat.le_of_ble_eq_true rfl, Nat.le_of_ble_eq_true rfl⟩ (fun wh tywh H locs hpwh hkwh I => ?_)
  refine k_putF F hin I co_X6 0 rfl 0 (by decide) w_196 rfl rfl (ty := .object "LooseHeap$Heap") (by decide +kernel) rfl rfl (Nat.le_of_ble_eq_true rfl) dX6_init_14 (fun H locs I => ?_)
  have I : CV D s ((b, .inr (5, [.ref h, .null, .null, .null, .null])) :: (wh)) H locs A s.heap := I
  refine lv_aload_n B.exec B.bytes dX6_init_17 rfl (lv_at hl 0 rfl) ?_
  refine k_new F I co_X0 (fs := [.null]) (fun j hj => by match j, hj with | 0, _ => rfl) w_119 w_120 w_48 (Nat.le_of_ble_eq_true rfl) (Nat.le_of_ble_eq_true rfl) dX6_init_18 (fun n H I => ?_)
  refine lv_dup B.exec B.bytes dX6_init_21 rfl ?_
  refine k_call F I i_X0 rfl w_123 w_48 w_121 w_122 ⟨by decide, by decide, by decide +kernel⟩ ⟨Nat.le_of_ble_eq_true rfl, Nat.le_of_ble_eq_true rfl⟩ hl.1 (Nat.le_of_ble_eq_true rfl) dX6_init_22 ⟨Nat.le_of_ble_eq_true rfl, Nat.le_of_ble_eq_true rfl⟩ (fun wb tywb H locs hpwb hkwb I => ?_)
  refine k_putF F hin I co_X6 0 rfl 1 (by decide) w_197 rfl rfl (ty := .object "LooseHeap$Benches") (by decide +kernel) rfl rfl (Nat.le_of_ble_eq_true rfl) dX6_init_25 (fun H locs I => ?_)
  have I : CV D s ((b, .inr (5, [.ref h, .ref n, .null, .null, .null])) :: (wh ++ wb)) H locs A s.heap := I
  refine lv_aload_n B.exec B.bytes dX6_init_28 rfl (lv_at hl 0 rfl) ?_
  refine k_new F I co_X5 (fs := [.null, .null, .null, .null, .null, .int 0, .int 0, .int 0]) (fun j hj => by match j, hj with | 0, _ => rfl | 1, _ => rfl | 2, _ => rfl | 3, _ => rfl | 4, _ => rfl | 5, _ => rfl | 6, _ => rfl | 7, _ => rfl) w_132 w_133 w_50 (Nat.le_of_ble_eq_true rfl) (Nat.le_of_ble_eq_true rfl) dX6_init_29 (fun r H I => ?_)
  refine lv_dup B.exec B.bytes dX6_init_32 rfl ?_
  refine k_call F I i_X5 rfl w_136 w_50 w_134 w_135 ⟨by decide, by decide, by decide +kernel⟩ ⟨Nat.le_of_ble_eq_true rfl, Nat.le_of_ble_eq_true rfl⟩ hl.1 (Nat.le_of_ble_eq_true rfl) dX6_init_33 ⟨Nat.le_of_ble_eq_true rfl, Nat.le_of_ble_eq_true rfl⟩ (fun wr tywr H locs hpwr hkwr I => ?_)
  refine k_putF F hin I co_X6 0 rfl 2 (by decide) w_198 rfl rfl (ty := .object "LooseHeap$Roads") (by decide +kernel) rfl rfl (Nat.le_of_ble_eq_true rfl) dX6_init_36 (fun H locs I => ?_)
  have I : CV D s ((b, .inr (5, [.ref h, .ref n, .ref r, .null, .null])) :: (wh ++ wb ++ wr)) H locs A s.heap := I
  refine lv_aload_n B.exec B.bytes dX6_init_39 rfl (lv_at hl 0 rfl) ?_
  refine k_new F I co_X4 (fs := [.long 0]) (fun j hj => by match j, hj with | 0, _ => rfl) w_165 w_166 w_51 (Nat.le_of_ble_eq_true rfl) (Nat.le_of_ble_eq_true rfl) dX6_init_40 (fun o H I => ?_)
  refine lv_dup B.exec B.bytes dX6_init_43 rfl ?_
  refine k_callN F I i_X4 rfl w_169 w_51 hnw w_168 ⟨by decide, by decide, by decide +kernel⟩ ⟨Nat.le_of_ble_eq_true rfl, Nat.le_of_ble_eq_true rfl⟩ hl.1 (Nat.le_of_ble_eq_true rfl) dX6_init_44 ⟨Nat.le_of_ble_eq_true rfl, Nat.le_of_ble_eq_true rfl⟩ (fun wo tywo H locs hpwo hkwo I => ?_)
  have ewo : wo = [(o, .inr (3, [.long 0]))] := hpwo
  subst ewo
  refine k_putF F hin I co_X6 0 rfl 3 (by decide) w_199 rfl rfl (ty := .object "LooseHeap$Lots") (by decide +kernel) rfl rfl (Nat.le_of_ble_eq_true rfl) dX6_init_47 (fun H locs I => ?_)
  have I : CV D s ((b, .inr (5, [.ref h, .ref n, .ref r, .ref o, .null])) :: (wh ++ wb ++ wr ++ [(o, .inr (3, [.long 0]))])) H locs A s.heap := I
  refine lv_aload_n B.exec B.bytes dX6_init_50 rfl (lv_at hl 0 rfl) ?_
  refine lv_iconst (v := 2) B.exec B.bytes dX6_init_51 (by decide) ?_
  obtain ⟨j1, j2, j3, j4⟩ := I
  refine va_newq (C := "LooseHeap$Image") B.exec B.bytes hown (htw _ w_175) hao j1 j2 j3 j4 hA (N' := 2) (by decide) rfl (Nat.le_of_ble_eq_true rfl) (Nat.le_of_ble_eq_true rfl) (Nat.le_of_ble_eq_true rfl) dX6_init_52 (fun im cM H kM j2 j3 j4 => ?_)
  have I : CV D s ((b, .inr (5, [.ref h, .ref n, .ref r, .ref o, .null])) :: (wh ++ wb ++ wr ++ [(o, .inr (3, [.long 0]))] ++ [(im, .inl (cM, 2, .inr (.inr (.inr (.inr (fun _ => none))))))])) H locs A s.heap := ⟨j1, j2, j3, j4⟩
  refine k_putF F hin I co_X6 0 rfl 4 (by decide) w_200 rfl rfl (ty := .array (.object "LooseHeap$Image")) (by decide +kernel) rfl rfl (Nat.le_of_ble_eq_true rfl) dX6_init_55 (fun H locs I => ?_)
  have I : CV D s ((b, .inr (5, [.ref h, .ref n, .ref r, .ref o, .ref im])) :: (wh ++ wb ++ wr ++ [(o, .inr (3, [.long 0]))] ++ [(im, .inl (cM, 2, .inr (.inr (.inr (.inr (fun _ => none))))))])) H locs A s.heap := I
  obtain ⟨pre, hpre⟩ : ∃ pre : va_W, pre = (b, .inr (5, [.ref h, .ref n, .ref r, .ref o, .ref im])) :: (wh ++ wb ++ wr ++ [(o, .inr (3, [.long 0]))]) := ⟨_, rfl⟩
  have I : CV D s (pre ++ [(im, .inl (cM, 2, .inr (.inr (.inr (.inr (fun _ => none))))))]) H locs A s.heap := by rw [hpre]; exact I
  refine lv_iconst (v := 0) B.exec B.bytes dX6_init_58 (by decide) ?_
  refine lv_istore_n B.exec B.bytes dX6_init_59 rfl hl (by decide) rfl (fun ls0 hl0 => ?_)
  have hl0 : lv_has ls0 2 [(1, .int 0), (0, .ref b)] := hl0
  refine lv_iload_n B.exec B.bytes dX6_init_60 rfl (lv_at hl0 0 rfl) ?_
  refine lv_iconst (v := 2) B.exec B.bytes dX6_init_61 (by decide) ?_
  refine lv_icmp_ge (tgt := 84) B.exec B.bytes dX6_init_62 (by decide) (fun q => absurd q (by decide)) (fun _ => ?_)
  refine lv_aload_n B.exec B.bytes dX6_init_65 rfl (lv_at hl0 1 rfl) ?_
  obtain ⟨j1, j2, j3, j4⟩ := I
  refine va_get (D := D) (cl := vwCl) (ci := 5) (v := .ref im) (C := RX6) (T := TX6) (N := 5) B.exec B.bytes htw co_X6.2.2.1 hown j1 j2 0 (by rw [hpre]; rfl) rfl 4 (by decide) (htw _ w_200) (fun _ h9 => h9) rfl dX6_init_66 ?_
  have I : CV D s (pre ++ [(im, .inl (cM, 2, .inr (.inr (.inr (.inr (fun _ => none))))))]) H locs A s.heap := ⟨j1, j2, j3, j4⟩
  refine lv_iload_n B.exec B.bytes dX6_init_69 rfl (lv_at hl0 0 rfl) ?_
  refine k_new F I co_X3 (fs := [.null, .null, .int 0]) (fun j hj => by match j, hj with | 0, _ => rfl | 1, _ => rfl | 2, _ => rfl) w_175 w_177 w_52 (Nat.le_of_ble_eq_true rfl) (Nat.le_of_ble_eq_true rfl) dX6_init_70 (fun i0 H I => ?_)
  refine lv_dup B.exec B.bytes dX6_init_73 rfl ?_
  refine k_call F I i_X3 rfl w_180 w_52 w_178 w_179 ⟨by decide, by decide, by decide +kernel⟩ ⟨Nat.le_of_ble_eq_true rfl, Nat.le_of_ble_eq_true rfl⟩ hl0.1 (Nat.le_of_ble_eq_true rfl) dX6_init_74 ⟨Nat.le_of_ble_eq_true rfl, Nat.le_of_ble_eq_true rfl⟩ (fun w0 ty0 H locs hp0 hk0 I => ?_)
  have hw0 := hp0.1
  obtain ⟨h0, n0, wh0, wb0, a0, b0, e0⟩ := hw0
  subst e0
  obtain ⟨j1, j2, j3, j4⟩ := I
  have kM' : va_K D vwCl [(cM, .object "LooseHeap$Image")] s := kM
  refine va_astq (r := (RX3, TX3, 3)) B.exec B.bytes kM' j2 j3 j4 pre.length 0 (pre.length + 1) 2 (g_mid pre _ _) rfl (g_n1 pre _ _ _) rfl (show vp_in (nI 0) 2 from vp_in_nI (by omega) (by omega)) dX6_init_77 (fun H locs j2 j3 j4 => ?_)
  have e1' : (0 : Int32).toNatClampNeg = 0 := rfl
  rw [s_mid] at j2 j3
  have I : CV D s (pre ++ [(im, .inl (cM, 2, .inr (.inr (.inr (.inr (va_up (fun _ => none) 0 (some i0)))))))] ++ ((i0, .inr (2, [.ref h0, .ref n0, .int 0])) :: (wh0 ++ wb0))) H locs A s.heap := ⟨j1, j2, j3, j4⟩
  refine lv_iinc (v := 1) B.exec B.bytes dX6_init_78 hl0 (k := 0) rfl rfl (by decide) rfl (fun ls1 hl1 => ?_)
  have hl1 : lv_has ls1 2 [(1, .int 1), (0, .ref b)] := hl1
  refine lv_goto (tgt := 60) B.exec B.bytes dX6_init_81 (by decide) ?_
  refine lv_iload_n B.exec B.bytes dX6_init_60 rfl (lv_at hl1 0 rfl) ?_
  refine lv_iconst (v := 2) B.exec B.bytes dX6_init_61 (by decide) ?_
  refine lv_icmp_ge (tgt := 84) B.exec B.bytes dX6_init_62 (by decide) (fun q => absurd q (by decide)) (fun _ => ?_)
  refine lv_aload_n B.exec B.bytes dX6_init_65 rfl (lv_at hl1 1 rfl) ?_
  obtain ⟨j1, j2, j3, j4⟩ := I
  refine va_get (D := D) (cl := vwCl) (ci := 5) (v := .ref im) (C := RX6) (T := TX6) (N := 5) B.exec B.bytes htw co_X6.2.2.1 hown j1 j2 0 (by rw [hpre]; rfl) rfl 4 (by decide) (htw _ w_200) (fun _ h9 => h9) rfl dX6_init_66 ?_
  have I : CV D s (pre ++ [(im, .inl (cM, 2, .inr (.inr (.inr (.inr (va_up (fun _ => none) 0 (some i0)))))))] ++ ((i0, .inr (2, [.ref h0, .ref n0, .int 0])) :: (wh0 ++ wb0))) H locs A s.heap := ⟨j1, j2, j3, j4⟩
  refine lv_iload_n B.exec B.bytes dX6_init_69 rfl (lv_at hl1 0 rfl) ?_
  refine k_new F I co_X3 (fs := [.null, .null, .int 0]) (fun j hj => by match j, hj with | 0, _ => rfl | 1, _ => rfl | 2, _ => rfl) w_175 w_177 w_52 (Nat.le_of_ble_eq_true rfl) (Nat.le_of_ble_eq_true rfl) dX6_init_70 (fun i1 H I => ?_)
  refine lv_dup B.exec B.bytes dX6_init_73 rfl ?_
  refine k_call F I i_X3 rfl w_180 w_52 w_178 w_179 ⟨by decide, by decide, by decide +kernel⟩ ⟨Nat.le_of_ble_eq_true rfl, Nat.le_of_ble_eq_true rfl⟩ hl1.1 (Nat.le_of_ble_eq_true rfl) dX6_init_74 ⟨Nat.le_of_ble_eq_true rfl, Nat.le_of_ble_eq_true rfl⟩ (fun w1 ty1 H locs hp1 hk1 I => ?_)
  have hw1 := hp1.1
  obtain ⟨h1, n1, wh1, wb1, a1, b1, e1⟩ := hw1
  subst e1
  obtain ⟨j1, j2, j3, j4⟩ := I
  have kM' : va_K D vwCl [(cM, .object "LooseHeap$Image")] s := kM
  refine va_astq (r := (RX3, TX3, 3)) B.exec B.bytes kM' j2 j3 j4 pre.length 0 (pre.length + 1 + ((i0, .inr (2, [.ref h0, .ref n0, .int 0])) :: (wh0 ++ wb0)).length) 2 (by rw [List.append_assoc]; exact g_mid pre _ _) rfl (g_nx pre _ _ ((i0, .inr (2, [.ref h0, .ref n0, .int 0])) :: (wh0 ++ wb0)) _) rfl (show vp_in (nI 1) 2 from vp_in_nI (by omega) (by omega)) dX6_init_77 (fun H locs j2 j3 j4 => ?_)
  rw [List.append_assoc, s_mid] at j2 j3
  have ew : pre ++ [(im, .inl (cM, 2, .inr (.inr (.inr (.inr (im2 i0 i1))))))] ++ (((i0, .inr (2, [.ref h0, .ref n0, .int 0])) :: (wh0 ++ wb0)) ++ ((i1, .inr (2, [.ref h1, .ref n1, .int 0])) :: (wh1 ++ wb1))) = (b, .inr (5, [.ref h, .ref n, .ref r, .ref o, .ref im])) :: (wh ++ wb ++ wr ++ [(o, .inr (3, [.long 0])), (im, .inl (cM, 2, .inr (.inr (.inr (.inr (im2 i0 i1))))))] ++ ((i0, .inr (2, [.ref h0, .ref n0, .int 0])) :: (wh0 ++ wb0)) ++ ((i1, .inr (2, [.ref h1, .ref n1, .int 0])) :: (wh1 ++ wb1))) := by rw [hpre]; simp
  have j2 : va_P D vwCl (pre ++ [(im, .inl (cM, 2, .inr (.inr (.inr (.inr (im2 i0 i1))))))] ++ (((i0, .inr (2, [.ref h0, .ref n0, .int 0])) :: (wh0 ++ wb0)) ++ ((i1, .inr (2, [.ref h1, .ref n1, .int 0])) :: (wh1 ++ wb1)))) H := j2
  have j3 : va_D A (pre ++ [(im, .inl (cM, 2, .inr (.inr (.inr (.inr (im2 i0 i1))))))] ++ (((i0, .inr (2, [.ref h0, .ref n0, .int 0])) :: (wh0 ++ wb0)) ++ ((i1, .inr (2, [.ref h1, .ref n1, .int 0])) :: (wh1 ++ wb1)))) := j3
  rw [ew] at j2 j3
  refine lv_iinc (v := 2) B.exec B.bytes dX6_init_78 hl1 (k := 0) rfl rfl (by decide) rfl (fun ls2 hl2 => ?_)
  have hl2 : lv_has ls2 2 [(1, .int 2), (0, .ref b)] := hl2
  refine lv_goto (tgt := 60) B.exec B.bytes dX6_init_81 (by decide) ?_
  refine lv_iload_n B.exec B.bytes dX6_init_60 rfl (lv_at hl2 0 rfl) ?_
  refine lv_iconst (v := 2) B.exec B.bytes dX6_init_61 (by decide) ?_
  refine lv_icmp_ge (tgt := 84) B.exec B.bytes dX6_init_62 (by decide) (fun _ => ?_) (fun q => absurd (by decide) q)
  refine W.widen (k := 55) (n := 1618) (Nat.le_of_ble_eq_true rfl) (Nat.le_of_ble_eq_true rfl) ?_
  exact W.vret B.exec B.bytes B.returns (fun t ht hW => ⟨⟨(_, cM), rfl, ⟨h, n, r, o, im, i0, i1, wh, wb, wr, ((i0, .inr (2, [.ref h0, .ref n0, .int 0])) :: (wh0 ++ wb0)), ((i1, .inr (2, [.ref h1, .ref n1, .int 0])) :: (wh1 ++ wb1)), hpwh.1, hpwb.1, hpwr.1, ⟨h0, n0, wh0, wb0, a0, b0, rfl⟩, ⟨h1, n1, wh1, wb1, a1, b1, rfl⟩, rfl⟩, by rw [ht]; exact j2, va_K.moved hW.alike (by have := hkwh; rw [hpwh.2] at this; exact this.app kM'), j3⟩, j4.F ht⟩) j4.2.2 dX6_init_84
end INI8

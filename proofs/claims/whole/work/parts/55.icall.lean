/-! a new object and its constructor's call -/
section INI5
variable {p : Program} {l : Launch} {e : Env} {R : Room} {s : State} {m : MethodId} {args : Array Value} {below : List Frame} {meth : Method} {c : Code} {H H0 : Heap} {locs : List Loc} {cells slots : Nat} {Z : State → Prop} {ls : Array Slot} {rest : List Value} {A : Nat → Prop} {D : va_G} {ws : va_W} {cc : ByteArray} {own : String} {nL pc : Nat} {cI cB : ClassId}
theorem k_new (F : CF p c cc nL s args own m A H0 cI cB) (I : CV D s ws H locs A H0) {ci ka N index : Nat} {C : String} {T : u_T} {ty0 : Nat → FieldType} (co : CO ci ka C T N ty0) {fs : List Value} (hfs : ∀ j, j < N → defaultValue (ty0 j) = vp_V fs j) (hw1 : Cond.classLink own index C ∈ tW) (hw2 : Cond.instantiable C N ∈ tW) (hw3 : Cond.initialized C ∈ tW) (hc : cells + 1 ≤ R.cells) (hs : slots + N ≤ R.slots) (hd : decode cc pc = .ok (.new index, 3)) (kk : ∀ (q : Nat) (H1 : Heap), CV D s (ws ++ [(q, .inr (ci, fs))]) H1 locs A H0 → W p l e R s m args below meth c H1 locs (cells + 1) (slots + N) Z (F0 m (pc + 3) ls (.ref q :: rest))) : W p l e R s m args below meth c H locs cells slots Z (F0 m pc ls rest) := by
  obtain ⟨f1, f2, f3, f4, f5, f6, f7, f8⟩ := F
  obtain ⟨i1, i2, i3, i4⟩ := I
  exact va_new (ci := ci) (fs := fs) (C := C) (T := T) (N := N) f1 f2 f5 co.2.2.1 ty0 co.2.2.2.1 f4 (f5 _ hw1) (f5 _ hw2) (f5 _ hw3) i1 i2 i3 i4 f6 co.2.1 hfs hc hs hd (fun q H1 h1 h2 h3 => kk q H1 ⟨i1, h1, h2, h3⟩)
theorem nd_of : ∀ l : List Nat, l.Nodup → va_nd l = true
  | [], _ => rfl
  | a :: l, h => by
    have h1 := List.nodup_cons.mp h
    simp only [va_nd, Bool.and_eq_true, decide_eq_true_eq]
    exact ⟨h1.1, nd_of l h1.2⟩
theorem nd_range (n : Nat) : va_nd (List.range n) = true := nd_of _ List.nodup_range
theorem at_range {α : Type} (ws : List α) (x : α) : (List.range ws.length).map (fun i => (ws ++ [x])[i]?) = ws.map some := by
  apply List.ext_getElem?
  intro i
  rw [List.getElem?_map, List.getElem?_map]
  by_cases h : i < ws.length
  · rw [List.getElem?_range h, List.getElem?_eq_getElem h]
    simp [List.getElem?_append_left h, List.getElem?_eq_getElem h]
  · rw [List.getElem?_eq_none (by simpa using h), List.getElem?_eq_none (by omega)]
    rfl
theorem k_call (F : CF p c cc nL s args own m A H0 cI cB) {b ci fr lo mL mc ms index : Nat} {y : MethodName} {bytes : ByteArray} {fs0 As : List Value} {Post : Nat → va_W → List (ClassId × FieldType) → Prop} (I : CV D s (ws ++ [(b, .inr (ci, fs0))]) H locs A H0) (hM : Ini l D cI cB y bytes mL fr lo ci fs0 As mc ms Post) (hy : y.name = "<init>") (hwc : Cond.code y bytes mL none ∈ tW) (hwi : Cond.initialized y.cls ∈ tW) (hwl : Cond.methodLink own index y ∈ tW) (hwm : Cond.instanceMethod y ∈ tW) (hyd : y.cls ≠ "java/lang/invoke/MethodHandle" ∧ y.cls ≠ "java/lang/invoke/VarHandle" ∧ (parseMethodDescriptor y.desc).map (fun d => d.parameters.length) = some As.length) (hR : fr + 1 ≤ R.frames ∧ 8 + (mL + 11) + lo ≤ R.locals) (hl : ls.size = nL) (hcat : (rest.map fun v => v.category).sum ≤ 8) (hd : decode cc pc = .ok (.invokespecial index, 3)) (hf : cells + mc ≤ R.cells ∧ slots + ms ≤ R.slots) (kk : ∀ (w : va_W) (tys : List (ClassId × FieldType)) (H1 : Heap) (locs1 : List Loc), Post b w tys → va_K D vwCl tys s → CV D s (ws ++ w) H1 locs1 A H0 → W p l e R s m args below meth c H1 locs1 (cells + mc) (slots + ms) Z (F0 m (pc + 3) ls rest)) : W p l e R s m args below meth c H locs cells slots Z (F0 m pc ls (As.reverse ++ .ref b :: rest)) := by
  obtain ⟨f1, f2, f3, f4, f5, f6, f7, f8⟩ := F
  obtain ⟨hK, hP, hD, hS⟩ := I
  have hi : [ws.length].map (fun i => (ws ++ [(b, .inr (ci, fs0))])[i]?) = [((b, .inr (ci, fs0)) : Nat × va_E)].map some := by simp
  have hPc := hP.sub (ws' := [(b, .inr (ci, fs0))]) [ws.length] (by simp)
  have hDc := hD.sub (ws' := [(b, .inr (ci, fs0))]) [ws.length] rfl hi
  have hFc := va_free (wc := [(b, .inr (ci, fs0))]) hD hS f6 [ws.length] hi
  refine va_callv (va_runI (As := As) (rest := rest) (nL := nL) ⟨f1, f2, f3, f4, f5⟩ (hM b H.size) ⟨callB_of As.length f5 (good_code hwc) rfl rfl rfl (f5 _ hwi) (f5 _ hwl) hyd hR, hy, f5 _ hwm⟩ ⟨fun a U g mk q => by obtain ⟨q0, q1, qP, qK, qD, qi, qz⟩ := q; exact ⟨q0, q1, qP, va_K.moved (u := U) (U := U.calling g mk a) (Vm.Alike.refl U.vm) qK, qD, qi, qz⟩, fun U hU hW => ⟨rfl, by rw [hU], by rw [hU]; exact hPc, va_K.moved hW.alike hK, hDc.weaken (fun _ _ _ _ => trivial), by rw [hW.alike.findClass]; exact f7, by rw [hW.alike.findClass]; exact f8⟩⟩ rfl rfl hl rfl (lv_room hcat) hd hf) hS (fun q _ h => hFc q h) hFc (fun u t H1 locs1 ht hvm h5 hB hz1 hk1 hS => ?_)
  obtain ⟨hP1, hK1, hD1⟩ := hB
  rw [ht] at hP1
  have hK1 := va_K.moved hvm.symm hK1
  obtain ⟨hP, hD⟩ := va_join (wr := ws) (w1 := u.1) hP hD [ws.length] (List.range ws.length) hi (at_range ws _) (nd_range _) (fun i hi h => by
    have := List.mem_range.mp hi
    rw [List.mem_singleton.mp h] at this
    omega) hk1 hFc hP1 hD1
  exact kk u.1 u.2 H1 locs1 h5 hK1 ⟨hK, hP, hD, hS⟩
end INI5

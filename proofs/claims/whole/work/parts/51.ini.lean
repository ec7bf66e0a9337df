/-! THE CONSTRUCTORS: steps on fresh cells -/
section INI
variable {p : Program} {l : Launch} {e : Env} {R : Room} {s : State} {m : MethodId} {args : Array Value} {below : List Frame} {meth : Method} {c : Code} {H H0 : Heap} {locs : List Loc} {cells slots : Nat} {Z : State → Prop} {ls : Array Slot} {rest : List Value} {A : Nat → Prop} {D : va_G} {ws : va_W} {cc : ByteArray} {own : String} {nL pc : Nat} {cI cB : ClassId}
/-- what stays throughout a constructor -/
def CF (p : Program) (c : Code) (cc : ByteArray) (nL : Nat) (s : State) (args : Array Value) (own : String) (m : MethodId) (A : Nat → Prop) (H0 : Heap) (cI cB : ClassId) : Prop :=
  p.tables.exec = Jvm.exec ∧ c.code = cc ∧ c.maxLocals = nL ∧ s.vm.findClass own = some m.cls ∧ (∀ w ∈ tW, w.before args s = true) ∧ (∀ q, H0.size ≤ q → A q) ∧ s.vm.findClass "[I" = some cI ∧ s.vm.findClass "[Z" = some cB
/-- the cells made so far -/
def CV (D : va_G) (s : State) (ws : va_W) (H : Heap) (locs : List Loc) (A : Nat → Prop) (H0 : Heap) : Prop := va_K D vwCl [] s ∧ va_P D vwCl ws H ∧ va_D A ws ∧ va_S A H0 H locs
theorem k_int (F : CF p c cc nL s args own m A H0 cI cB) (I : CV D s ws H locs A H0) {n : Int32} {N : Nat} (hn : ¬ n < 0) (hN : n.toNatClampNeg = N) (hB : N ≤ 1000) (hc : cells + 1 ≤ R.cells) (hs : slots + N ≤ R.slots) (hd : decode cc pc = .ok (.newarray .int, 2)) (kk : ∀ (q : Nat) (H1 : Heap), va_K D vwCl [(cI, .int)] s → CV D s (ws ++ [(q, .inl (cI, N, .inl (fun _ => 0)))]) H1 locs A H0 → W p l e R s m args below meth c H1 locs (cells + 1) (slots + N) Z (F0 m (pc + 2) ls (.ref q :: rest))) : W p l e R s m args below meth c H locs cells slots Z (F0 m pc ls (.int n :: rest)) := by
  obtain ⟨f1, f2, f3, f4, f5, f6, f7, f8⟩ := F
  obtain ⟨i1, i2, i3, i4⟩ := I
  refine va_newa (atype := .int) (ty := .int) (a0 := (N, .inl (fun _ => 0))) f1 f2 (f5 _ w_117) rfl i1 i2 i3 i4 f6 (fun cA => rfl) hn hN (by show N * 4 ≤ _; omega) hc hs hd (fun q cA H1 k1 k2 k3 k4 => ?_)
  have e1 : s.vm.findClass "[I" = some cA := (k1.2 0 (cA, .int) rfl).2
  have e2 : cA = cI := by
    rw [f7] at e1
    exact (Option.some.inj e1).symm
  subst e2
  exact kk q H1 k1 ⟨i1, k2, k3, k4⟩
theorem k_bool (F : CF p c cc nL s args own m A H0 cI cB) (I : CV D s ws H locs A H0) {n : Int32} {N : Nat} (hn : ¬ n < 0) (hN : n.toNatClampNeg = N) (hB : N ≤ 1000) (hc : cells + 1 ≤ R.cells) (hs : slots + N ≤ R.slots) (hd : decode cc pc = .ok (.newarray .boolean, 2)) (kk : ∀ (q : Nat) (H1 : Heap), va_K D vwCl [(cB, .boolean)] s → CV D s (ws ++ [(q, .inl (cB, N, .inl (fun _ => 0)))]) H1 locs A H0 → W p l e R s m args below meth c H1 locs (cells + 1) (slots + N) Z (F0 m (pc + 2) ls (.ref q :: rest))) : W p l e R s m args below meth c H locs cells slots Z (F0 m pc ls (.int n :: rest)) := by
  obtain ⟨f1, f2, f3, f4, f5, f6, f7, f8⟩ := F
  obtain ⟨i1, i2, i3, i4⟩ := I
  refine va_newa (atype := .boolean) (ty := .boolean) (a0 := (N, .inl (fun _ => 0))) f1 f2 (f5 _ w_118) rfl i1 i2 i3 i4 f6 (fun cA => rfl) hn hN (by show N * 1 ≤ _; omega) hc hs hd (fun q cA H1 k1 k2 k3 k4 => ?_)
  have e1 : s.vm.findClass "[Z" = some cA := (k1.2 0 (cA, .boolean) rfl).2
  have e2 : cA = cB := by
    rw [f8] at e1
    exact (Option.some.inj e1).symm
  subst e2
  exact kk q H1 k1 ⟨i1, k2, k3, k4⟩
theorem k_putF (F : CF p c cc nL s args own m A H0 cI cB) (hin : meth.name = "<init>") (I : CV D s ws H locs A H0) {ci ka N index a : Nat} {T : u_T} {ty0 : Nat → FieldType} (co : CO ci ka own T N ty0) (q0 : Nat) {fs : List Value} (he : ws[q0]? = some (a, .inr (ci, fs))) (k : Nat) (hk : k < N) (hw : Cond.fieldLink own index (T k).1 (T k).2.1 (T k).2.2.1 ∈ tW) (hfin : (T k).2.2.2 = true) (hdecl : (T k).1 = own) {ty : FieldType} {v : Value} (hd : parseFieldDescriptor (T k).2.2.1 = some ty) (hn : narrow ty v = v) (hfit : fits ty v = true) (hl : k < fs.length) (hdg : decode cc pc = .ok (.putfield index, 3)) (kk : ∀ (H1 : Heap) (locs1 : List Loc), CV D s (ws.set q0 (a, .inr (ci, fs.set k v))) H1 locs1 A H0 → W p l e R s m args below meth c H1 locs1 cells slots Z (F0 m (pc + 3) ls rest)) : W p l e R s m args below meth c H locs cells slots Z (F0 m pc ls (v :: .ref a :: rest)) := by
  obtain ⟨f1, f2, f3, f4, f5, f6, f7, f8⟩ := F
  obtain ⟨i1, i2, i3, i4⟩ := I
  exact va_putF (D := D) (cl := vwCl) (ci := ci) (C := own) (T := T) (N := N) f1 f2 f5 co.2.2.1 ty0 co.2.2.2.1 co.2.2.2.2 f4 i1 i2 i3 i4 q0 he co.2.1 k hk (f5 _ hw) (fun _ h9 => h9) hfin hin hdecl hd hn hfit hl hdg (fun H1 locs1 h1 h2 h3 => kk H1 locs1 ⟨i1, h1, h2, h3⟩)
theorem k_obj (F : CF p c cc nL s args own m A H0 cI cB) {idx a : Nat} (hw : Cond.methodLink own idx objectInit ∈ tW) (hl : ls.size = nL) (hd : decode cc pc = .ok (.invokespecial idx, 3)) (h1 : 1 ≤ R.frames) (h2 : (rest.map fun v => v.category).sum + 12 ≤ R.locals) (kk : W p l e R s m args below meth c H locs cells slots Z (F0 m (pc + 3) ls rest)) : W p l e R s m args below meth c H locs cells slots Z (F0 m pc ls (.ref a :: rest)) := by
  obtain ⟨f1, f2, f3, f4, f5, f6, f7, f8⟩ := F
  exact W.objInit f1 f2 f4 (f5 _ hw) (f5 _ w_63) (f5 _ w_64) rfl (by rw [f3]; exact hl) rfl hd h1 (by show 2 * 0 + _ + 12 ≤ _; omega) kk
/-- a constructor's contract: on a fresh cell of class ci -/
def Ini (l : Launch) (D : va_G) (cI cB : ClassId) (y : MethodName) (bytes : ByteArray) (mL fr lo ci : Nat) (fs0 As : List Value) (mc ms : Nat) (Post : Nat → va_W → List (ClassId × FieldType) → Prop) : Prop :=
  ∀ b sz : Nat, Met l y (Cond.code y bytes mL none :: tW) ({ frames := fr, cells := mc, slots := ms, locals := lo }) (va_Pc (.ref b :: As) (fun U => U.heap.size = sz ∧ va_P D vwCl [(b, .inr (ci, fs0))] U.heap ∧ va_K D vwCl [] U ∧ va_D (fun _ => True) [(b, .inr (ci, fs0))] ∧ U.vm.findClass "[I" = some cI ∧ U.vm.findClass "[Z" = some cB)) (va_Qv (fun u : va_W × List (ClassId × FieldType) => Post b u.1 u.2) (fun u t => va_P D vwCl u.1 t.heap ∧ va_K D vwCl u.2 t ∧ va_D (va_A [(b, .inr (ci, fs0))] sz) u.1) (va_A [(b, .inr (ci, fs0))] sz)) mc ms (va_A [(b, .inr (ci, fs0))] sz)
/-- Lots() -/
theorem i_X4 : Ini l D cI cB yX4_init cX4_init 1 1 12 3 [.long 0] [] 0 0 (fun b w _ => w = [(b, .inr (3, [.long 0]))]) := by
  intro b sz
  refine Met.ofW (cc := cX4_init) (maxL := 1) (ret := none) (by decide +kernel) rfl ?_
  intro p e s m args below meth c s₁ B hml hv
  obtain ⟨rfl, hsz, hP, hK, hD0, hfi, hfz⟩ := hv
  have hts := atoms_spec (ws := Cond.code yX4_init cX4_init 1 none :: tW) B.pre
  have hown : s.vm.findClass RX4 = some m.cls := findClass_of_methodNamed B.named
  subst hsz
  have hD := hD0.self (sz := s.heap.size)
  have hA : ∀ q : Nat, s.heap.size ≤ q → va_A [(b, .inr (3, [.long 0]))] s.heap.size q := fun q h => Or.inr h
  have F : CF p c cX4_init 1 s _ RX4 m (va_A [(b, .inr (3, [.long 0]))] s.heap.size) s.heap cI cB := ⟨B.exec, B.bytes, hml, hown, fun w hw => hts w (List.mem_cons_of_mem _ hw), hA, hfi, hfz⟩
  have I : CV D s [(b, .inr (3, [.long 0]))] s.heap [] (va_A [(b, .inr (3, [.long 0]))] s.heap.size) s.heap := ⟨hK, hP, hD, va_S.rf⟩
  have hl := lv_entry ([.ref b]) (n := 1) (Nat.le_of_ble_eq_true rfl)
  rw [lg_entry_eq]
  generalize (lg_sl ([.ref b]) ++ List.replicate (1 - (lg_sl ([.ref b])).length) Slot.unset).toArray = ls at hl ⊢
  have hl : lv_has ls 1 [(0, .ref b)] := hl
  refine lv_aload_n B.exec B.bytes dX4_init_0 rfl (lv_at hl 0 rfl) ?_
  refine k_obj F w_170 hl.1 dX4_init_1 (Nat.le_of_ble_eq_true rfl) (Nat.le_of_ble_eq_true rfl) ?_
  obtain ⟨i1, i2, i3, i4⟩ := I
  exact W.vret B.exec B.bytes B.returns (fun t ht hW => ⟨⟨([(b, .inr (3, [.long 0]))], []), rfl, rfl, by rw [ht]; exact i2, va_K.moved hW.alike i1, i3⟩, i4.F ht⟩) i4.2.2 dX4_init_4
end INI

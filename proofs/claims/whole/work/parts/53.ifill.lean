/-! Arrays.fill on a row by itself, and Benches() -/
section INI3
variable {p : Program} {l : Launch} {e : Env} {D : va_G} {cI cB : ClassId}
set_option maxRecDepth 20000 in
theorem fill_loop {R : Room} {s : State} {m : MethodId} {args : Array Value} {below : List Frame} {meth : Method} {c : Code} {H0 : Heap} {Z : State → Prop} {A : Nat → Prop} {N b : Nat} {v : Int32} (hN : N < 2 ^ 31) (hx : p.tables.exec = Jvm.exec) (hb : c.code = cJ7_fill_53178) (hK : va_K D vwCl [(cI, .int)] s) (hend : ∀ (g : Nat → Int32) (H : Heap) (locs : List Loc) (ls : Array Slot), va_P D vwCl [(b, .inl (cI, N, .inl g))] H → va_D A [(b, .inl (cI, N, .inl g))] → va_S A H0 H locs → (∀ j, j < N → g j = v) → W p l e R s m args below meth c H locs 0 0 Z (F0 m 20 ls [])) : ∀ (k i : Nat) (g : Nat → Int32) (H : Heap) (locs : List Loc) (ls : Array Slot) (lv : List (Nat × Value)), i + k = N → lv_has ls 4 lv → (0, Value.ref b) ∈ lv → (1, Value.int v) ∈ lv → (2, Value.int (nI i)) ∈ lv → (3, Value.int (nI N)) ∈ lv → va_P D vwCl [(b, .inl (cI, N, .inl g))] H → va_D A [(b, .inl (cI, N, .inl g))] → va_S A H0 H locs → (∀ j, j < i → g j = v) → W p l e R s m args below meth c H locs 0 0 Z (F0 m 5 ls []) := by
  intro k
  induction k with
  | zero =>
    intro i g H locs ls lv hi h1 m0 m1 m2 m3 hP hD hS hg
    have ei : i = N := by omega
    subst ei
    obtain ⟨k2, e2⟩ := List.getElem?_of_mem m2
    obtain ⟨k3, e3⟩ := List.getElem?_of_mem m3
    refine lv_iload_n hx hb dJ7_fill_53178_5 rfl (lv_at h1 k2 e2) ?_
    refine lv_iload_n hx hb dJ7_fill_53178_6 rfl (lv_at h1 k3 e3) ?_
    refine lv_icmp_ge (tgt := 20) hx hb dJ7_fill_53178_7 (by decide) (fun _ => ?_) (fun q => absurd (Int32.le_refl _) q)
    exact hend g H locs ls hP hD hS hg
  | succ k ih =>
    intro i g H locs ls lv hi h1 m0 m1 m2 m3 hP hD hS hg
    have hiN : i < N := by omega
    obtain ⟨k0, e0⟩ := List.getElem?_of_mem m0
    obtain ⟨k1, e1⟩ := List.getElem?_of_mem m1
    obtain ⟨k2, e2⟩ := List.getElem?_of_mem m2
    obtain ⟨k3, e3⟩ := List.getElem?_of_mem m3
    refine lv_iload_n hx hb dJ7_fill_53178_5 rfl (lv_at h1 k2 e2) ?_
    refine lv_iload_n hx hb dJ7_fill_53178_6 rfl (lv_at h1 k3 e3) ?_
    refine lv_icmp_ge (tgt := 20) hx hb dJ7_fill_53178_7 (by decide) (fun q => absurd q (nI_ge hiN (by omega))) (fun _ => ?_)
    refine lv_aload_n hx hb dJ7_fill_53178_10 rfl (lv_at h1 k0 e0) ?_
    refine lv_iload_n hx hb dJ7_fill_53178_11 rfl (lv_at h1 k2 e2) ?_
    refine lv_iload_n hx hb dJ7_fill_53178_12 rfl (lv_at h1 k1 e1) ?_
    refine va_iast hx hb hK hP hD hS 0 0 rfl rfl (vp_in_nI hiN (by omega)) dJ7_fill_53178_13 (fun H1 locs1 hP hD hS => ?_)
    have ci : (nI i).toNatClampNeg = i := nI_clamp (by omega)
    rw [ci] at hP hD
    refine lv_iinc (v := nI (i + 1)) hx hb dJ7_fill_53178_14 h1 (k := k2) e2 (nI_1 i) (by decide) rfl (fun ls3 hl3 => ?_)
    refine lv_goto (tgt := 5) hx hb dJ7_fill_53178_17 (by decide) ?_
    refine ih (i + 1) (upd g i v) H1 locs1 ls3 _ (by omega) hl3 (List.mem_cons_of_mem _ (List.mem_filter.mpr ⟨m0, rfl⟩)) (List.mem_cons_of_mem _ (List.mem_filter.mpr ⟨m1, rfl⟩)) List.mem_cons_self (List.mem_cons_of_mem _ (List.mem_filter.mpr ⟨m3, rfl⟩)) hP hD hS (fun j hj => ?_)
    by_cases q : j = i
    · rw [q]; exact pk_us
    · rw [pk_un q]; exact hg j (by omega)
set_option maxRecDepth 20000 in
theorem i_fill {N : Nat} (hN : N < 2 ^ 31) (f : Nat → Int32) (v : Int32) (b sz : Nat) : Met l yJ7_fill_53178 (Cond.code yJ7_fill_53178 cJ7_fill_53178 4 none :: tW) ({ frames := 0, cells := 0, slots := 0, locals := 0 }) (va_Pc [.ref b, .int v] (fun U => U.heap.size = sz ∧ va_P D vwCl [(b, .inl (cI, N, .inl f))] U.heap ∧ va_K D vwCl [(cI, .int)] U ∧ va_D (fun _ => True) [(b, .inl (cI, N, .inl f))])) (va_Qv (fun g : Nat → Int32 => ∀ j, j < N → g j = v) (fun g t => va_P D vwCl [(b, .inl (cI, N, .inl g))] t.heap ∧ va_K D vwCl [(cI, .int)] t ∧ va_D (va_A [(b, .inl (cI, N, .inl f))] sz) [(b, .inl (cI, N, .inl g))]) (va_A [(b, .inl (cI, N, .inl f))] sz)) 0 0 (va_A [(b, .inl (cI, N, .inl f))] sz) := by
  refine Met.ofW (cc := cJ7_fill_53178) (maxL := 4) (ret := none) (by decide +kernel) rfl ?_
  intro p e s m args below meth c s₁ B hml hv
  obtain ⟨rfl, hsz, hP, hK, hD0⟩ := hv
  subst hsz
  have hD := hD0.self (sz := s.heap.size)
  generalize hAe : va_A [(b, .inl (cI, N, .inl f))] s.heap.size = A at hD ⊢
  have hl := lv_entry ([.ref b, .int v]) (n := 4) (Nat.le_of_ble_eq_true rfl)
  rw [lg_entry_eq]
  generalize (lg_sl ([.ref b, .int v]) ++ List.replicate (4 - (lg_sl ([.ref b, .int v])).length) Slot.unset).toArray = ls at hl ⊢
  have hl : lv_has ls 4 [(0, .ref b), (1, .int v)] := hl
  have hx := B.exec
  have hb := B.bytes
  have hr := B.returns
  refine lv_iconst (v := 0) hx hb dJ7_fill_53178_0 (by decide) ?_
  refine lv_istore_n hx hb dJ7_fill_53178_1 rfl hl (by decide) rfl (fun ls1 hl1 => ?_)
  have hl1 : lv_has ls1 4 [(2, .int 0), (0, .ref b), (1, .int v)] := hl1
  refine lv_aload_n hx hb dJ7_fill_53178_2 rfl (lv_at hl1 1 rfl) ?_
  refine va_alen hx hb hK hP 0 0 rfl rfl (v := nI N) rfl dJ7_fill_53178_3 ?_
  refine lv_istore_n hx hb dJ7_fill_53178_4 rfl hl1 (by decide) rfl (fun ls2 hl2 => ?_)
  have hl2 : lv_has ls2 4 [(3, .int (nI N)), (2, .int (nI 0)), (0, .ref b), (1, .int v)] := hl2
  exact fill_loop hN hx hb hK (fun g H locs ls hP hD hS hg => W.vret hx hb hr (fun t ht hW => ⟨⟨g, rfl, hg, by rw [ht]; exact hP, va_K.moved hW.alike hK, hD⟩, hS.F ht⟩) hS.2.2 dJ7_fill_53178_20) N 0 f s.heap [] ls2 _ (by omega) hl2 (by simp) (by simp) (by simp) (by simp) hP hD va_S.rf (fun j hj => absurd hj (Nat.not_lt_zero j))
end INI3

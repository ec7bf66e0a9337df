section CALLS
variable {G : GX} {mts : Nat → Option MT} {own : String} {cc : ByteArray} {mL : Nat} {rt : Option FieldType} {d : Nat} {sx : SX} {pc : Nat}
theorem good_code {w : Cond} (h : w ∈ tW) : GoodIn tW (w :: tW) := fun x hx => by
  have hm : x ∈ tW := (List.mem_cons.mp hx).elim (fun q => by rw [q]; exact h) id
  exact ⟨hm, good_of_word (List.mem_filter.mp hm).2⟩
theorem ag_rev : ∀ (k : Nat) (S acc : List AV), k ≤ S.length → (ag k S acc).reverse ++ dr k S = acc.reverse ++ S
  | 0, S, acc, _ => rfl
  | k + 1, [], acc, h => absurd h (by simp)
  | k + 1, v :: S, acc, h => by
    show (ag k S (v :: acc)).reverse ++ dr k S = _
    rw [ag_rev k S (v :: acc) (by simp at h; exact h)]
    simp
theorem ag_len : ∀ (k : Nat) (S acc : List AV), k ≤ S.length → (ag k S acc).length = k + acc.length
  | 0, S, acc, _ => by simp [ag]
  | k + 1, [], acc, h => absurd h (by simp)
  | k + 1, v :: S, acc, h => by
    show (ag k S (v :: acc)).length = _
    rw [ag_len k S (v :: acc) (by simp at h; exact h)]
    simp
    omega
theorem ag_split {k : Nat} {S : List AV} (h : k ≤ S.length) : S = (ag k S []).reverse ++ dr k S := (ag_rev k S [] h).symm
theorem al1_ok : ∀ (S : List AV), al1 S = true → ∀ v ∈ S, cat1 v = 1
  | [], _, v, h => absurd h List.not_mem_nil
  | x :: S, h, v, hv => by
    simp only [al1, Bool.and_eq_true] at h
    rcases List.mem_cons.mp hv with e | e
    · rw [e]; exact Nat.eq_of_beq_eq_true h.1
    · exact al1_ok S h.2 v e
/-- behind a call -/
theorem va_callg {p : Program} {e : Env} {R : Room} {s : State} {m : MethodId} {args : Array Value} {below : List Frame} {meth : Method} {c : Code} {H : Heap} {locs : List Loc} {cells slots : Nat} {Z : State → Prop} {ls : Array Slot} {rest st0 : List Value} {a : Array Value} {A : Nat → Prop} {H0 : Heap} {Q : RP}
    (hr : va_Run p G.1 e R s m args below meth c H locs cells slots 0 0 (F0 m pc ls st0) rest (mQ G Q a) (Aq G)) (hS : va_S A H0 H locs) (hA : ∀ q, Aq G q → A q)
    (kk : ∀ (r : Option AV) (M' : AM) (H1 : Heap) (locs1 : List Loc), Q r M' → (∀ v, r = some v → vv v) → HR G M' H1 → va_S A H0 H1 locs1 → W p G.1 e R s m args below meth c H1 locs1 cells slots Z (F0 m (pc + 3) ls ((r.map (rv G)).toList ++ rest))) : W p G.1 e R s m args below meth c H locs cells slots Z (F0 m pc ls st0) := by
  intro T hT X
  obtain ⟨v, st₀, t, T', L, h0, X', hL, e1, e2, ⟨⟨r, M', hv, hq, hr2, hb⟩, hz, hk⟩, st⟩ := hr T hT X
  cases hv
  rw [h0] at hz hk
  obtain ⟨t2, a1, b1⟩ := kk r M' T'.heap (locs ++ L) hq hr2 (by rw [e1]; exact hb)
    ⟨Nat.le_trans hS.1 (by rw [e1]; exact hz), fun q h1 h2 => by rw [e1, hk q (Nat.lt_of_lt_of_le h1 hS.1) (fun z => h2 (hA q z))]; exact hS.2.1 q h1 h2, fun q hq => by
      rcases List.mem_append.mp hq with h | h
      · exact hS.2.2 q h
      · exact hA _ (hL q h)⟩ T' rfl X'
  exact ⟨t2, st t2 a1, b1⟩
/-- a method of the table: its words -/
def MO (mts : Nat → Option MT) (y : Nat) (yn : MethodName) (bytes : ByteArray) (mL' : Nat) (rt' : Option FieldType) (n : Nat) : Prop :=
  mts y = some (yn, bytes, mL', rt') ∧ Cond.code yn bytes mL' rt' ∈ tW ∧ Cond.initialized yn.cls ∈ tW ∧ (yn.cls ≠ "java/lang/invoke/MethodHandle" ∧ yn.cls ≠ "java/lang/invoke/VarHandle" ∧ (parseMethodDescriptor yn.desc).map (fun d => d.parameters.length) = some n) ∧ mL' ≤ 21
theorem rest_map (G : GX) (r : Option AV) (S : List AV) : (r.map (rv G)).toList ++ S.map (rv G) = (r.toList ++ S).map (rv G) := by
  cases r <;> rfl
theorem s_cs {y k index : Nat} {yn : MethodName} {bytes : ByteArray} {mL' : Nat} {rt' : Option FieldType} (mo : MO mts y yn bytes mL' rt' k) (hd : decode cc pc = .ok (.invokestatic index, 3)) (hw : Cond.methodLink own index yn ∈ tW) (hst : Cond.static yn ∈ tW) (hkm : k ≤ mL') : Snd G mts own cc mL rt d sx pc (i_cs y k (pc + 3)) := by
  intro Q K hK L S M h
  unfold i_cs at h
  obtain ⟨q1, ⟨r0, q2, q3⟩⟩ := co_t h
  simp only [Bool.and_eq_true] at q1
  obtain ⟨⟨q4, q5⟩, q6⟩ := q1
  have q4 := Nat.le_of_ble_eq_true q4
  have q5 := Nat.le_of_ble_eq_true q5
  obtain ⟨m1, m2, m3, m4, m5⟩ := mo
  rw [m1] at q2
  cases q2
  intro p e R s m args below meth c' H locs cells slots A Z ls F I hr
  obtain ⟨hH, hS, hL, hl, hv⟩ := I
  obtain ⟨f1, f2, f3, f4⟩ := F.2.2.2.2.2.2.2.2.1
  have hsp := ag_split q5
  have hva : ∀ v ∈ ag k S [], vv v ∧ cat1 v = 1 := fun v hv1 => ⟨hv v (by rw [hsp]; exact List.mem_append_left _ (List.mem_reverse.mpr hv1)), al1_ok _ q6 v hv1⟩
  have hM := q3 hva (by rw [ag_len k S [] q5]; exact hkm)
  refine va_callg (rest := (dr k S).map (rv G)) (va_runS (As := (ag k S []).map (rv G)) (rest := (dr k S).map (rv G)) (nL := mL) ⟨F.1, F.2.1, F.2.2.2.1, F.2.2.2.2.1, F.2.2.2.2.2.1⟩ hM ⟨callB_of k F.2.2.2.2.2.1 (good_code m2) rfl rfl rfl (F.2.2.2.2.2.1 _ m3) (F.2.2.2.2.2.1 _ hw) m4 ⟨by show d + 1 ≤ _; exact f1, by show 8 + (mL' + 11) + 40 * d ≤ _; omega⟩, F.2.2.2.2.2.1 _ hst⟩ ⟨fun a U g mk q => ⟨q.1, q.2.1, va_K.moved (u := U) (U := U.calling g mk a) (Vm.Alike.refl U.vm) q.2.2⟩, fun U hU hW => ⟨rfl, by rw [hU]; exact hH, va_K.moved hW.alike F.2.2.2.2.2.2.1⟩⟩ rfl (by rw [List.length_map, ag_len k S [] q5]; rfl) hL.choose_spec.1.1 ?_ (lv_room (by rw [cat_sum]; exact q4)) hd ⟨f3, f4⟩) hS F.2.2.2.2.2.2.2.2.2.1 (fun r M' H1 locs1 hq hr2 hH1 hS1 => ?_)
  · show S.map (rv G) = _
    rw [← List.map_reverse, ← List.map_append, ← hsp]
  · rw [rest_map]
    exact hK _ _ _ _ hq p e R s m args below meth c' H1 locs1 cells slots A Z ls F ⟨hH1, hS1, hL, hl, fun v hv1 => (List.mem_append.mp hv1).elim (fun h => hr2 v (by cases r with | none => cases h | some w => rw [List.mem_singleton.mp h])) (fun h => hv v (by rw [hsp]; exact List.mem_append_right _ h))⟩ hr
theorem s_cv {y k c ka index : Nat} {yn : MethodName} {bytes : ByteArray} {mL' : Nat} {rt' : Option FieldType} {T : u_T} {N : Nat} {ty0 : Nat → FieldType} (mo : MO mts y yn bytes mL' rt' k) (co : CO c ka yn.cls T N ty0) (hka : ka ≠ 35) (hfs : ∀ M t, ∃ fs, cel G M ka t = .inr (c, fs)) (hd : decode cc pc = .ok (.invokevirtual index, 3)) (hw : Cond.methodLink own index yn ∈ tW) (hin : Cond.instanceMethod yn ∈ tW) (hse : Cond.selects yn.cls yn yn ∈ tW) (hkm : k + 1 ≤ mL') : Snd G mts own cc mL rt d sx pc (i_cv y (k + 1) c (pc + 3)) := by
  intro Q K hK L S M h
  unfold i_cv at h
  split at h
  · rename_i a t r hag
    obtain ⟨q1, ⟨r0, q2, q3⟩⟩ := co_t h
    simp only [Bool.and_eq_true] at q1
    obtain ⟨⟨⟨q4, q5⟩, q6⟩, q7⟩ := q1
    have q4 := Nat.le_of_ble_eq_true q4
    have q5 := Nat.le_of_ble_eq_true q5
    have ha := co.1 a (Nat.eq_of_beq_eq_true q7)
    subst ha
    obtain ⟨m1, m2, m3, m4, m5⟩ := mo
    rw [m1] at q2
    cases q2
    intro p e R s m args below meth c' H locs cells slots A Z ls F I hr
    obtain ⟨hH, hS, hL, hl, hv⟩ := I
    obtain ⟨f1, f2, f3, f4⟩ := F.2.2.2.2.2.2.2.2.1
    have hsp := ag_split q5
    rw [hag] at hsp
    have hva : ∀ v ∈ (.inr (.inr (a, t)) :: r : List AV), vv v ∧ cat1 v = 1 := fun v hv1 => ⟨hv v (by rw [hsp]; exact List.mem_append_left _ (List.mem_reverse.mpr hv1)), (List.mem_cons.mp hv1).elim (fun e => by rw [e]; rfl) (al1_ok _ q6 v)⟩
    have hlen : r.length = k := by
      have := ag_len (k + 1) S [] q5
      rw [hag] at this
      simp at this
      exact this
    have hM := q3 hva (by show r.length + 1 ≤ mL'; rw [hlen]; exact hkm)
    have ht : t < cnt a := ((hva _ List.mem_cons_self).1 : t < cnt a ∨ (a = 35 ∧ t = 0)).resolve_right (fun h => hka h.1)
    obtain ⟨kk0, hk0⟩ := idx_in ht
    obtain ⟨fs, hfs⟩ := hfs M t
    refine va_callg (rest := (dr (k + 1) S).map (rv G)) (va_runV (C := yn.cls) (b := G.2.2.1 a t) (As := r.map (rv G)) (rest := (dr (k + 1) S).map (rv G)) (nL := mL) ⟨F.1, F.2.1, F.2.2.2.1, F.2.2.2.2.1, F.2.2.2.2.2.1⟩ hM ⟨callB_of k F.2.2.2.2.2.1 (good_code m2) rfl rfl rfl (F.2.2.2.2.2.1 _ m3) (F.2.2.2.2.2.1 _ hw) m4 ⟨by show d + 1 ≤ _; exact f1, by show 8 + (mL' + 11) + 40 * d ≤ _; omega⟩, F.2.2.2.2.2.1 _ hin, F.2.2.2.2.2.1 _ hse⟩ ⟨fun a U g mk q => ⟨q.1, q.2.1, va_K.moved (u := U) (U := U.calling g mk a) (Vm.Alike.refl U.vm) q.2.2⟩, va_recv F.2.2.2.2.2.2.1 hH (ci := c) (q := (yn.cls, T, N)) (q0 := kk0) (fs := fs) co.2.1 (by rw [wsl_at hk0, hfs]), fun U hU hW => ⟨rfl, by rw [hU]; exact hH, va_K.moved hW.alike F.2.2.2.2.2.2.1⟩⟩ rfl (by rw [List.length_map, hlen]) hL.choose_spec.1.1 ?_ (lv_room (by rw [cat_sum]; exact q4)) hd ⟨f3, f4⟩) hS F.2.2.2.2.2.2.2.2.2.1 (fun r' M' H1 locs1 hq hr2 hH1 hS1 => ?_)
    · show S.map (rv G) = _
      have h8 : S.map (rv G) = ((.inr (.inr (a, t)) :: r).reverse ++ dr (k + 1) S).map (rv G) := by rw [← hsp]
      rw [h8]
      simp [rv]
    · rw [rest_map]
      exact hK _ _ _ _ hq p e R s m args below meth c' H1 locs1 cells slots A Z ls F ⟨hH1, hS1, hL, hl, fun v hv1 => (List.mem_append.mp hv1).elim (fun h => hr2 v (by cases r' with | none => cases h | some w => rw [List.mem_singleton.mp h])) (fun h => hv v (by rw [hsp]; exact List.mem_append_right _ h))⟩ hr
  · exact h.elim
theorem ge_take : ∀ (k : Nat) (L : List (Option AV)) (i : Nat) (v : AV), ge (L.take k) i = some v → ge L i = some v
  | 0, L, i, v, h => by rw [List.take_zero, ge_nil] at h; cases h
  | k + 1, [], i, v, h => by rw [List.take_nil] at h; exact h
  | k + 1, x :: r, i, v, h => by
    rw [List.take_succ_cons] at h
    cases i with
    | zero => exact h
    | succ i => exact ge_take k r i v h
theorem V_take {Q : RP} {k : Nat} {L : List (Option AV)} {S : List AV} {M : AM} (h : V G own cc mL rt d sx Q pc (L.take k) S M) : V G own cc mL rt d sx Q pc L S M := by
  intro p e R s m args below meth c' H locs cells slots A Z ls F I hr
  obtain ⟨hH, hS, ⟨l, h1, h2⟩, hl, hv⟩ := I
  exact h p e R s m args below meth c' H locs cells slots A Z ls F ⟨hH, hS, ⟨l, h1, fun i v hi => h2 i v (ge_take k L i v hi)⟩, fun i v hi => hl i v (ge_take k L i v hi), hv⟩ hr
/-- from the rows' soundness to the table's -/
theorem go_of {tb : List (Nat × Ins)} {Q : RP} (hok : ∀ e ∈ tb, Snd G mts own cc mL rt d sx e.1 e.2) : Go tb (Ct G mts d) Q (V G own cc mL rt d sx Q) := by
  have hft : ∀ (tb' : List (Nat × Ins)), (∀ e ∈ tb', Snd G mts own cc mL rt d sx e.1 e.2) → ∀ pc L S M K, (∀ pc L S M, K pc L S M → V G own cc mL rt d sx Q pc L S M) → ft tb' pc (Ct G mts d) L S M Q K → V G own cc mL rt d sx Q pc L S M := by
    intro tb'
    induction tb' with
    | nil => intro _ pc L S M K _ h; exact h.elim
    | cons e r ih =>
      obtain ⟨q, i⟩ := e
      intro ho pc L S M K hK h
      by_cases hq : Nat.beq q pc = true
      · have hf : ft ((q, i) :: r) pc = i := by show cond (Nat.beq q pc) i (ft r pc) = i; rw [hq]; rfl
        rw [hf] at h
        have hp := Nat.eq_of_beq_eq_true hq
        subst hp
        exact ho (q, i) List.mem_cons_self Q K hK L S M h
      · have hf : ft ((q, i) :: r) pc = ft r pc := by show cond (Nat.beq q pc) i (ft r pc) = _; rw [Bool.eq_false_iff.mpr hq]; rfl
        rw [hf] at h
        exact ih (fun e he => ho e (List.mem_cons_of_mem _ he)) pc L S M K hK h
  have hrun : ∀ st n pc L S M, run tb (Ct G mts d) Q (V G own cc mL rt d sx Q) st n pc L S M → V G own cc mL rt d sx Q pc L S M := by
    intro st n
    induction n with
    | zero => intro pc L S M h; exact h
    | succ n ih =>
      intro pc L S M h
      unfold run at h
      split at h
      · exact V_take h
      · exact hft tb hok pc L S M _ ih h
  intro st n pc L S M h
  exact hft tb hok pc L S M _ (hrun st n) h
theorem lv_args1 (G : GX) : ∀ (As : List AV) (i : Nat), (∀ v ∈ As, cat1 v = 1) → ∀ j v, ge (As.map some) j = some v → (i + j, rv G v) ∈ lv_args i (As.map (rv G))
  | [], i, _, j, v, h => by rw [show ([] : List AV).map some = [] from rfl, ge_nil] at h; cases h
  | w :: As, i, hc, j, v, h => by
    show _ ∈ (i, rv G w) :: lv_args _ _
    cases j with
    | zero =>
      have h' : some w = some v := h
      cases h'
      exact List.mem_cons_self
    | succ j =>
      have h1 : (rv G w).category ≠ 2 := by rw [rv_cat, hc w List.mem_cons_self]; decide
      rw [if_neg h1]
      have := lv_args1 G As (i + 1) (fun v hv => hc v (List.mem_cons_of_mem _ hv)) j v h
      rw [show i + (j + 1) = i + 1 + j by omega]
      exact List.mem_cons_of_mem _ this
theorem lg_len (G : GX) : ∀ (As : List AV), (∀ v ∈ As, cat1 v = 1) → (lg_sl (As.map (rv G))).length = As.length
  | [], _ => rfl
  | w :: As, hc => by
    have h1 : (rv G w).category ≠ 2 := by rw [rv_cat, hc w List.mem_cons_self]; decide
    have := lg_len G As (fun v hv => hc v (List.mem_cons_of_mem _ hv))
    simp [lg_sl, h1] at this ⊢
    exact this
theorem ge_args : ∀ (As : List AV) (j : Nat) (v : AV), ge (As.map some) j = some v → v ∈ As
  | [], j, v, h => by rw [show ([] : List AV).map some = [] from rfl, ge_nil] at h; cases h
  | w :: As, j, v, h => by
    cases j with
    | zero =>
      have h' : some w = some v := h
      cases h'
      exact List.mem_cons_self
    | succ j => exact List.mem_cons_of_mem _ (ge_args As j v h)
/-- THE TABLE'S METHODS ARE MET -/
theorem ct_cl {y : Nat} {yn : MethodName} {bytes : ByteArray} {mL' : Nat} {rt' : Option FieldType} {tb : List (Nat × Ins)} (hy : mts y = some (yn, bytes, mL', rt')) (hplain : plainName yn.cls = true) (hok : ∀ d, ∀ e ∈ tb, Snd G mts yn.cls bytes mL' rt' d none e.1 e.2) : Cl1 (Ct G mts) y tb := by
  intro d As M Q h
  refine ⟨(yn, bytes, mL', rt'), hy, fun hAs hlen => ?_⟩
  have hc1 : ∀ v ∈ As, cat1 v = 1 := fun v hv => (hAs v hv).2
  refine Met.ofW (cc := bytes) (maxL := mL') (ret := rt') hplain rfl ?_
  intro p e s m args below meth c s₁ B hml hv
  obtain ⟨rfl, hH, hK⟩ := hv
  have hts := atoms_spec (ws := .code yn bytes mL' rt' :: tW) B.pre
  have hown : s.vm.findClass yn.cls = some m.cls := findClass_of_methodNamed B.named
  have hV : V G yn.cls bytes mL' rt' d none Q 0 (As.map some) [] M := h _ (go_of (hok d))
  rw [lg_entry_eq]
  have hl0 := lv_entry (As.map (rv G)) (n := mL') (by rw [lg_len G As hc1]; exact hlen)
  refine hV p e _ s m _ below meth c s.heap [] 0 0 (Aq G) _ _ ⟨B.exec, B.bytes, B.returns, hml, hown, fun w hw => hts w (List.mem_cons_of_mem _ hw), hK, B.notSynchronized, ⟨Nat.le_refl _, Nat.le_refl _, Nat.zero_le _, Nat.zero_le _⟩, fun q hq => hq, fun q hq => by cases hq⟩ ⟨hH, va_S.rf, ⟨_, hl0, fun i v hi => ?_⟩, fun i v hi => (hAs v (ge_args As i v hi)).1, fun v hv => absurd hv List.not_mem_nil⟩ (fun pc' ls' H' locs' r M' hrd hQ hH' hS' => ?_)
  · have := lv_args1 G As 0 hc1 i v hi
    rwa [Nat.zero_add] at this
  · have hlocks := B.notSynchronized
    match r, hrd, hQ with
    | some (.inl v), hrd, hQ =>
      obtain ⟨h1, h2⟩ := hrd
      rcases h2 with h2 | ⟨h2, h3⟩
      · exact W.iret (v := v) B.exec B.bytes (B.returns.trans h2) (fun t ht hW => ⟨⟨some (.inl v), M', rfl, hQ, (fun w hw => by cases hw; trivial), by rw [ht]; exact hH'⟩, hS'.F ht⟩) hS'.2.2 h1
      · exact W.zret (v := v) B.exec B.bytes (B.returns.trans h2) (congrArg Value.int h3) (fun t ht hW => ⟨⟨some (.inl v), M', rfl, hQ, (fun w hw => by cases hw; trivial), by rw [ht]; exact hH'⟩, hS'.F ht⟩) hS'.2.2 h1
    | some (.inr (.inl v)), hrd, hQ =>
      obtain ⟨h1, h2⟩ := hrd
      exact W.lret (v := v) B.exec B.bytes (B.returns.trans h2) (fun t ht hW => ⟨⟨some (.inr (.inl v)), M', rfl, hQ, (fun w hw => by cases hw; trivial), by rw [ht]; exact hH'⟩, hS'.F ht⟩) hS'.2.2 h1
    | none, hrd, hQ =>
      obtain ⟨h1, h2⟩ := hrd
      exact W.vret B.exec B.bytes (B.returns.trans h2) (fun t ht hW => ⟨⟨none, M', rfl, hQ, (fun w hw => by cases hw), by rw [ht]; exact hH'⟩, hS'.F ht⟩) hS'.2.2 h1
end CALLS

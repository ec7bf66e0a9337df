section RULES2
variable {G : GX} {mts : Nat → Option MT} {own : String} {cc : ByteArray} {mL : Nat} {rt : Option FieldType} {d : Nat} {sx : SX} {pc : Nat}
theorem cat_sum (G : GX) (S : List AV) : ((S.map (rv G)).map fun v => v.category).sum = cats S := by
  induction S with
  | nil => rfl
  | cons v S ih =>
    simp only [List.map_cons, List.sum_cons]
    rw [ih, rv_cat]
    rfl
theorem co_t {b : Bool} {X : Prop} (h : cond b X False) : b = true ∧ X := by
  cases b with
  | true => exact ⟨rfl, h⟩
  | false => exact h.elim
theorem bz_01 {v : Int32} (h : bz v = v) : v = 0 ∨ v = 1 := by
  have h1 : v.toBitVec &&& 1#32 = v.toBitVec := by
    have := congrArg Int32.toBitVec h
    simpa [bz] using this
  have h2 : v.toBitVec.toNat &&& 1 = v.toBitVec.toNat := by
    have := congrArg BitVec.toNat h1
    simpa using this
  rw [Nat.and_one_is_mod] at h2
  have h3 : v.toBitVec.toNat = 0 ∨ v.toBitVec.toNat = 1 := by omega
  rcases h3 with h3 | h3
  · left
    apply Int32.toBitVec_inj.mp
    apply BitVec.eq_of_toNat_eq
    rw [h3]; rfl
  · right
    apply Int32.toBitVec_inj.mp
    apply BitVec.eq_of_toNat_eq
    rw [h3]; rfl
/-- a class of the table: its number, the kind of its objects, its name and fields -/
def CO (c ka : Nat) (C : String) (T : u_T) (N : Nat) (ty0 : Nat → FieldType) : Prop :=
  (∀ a, acl a = c → a = ka) ∧ vwCl[c]? = some (C, T, N) ∧ (∀ w ∈ u_ws C T N, w ∈ tW) ∧ (∀ k, k < N → parseFieldDescriptor (T k).2.2.1 = some (ty0 k)) ∧ (∀ a, a < N → ∀ b, b < N → a ≠ b → (T a).2.1 ≠ (T b).2.1)
/-- a field that is read: what stands there by the picture -/
theorem s_get {c ka : Nat} {C : String} {T : u_T} {N : Nat} {ty0 : Nat → FieldType} (co : CO c ka C T N ty0) {j index : Nat} (hj : j < N) (hw : Cond.fieldLink own index (T j).1 (T j).2.1 (T j).2.2.1 ∈ tW) (hd : decode cc pc = .ok (.getfield index, 3))
    {i : Ins} {val : AM → Nat → AV} (hi : ∀ C' L S M Q K, i C' L S M Q K → ∃ a t S', S = .inr (.inr (a, t)) :: S' ∧ acl a = c ∧ K (pc + 3) L (val M t :: S') M)
    (hfs : ∀ M t, ∃ fs, cel G M ka t = .inr (c, fs) ∧ fs[j]? = some (rv G (val M t))) (hka : ka ≠ 35) (hval : ∀ M t, t < cnt ka → vv (val M t)) : Snd G mts own cc mL rt d sx pc i := by
  intro Q K hK L S M h
  obtain ⟨a, t, S', rfl, ha, hk⟩ := hi _ _ _ _ _ _ h
  have ha' := co.1 a ha
  subst ha'
  intro p e R s m args below meth c' H locs cells slots A Z ls F I hr
  obtain ⟨hH, hS, hL, hl, hv⟩ := I
  have ht : t < cnt a := (hv.hd : t < cnt a ∨ (a = 35 ∧ t = 0)).resolve_right (fun h => hka h.1)
  obtain ⟨k, hk0⟩ := idx_in ht
  obtain ⟨fs, h1, h2⟩ := hfs M t
  refine va_get (ws := wsl G M) F.1 F.2.1 F.2.2.2.2.2.1 co.2.2.1 F.2.2.2.2.1 F.2.2.2.2.2.2.1 hH k (a := G.2.2.1 a t) (fs := fs) (ci := c) (by rw [wsl_at hk0, h1]) co.2.1 j hj (F.2.2.2.2.2.1 _ hw) (fun _ h9 => h9) h2 hd ?_
  exact hK _ _ _ _ hk p e R s m args below meth c' H locs cells slots A Z ls F ⟨hH, hS, hL, hl, .cons (hval M t ht) hv.tl⟩ hr
theorem s_gI {c ka : Nat} {C : String} {T : u_T} {N : Nat} {ty0 : Nat → FieldType} (co : CO c ka C T N ty0) {j index : Nat} (hj : j < N) (hw : Cond.fieldLink own index (T j).1 (T j).2.1 (T j).2.2.1 ∈ tW) (hd : decode cc pc = .ok (.getfield index, 3))
    (hfs : ∀ M t, ∃ fs, cel G M ka t = .inr (c, fs) ∧ fs[j]? = some (.int (M.1 ka t j))) (hka : ka ≠ 35) : Snd G mts own cc mL rt d sx pc (i_gI c j (pc + 3)) := by
  refine s_get co hj hw hd (val := fun M t => vi (M.1 ka t j)) (fun C' L S M Q K h => ?_) hfs hka (fun _ _ _ => trivial)
  unfold i_gI at h
  split at h
  · rename_i a t S'
    obtain ⟨h1, h2⟩ := co_t h
    have ha := Nat.eq_of_beq_eq_true h1
    have ha' := co.1 a ha
    subst ha'
    exact ⟨_, t, S', rfl, ha, h2⟩
  · exact h.elim
theorem s_gL {c ka : Nat} {C : String} {T : u_T} {N : Nat} {ty0 : Nat → FieldType} (co : CO c ka C T N ty0) {j q index : Nat} (hj : j < N) (hw : Cond.fieldLink own index (T j).1 (T j).2.1 (T j).2.2.1 ∈ tW) (hd : decode cc pc = .ok (.getfield index, 3))
    (hfs : ∀ M t, ∃ fs, cel G M ka t = .inr (c, fs) ∧ fs[j]? = some (.long (M.2 q))) (hka : ka ≠ 35) : Snd G mts own cc mL rt d sx pc (i_gL c q (pc + 3)) := by
  refine s_get co hj hw hd (val := fun M t => vl (M.2 q)) (fun C' L S M Q K h => ?_) hfs hka (fun _ _ _ => trivial)
  unfold i_gL at h
  split at h
  · rename_i a t S'
    obtain ⟨h1, h2⟩ := co_t h
    exact ⟨a, t, S', rfl, Nat.eq_of_beq_eq_true h1, h2⟩
  · exact h.elim
theorem s_gR {c ka : Nat} {C : String} {T : u_T} {N : Nat} {ty0 : Nat → FieldType} (co : CO c ka C T N ty0) {j index : Nat} {f : Nat → Nat × Nat} (hj : j < N) (hw : Cond.fieldLink own index (T j).1 (T j).2.1 (T j).2.2.1 ∈ tW) (hd : decode cc pc = .ok (.getfield index, 3))
    (hfs : ∀ M t, ∃ fs, cel G M ka t = .inr (c, fs) ∧ fs[j]? = some (.ref (G.2.2.1 (f t).1 (f t).2))) (hka : ka ≠ 35) (hf : ∀ t, t < cnt ka → (f t).2 < cnt (f t).1) : Snd G mts own cc mL rt d sx pc (i_gR c f (pc + 3)) := by
  refine s_get co hj hw hd (val := fun M t => .inr (.inr (f t))) (fun C' L S M Q K h => ?_) hfs hka (fun _ t ht => Or.inl (hf t ht))
  unfold i_gR at h
  split at h
  · rename_i a t S'
    obtain ⟨h1, h2⟩ := co_t h
    exact ⟨a, t, S', rfl, Nat.eq_of_beq_eq_true h1, h2⟩
  · exact h.elim
/-- a field that is written -/
theorem s_put (hAp : Ap G) {c ka : Nat} {C : String} {T : u_T} {N : Nat} {ty0 : Nat → FieldType} (co : CO c ka C T N ty0) {j index : Nat} (hj : j < N) (hw : Cond.fieldLink own index (T j).1 (T j).2.1 (T j).2.2.1 ∈ tW) (hd : decode cc pc = .ok (.putfield index, 3)) (hfin : (T j).2.2.2 = false)
    {i : Ins} {um' : AM → Nat → AV → AM} (hi : ∀ C' L S M Q K, i C' L S M Q K → ∃ v a t S', S = v :: .inr (.inr (a, t)) :: S' ∧ acl a = c ∧ narrow (ty0 j) (rv G v) = rv G v ∧ fits (ty0 j) (rv G v) = true ∧ K (pc + 3) L S' (um' M t v) ∧
      ∃ fs, cel G M ka t = .inr (c, fs) ∧ j < fs.length ∧ cel G (um' M t v) ka t = .inr (c, fs.set j (rv G v)) ∧ ∀ a' t', (a', t') ≠ (ka, t) → cel G (um' M t v) a' t' = cel G M a' t')
    (hka : ka ≠ 35) : Snd G mts own cc mL rt d sx pc i := by
  intro Q K hK L S M h
  obtain ⟨v, a, t, S', rfl, ha, hn, hfit, hk, fs, h1, hlen, h2, h3⟩ := hi _ _ _ _ _ _ h
  have ha' := co.1 a ha
  subst ha'
  intro p e R s m args below meth c' H locs cells slots A Z ls F I hr
  obtain ⟨hH, hS, hL, hl, hv⟩ := I
  have ht : t < cnt a := (hv.tl.hd : t < cnt a ∨ (a = 35 ∧ t = 0)).resolve_right (fun h => hka h.1)
  obtain ⟨k, hk0⟩ := idx_in ht
  refine va_put (ws := wsl G M) F.1 F.2.1 F.2.2.2.2.2.1 co.2.2.1 ty0 co.2.2.2.1 co.2.2.2.2 F.2.2.2.2.1 F.2.2.2.2.2.2.1 hH (hAp.D F.2.2.2.2.2.2.2.2.2.1 M) hS k (a := G.2.2.1 a t) (fs := fs) (ci := c) (by rw [wsl_at hk0, h1]) co.2.1 j hj (F.2.2.2.2.2.1 _ hw) (fun _ h9 => h9) hfin (co.2.2.2.1 j hj) hn hfit hlen hd (fun H1 locs1 hP1 _ hS1 => ?_)
  rw [wsl_set hAp hk0 h2.symm h3] at hP1
  exact hK _ _ _ _ hk p e R s m args below meth c' H1 locs1 cells slots A Z ls F ⟨hP1, hS1, hL, hl, hv.tl.tl⟩ hr
/-- a place that is written changes nothing of another cell -/
theorem cel_um {G : GX} {M : AM} {a t i : Nat} {v : Int32} {a' t' : Nat} (h : (a', t') ≠ (a, t)) : cel G (um M a t i v) a' t' = cel G M a' t' := by
  have key : ∀ q, (um M a t i v).1 a' t' q = M.1 a' t' q := by
    intro q
    show (if a' = a ∧ t' = t ∧ q = i then v else M.1 a' t' q) = _
    rw [if_neg]
    rintro ⟨h1, h2, -⟩
    exact h (by rw [h1, h2])
  have kf : (um M a t i v).1 a' t' = M.1 a' t' := funext key
  unfold cel
  split <;> first | rfl | (simp only [key]; rfl) | (simp only [kf]) | (simp only [kf]; rfl)
theorem s_pI (hAp : Ap G) {c ka : Nat} {C : String} {T : u_T} {N : Nat} {ty0 : Nat → FieldType} (co : CO c ka C T N ty0) {j index : Nat} (hj : j < N) (hw : Cond.fieldLink own index (T j).1 (T j).2.1 (T j).2.2.1 ∈ tW) (hd : decode cc pc = .ok (.putfield index, 3)) (hfin : (T j).2.2.2 = false) (hty : ty0 j = .int)
    (hfs : ∀ M t v, ∃ fs, cel G M ka t = .inr (c, fs) ∧ j < fs.length ∧ cel G (um M ka t j v) ka t = .inr (c, fs.set j (.int v))) (hka : ka ≠ 35) : Snd G mts own cc mL rt d sx pc (i_pI c j (pc + 3)) := by
  refine s_put hAp co hj hw hd hfin (um' := fun M t v => match v with | .inl x => um M ka t j x | _ => M) (fun C' L S M Q K h => ?_) hka
  unfold i_pI at h
  split at h
  · rename_i v a t S'
    obtain ⟨h1, h2⟩ := co_t h
    have ha := Nat.eq_of_beq_eq_true h1
    have ha' := co.1 a ha
    subst ha'
    obtain ⟨fs, e1, e2, e3⟩ := hfs M t v
    exact ⟨.inl v, _, t, S', rfl, ha, by rw [hty]; rfl, by rw [hty]; rfl, h2, fs, e1, e2, e3, fun a' t' hne => cel_um hne⟩
  · exact h.elim
theorem s_pZ (hAp : Ap G) {c ka : Nat} {C : String} {T : u_T} {N : Nat} {ty0 : Nat → FieldType} (co : CO c ka C T N ty0) {j index : Nat} (hj : j < N) (hw : Cond.fieldLink own index (T j).1 (T j).2.1 (T j).2.2.1 ∈ tW) (hd : decode cc pc = .ok (.putfield index, 3)) (hfin : (T j).2.2.2 = false) (hty : ty0 j = .boolean)
    (hfs : ∀ M t v, ∃ fs, cel G M ka t = .inr (c, fs) ∧ j < fs.length ∧ cel G (um M ka t j v) ka t = .inr (c, fs.set j (.int v))) (hka : ka ≠ 35) : Snd G mts own cc mL rt d sx pc (i_pZ c j (pc + 3)) := by
  refine s_put hAp co hj hw hd hfin (um' := fun M t v => match v with | .inl x => um M ka t j x | _ => M) (fun C' L S M Q K h => ?_) hka
  unfold i_pZ at h
  split at h
  · rename_i v a t S'
    obtain ⟨h1, h0, h2⟩ := co_t h
    have ha := Nat.eq_of_beq_eq_true h1
    have ha' := co.1 a ha
    subst ha'
    obtain ⟨fs, e1, e2, e3⟩ := hfs M t v
    refine ⟨.inl v, _, t, S', rfl, ha, by rw [hty]; exact congrArg Value.int h0, by rw [hty]; rcases bz_01 h0 with h | h <;> subst h <;> rfl, h2, fs, e1, e2, e3, fun a' t' hne => cel_um hne⟩
  · exact h.elim
theorem cel_ul {G : GX} {M : AM} {q : Nat} {v : Int64} {a' t' ka : Nat} (hq : (ka = 18 ∧ q = 0) ∨ (ka = 21 ∧ q = 1)) (h : a' ≠ ka) : cel G (ul M q v) a' t' = cel G M a' t' := by
  rcases hq with ⟨rfl, rfl⟩ | ⟨rfl, rfl⟩ <;> (unfold cel; split <;> first | rfl | exact absurd rfl h | (simp [ul]; done))
theorem s_pL (hAp : Ap G) {c ka : Nat} {C : String} {T : u_T} {N : Nat} {ty0 : Nat → FieldType} (co : CO c ka C T N ty0) {j q index : Nat} (hj : j < N) (hw : Cond.fieldLink own index (T j).1 (T j).2.1 (T j).2.2.1 ∈ tW) (hd : decode cc pc = .ok (.putfield index, 3)) (hfin : (T j).2.2.2 = false) (hty : ty0 j = .long)
    (hfs : ∀ M t v, ∃ fs, cel G M ka t = .inr (c, fs) ∧ j < fs.length ∧ cel G (ul M q v) ka t = .inr (c, fs.set j (.long v))) (hq : (ka = 18 ∧ q = 0) ∨ (ka = 21 ∧ q = 1)) : Snd G mts own cc mL rt d sx pc (i_pL c q (pc + 3)) := by
  have hone : cnt ka = 1 := by rcases hq with ⟨rfl, -⟩ | ⟨rfl, -⟩ <;> rfl
  have hka : ka ≠ 35 := by rcases hq with ⟨rfl, -⟩ | ⟨rfl, -⟩ <;> decide
  intro Q K hK L S M h
  unfold i_pL at h
  split at h
  · rename_i v a t S'
    obtain ⟨h1, h2⟩ := co_t h
    have ha := Nat.eq_of_beq_eq_true h1
    have ha' := co.1 a ha
    subst ha'
    intro p e R s m args below meth c' H locs cells slots A Z ls F I hr
    obtain ⟨hH, hS, hL, hl, hv⟩ := I
    have ht : t < cnt a := (hv.tl.hd : t < cnt a ∨ (a = 35 ∧ t = 0)).resolve_right (fun h => hka h.1)
    obtain ⟨k, hk0⟩ := idx_in ht
    obtain ⟨fs, e1, hlen, e3⟩ := hfs M t v
    refine va_put (ws := wsl G M) F.1 F.2.1 F.2.2.2.2.2.1 co.2.2.1 ty0 co.2.2.2.1 co.2.2.2.2 F.2.2.2.2.1 F.2.2.2.2.2.2.1 hH (hAp.D F.2.2.2.2.2.2.2.2.2.1 M) hS k (a := G.2.2.1 a t) (fs := fs) (ci := c) (v := .long v) (by rw [wsl_at hk0, e1]) co.2.1 j hj (F.2.2.2.2.2.1 _ hw) (fun _ h9 => h9) hfin (co.2.2.2.1 j hj) (by rw [hty]; rfl) (by rw [hty]; rfl) hlen hd (fun H1 locs1 hP1 _ hS1 => ?_)
    have key : (wsl G M).set k (G.2.2.1 a t, .inr (c, fs.set j (.long v))) = wsl G (ul M q v) := by
      apply List.ext_getElem?
      intro i
      by_cases hi : i = k
      · subst hi
        have hl : i < (wsl G M).length := by
          simp only [wsl, List.length_map]
          exact (List.getElem?_eq_some_iff.mp hk0).1
        rw [List.getElem?_set_self hl, wsl_at hk0, e3]
      · rw [List.getElem?_set_ne (Ne.symm hi)]
        simp only [wsl, List.getElem?_map]
        cases hx : idx[i]? with
        | none => rfl
        | some p =>
          show some (_, cel G M p.1 p.2) = some (_, cel G (ul M q v) p.1 p.2)
          rw [cel_ul hq]
          intro hp
          have h5 := idx_ok hx
          rw [hp, hone] at h5
          rw [hone] at ht
          exact hAp.inj hx hk0 hi (Prod.ext hp (by simp; omega))
    rw [key] at hP1
    exact hK _ _ _ _ h2 p e R s m args below meth c' H1 locs1 cells slots A Z ls F ⟨hP1, hS1, hL, hl, hv.tl.tl⟩ hr
  · exact h.elim
/-- a row's picture -/
theorem cel_row {G : GX} {M : AM} {a t : Nat} (h : aty a = 0 ∨ aty a = 1) : cel G M a t = .inl (if aty a = 0 then G.2.2.2.1 else G.2.2.2.2.1, aln a t, .inl (M.1 a t)) := by
  unfold cel
  split <;> first | rfl | (exfalso; revert h; decide)
theorem aty_35 {a : Nat} (h : aty a = 0 ∨ aty a = 1) : a ≠ 35 := by
  rintro rfl
  revert h
  decide
theorem um_row {M : AM} {a t i : Nat} {v : Int32} : (um M a t i v).1 a t = upd (M.1 a t) i v := by
  funext q
  show (if a = a ∧ t = t ∧ q = i then v else M.1 a t q) = if q = i then v else M.1 a t q
  simp
theorem s_ia (hd : decode cc pc = .ok (.iaload, 1)) : Snd G mts own cc mL rt d sx pc (i_ia (pc + 1)) := by
  intro Q K hK L S M h
  unfold i_ia at h
  split at h
  · rename_i i a t S'
    obtain ⟨h1, h0, h2⟩ := co_t h
    have ha := Nat.eq_of_beq_eq_true h1
    intro p e R s m args below meth c' H locs cells slots A Z ls F I hr
    obtain ⟨hH, hS, hL, hl, hv⟩ := I
    have ht : t < cnt a := (hv.tl.hd : t < cnt a ∨ (a = 35 ∧ t = 0)).resolve_right (fun h => aty_35 (Or.inl ha) h.1)
    obtain ⟨k, hk0⟩ := idx_in ht
    refine va_iald (ws := wsl G M) F.1 F.2.1 F.2.2.2.2.2.2.1 hH k 0 (cA := G.2.2.2.1) (n := aln a t) (f := M.1 a t) (by rw [wsl_at hk0, cel_row (Or.inl ha), if_pos ha]) rfl h0 hd ?_
    exact hK _ _ _ _ h2 p e R s m args below meth c' H locs cells slots A Z ls F ⟨hH, hS, hL, hl, .cons trivial hv.tl.tl⟩ hr
  · exact h.elim
theorem s_ba (hd : decode cc pc = .ok (.baload, 1)) : Snd G mts own cc mL rt d sx pc (i_ba (pc + 1)) := by
  intro Q K hK L S M h
  unfold i_ba at h
  split at h
  · rename_i i a t S'
    obtain ⟨h1, h0, h2⟩ := co_t h
    have ha := Nat.eq_of_beq_eq_true h1
    intro p e R s m args below meth c' H locs cells slots A Z ls F I hr
    obtain ⟨hH, hS, hL, hl, hv⟩ := I
    have ht : t < cnt a := (hv.tl.hd : t < cnt a ∨ (a = 35 ∧ t = 0)).resolve_right (fun h => aty_35 (Or.inr ha) h.1)
    obtain ⟨k, hk0⟩ := idx_in ht
    refine va_zald (ws := wsl G M) F.1 F.2.1 F.2.2.2.2.2.2.1 hH k 1 (cA := G.2.2.2.2.1) (n := aln a t) (f := M.1 a t) (by rw [wsl_at hk0, cel_row (Or.inr ha), if_neg (by rw [ha]; decide)]) rfl h0 hd ?_
    exact hK _ _ _ _ h2 p e R s m args below meth c' H locs cells slots A Z ls F ⟨hH, hS, hL, hl, .cons trivial hv.tl.tl⟩ hr
  · exact h.elim
theorem s_is (hAp : Ap G) (hd : decode cc pc = .ok (.iastore, 1)) : Snd G mts own cc mL rt d sx pc (i_is (pc + 1)) := by
  intro Q K hK L S M h
  unfold i_is at h
  split at h
  · rename_i v i a t S'
    obtain ⟨h1, h0, h2⟩ := co_t h
    have ha := Nat.eq_of_beq_eq_true h1
    intro p e R s m args below meth c' H locs cells slots A Z ls F I hr
    obtain ⟨hH, hS, hL, hl, hv⟩ := I
    have ht : t < cnt a := (hv.tl.tl.hd : t < cnt a ∨ (a = 35 ∧ t = 0)).resolve_right (fun h => aty_35 (Or.inl ha) h.1)
    obtain ⟨k, hk0⟩ := idx_in ht
    refine va_iast (ws := wsl G M) F.1 F.2.1 F.2.2.2.2.2.2.1 hH (hAp.D F.2.2.2.2.2.2.2.2.2.1 M) hS k 0 (cA := G.2.2.2.1) (n := aln a t) (f := M.1 a t) (by rw [wsl_at hk0, cel_row (Or.inl ha), if_pos ha]) rfl h0 hd (fun H1 locs1 hP1 _ hS1 => ?_)
    rw [wsl_set hAp (M' := um M a t i.toNatClampNeg v) hk0 (by rw [cel_row (Or.inl ha), if_pos ha, um_row]) (fun a' t' hne => cel_um hne)] at hP1
    exact hK _ _ _ _ h2 p e R s m args below meth c' H1 locs1 cells slots A Z ls F ⟨hP1, hS1, hL, hl, hv.tl.tl.tl⟩ hr
  · exact h.elim
theorem s_bs (hAp : Ap G) (hd : decode cc pc = .ok (.bastore, 1)) : Snd G mts own cc mL rt d sx pc (i_bs (pc + 1)) := by
  intro Q K hK L S M h
  unfold i_bs at h
  split at h
  · rename_i v i a t S'
    obtain ⟨h1, h0, h2⟩ := co_t h
    have ha := Nat.eq_of_beq_eq_true h1
    intro p e R s m args below meth c' H locs cells slots A Z ls F I hr
    obtain ⟨hH, hS, hL, hl, hv⟩ := I
    have ht : t < cnt a := (hv.tl.tl.hd : t < cnt a ∨ (a = 35 ∧ t = 0)).resolve_right (fun h => aty_35 (Or.inr ha) h.1)
    obtain ⟨k, hk0⟩ := idx_in ht
    refine va_zast (ws := wsl G M) F.1 F.2.1 F.2.2.2.2.2.2.1 hH (hAp.D F.2.2.2.2.2.2.2.2.2.1 M) hS k 1 (cA := G.2.2.2.2.1) (n := aln a t) (f := M.1 a t) (by rw [wsl_at hk0, cel_row (Or.inr ha), if_neg (by rw [ha]; decide)]) rfl h0 hd (fun H1 locs1 hP1 _ hS1 => ?_)
    rw [wsl_set hAp (M' := um M a t i.toNatClampNeg (bz v)) hk0 (by rw [cel_row (Or.inr ha), if_neg (by rw [ha]; decide), um_row]; rfl) (fun a' t' hne => cel_um hne)] at hP1
    exact hK _ _ _ _ h2 p e R s m args below meth c' H1 locs1 cells slots A Z ls F ⟨hP1, hS1, hL, hl, hv.tl.tl.tl⟩ hr
  · exact h.elim
theorem s_al (hd : decode cc pc = .ok (.arraylength, 1)) : Snd G mts own cc mL rt d sx pc (i_al (pc + 1)) := by
  intro Q K hK L S M h
  unfold i_al at h
  split at h
  · rename_i a t S'
    obtain ⟨h1, h2⟩ := co_t h
    have ha : aty a = 0 ∨ aty a = 1 := by have := Nat.le_of_ble_eq_true h1; omega
    intro p e R s m args below meth c' H locs cells slots A Z ls F I hr
    obtain ⟨hH, hS, hL, hl, hv⟩ := I
    have ht : t < cnt a := (hv.hd : t < cnt a ∨ (a = 35 ∧ t = 0)).resolve_right (fun h => aty_35 ha h.1)
    obtain ⟨k, hk0⟩ := idx_in ht
    rcases ha with ha | ha
    · refine va_alen (ws := wsl G M) F.1 F.2.1 F.2.2.2.2.2.2.1 hH k 0 (cA := G.2.2.2.1) (x := (aln a t, .inl (M.1 a t))) (by rw [wsl_at hk0, cel_row (Or.inl ha), if_pos ha]) (ty := .int) rfl rfl hd ?_
      exact hK _ _ _ _ h2 p e R s m args below meth c' H locs cells slots A Z ls F ⟨hH, hS, hL, hl, .cons trivial hv.tl⟩ hr
    · refine va_alen (ws := wsl G M) F.1 F.2.1 F.2.2.2.2.2.2.1 hH k 1 (cA := G.2.2.2.2.1) (x := (aln a t, .inl (M.1 a t))) (by rw [wsl_at hk0, cel_row (Or.inr ha), if_neg (by rw [ha]; decide)]) (ty := .boolean) rfl rfl hd ?_
      exact hK _ _ _ _ h2 p e R s m args below meth c' H locs cells slots A Z ls F ⟨hH, hS, hL, hl, .cons trivial hv.tl⟩ hr
  · exact h.elim
theorem s_aa (hd : decode cc pc = .ok (.aaload, 1)) : Snd G mts own cc mL rt d sx pc (i_aa (pc + 1)) := by
  intro Q K hK L S M h
  unfold i_aa at h
  split at h
  · rename_i i a t S'
    obtain ⟨h1, h0, h2⟩ := co_t h
    have ha := Nat.eq_of_beq_eq_true h1
    subst ha
    intro p e R s m args below meth c' H locs cells slots A Z ls F I hr
    obtain ⟨hH, hS, hL, hl, hv⟩ := I
    have ht : t < cnt 19 := (hv.tl.hd : t < cnt 19 ∨ (19 = 35 ∧ t = 0)).resolve_right (fun h => absurd h.1 (by decide))
    obtain ⟨k, hk0⟩ := idx_in ht
    refine va_aldq (ws := wsl G M) F.1 F.2.1 F.2.2.2.2.2.2.1 hH k 2 (cA := G.2.2.2.2.2) (C := "LooseHeap$Image") (n := 2) (f := fun j => some (G.2.2.1 20 j)) (by rw [wsl_at hk0]; rfl) rfl h0 hd ?_
    have hlt : i.toNatClampNeg < 2 := Nat.not_le.mp fun q => h0 (Or.inr q)
    exact hK _ _ _ _ h2 p e R s m args below meth c' H locs cells slots A Z ls F ⟨hH, hS, hL, hl, .cons (Or.inl hlt) hv.tl.tl⟩ hr
  · exact h.elim
theorem s_sl {sl : Nat} {xs : Nat → Int32} (hd : decode cc pc = .ok (.iaload, 1)) : Snd G mts own cc mL rt d (some (sl, xs)) pc (i_sl sl xs (pc + 1)) := by
  intro Q K hK L S M h
  unfold i_sl at h
  split at h
  · rename_i i a t S'
    obtain ⟨h1, h0, h2⟩ := co_t h
    have ha := Nat.eq_of_beq_eq_true h1
    subst ha
    intro p e R s m args below meth c' H locs cells slots A Z ls F I hr
    obtain ⟨hH, hS, hL, hl, hv⟩ := I
    have ht : t = 0 := (hv.tl.hd : t < cnt 35 ∨ (35 = 35 ∧ t = 0)).elim (fun h => absurd h (Nat.not_lt_zero t)) (fun h => h.2)
    subst ht
    obtain ⟨x1, x2, x3⟩ := F.2.2.2.2.2.2.2.2.2.2 _ rfl
    refine va_sld F.1 F.2.1 x1 x2 x3 hS h0 hd ?_
    exact hK _ _ _ _ h2 p e R s m args below meth c' H locs cells slots A Z ls F ⟨hH, hS, hL, hl, .cons trivial hv.tl.tl⟩ hr
  · exact h.elim
end RULES2

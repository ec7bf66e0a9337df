section RULES3
variable {G : GX} {mts : Nat → Option MT} {own : String} {cc : ByteArray} {mL : Nat} {rt : Option FieldType} {d : Nat} {sx : SX} {pc : Nat}
theorem s_sn {sl : Nat} {xs : Nat → Int32} (hd : decode cc pc = .ok (.arraylength, 1)) : Snd G mts own cc mL rt d (some (sl, xs)) pc (i_sn sl (pc + 1)) := by
  intro Q K hK L S M h
  unfold i_sn at h
  split at h
  · rename_i a t S'
    obtain ⟨h1, h2⟩ := co_t h
    have ha := Nat.eq_of_beq_eq_true h1
    subst ha
    intro p e R s m args below meth c' H locs cells slots A Z ls F I hr
    obtain ⟨hH, hS, hL, hl, hv⟩ := I
    have ht : t = 0 := (hv.hd : t < cnt 35 ∨ (35 = 35 ∧ t = 0)).elim (fun h => absurd h (Nat.not_lt_zero t)) (fun h => h.2)
    subst ht
    obtain ⟨x1, x2, x3⟩ := F.2.2.2.2.2.2.2.2.2.2 _ rfl
    refine va_slen F.1 F.2.1 x1 x2 x3 hS hd ?_
    exact hK _ _ _ _ h2 p e R s m args below meth c' H locs cells slots A Z ls F ⟨hH, hS, hL, hl, .cons trivial hv.tl⟩ hr
  · exact h.elim
theorem swk_out {x : Int32} {d : Nat} {K : Nat → Prop} : ∀ (tb : List (Int32 × Nat)), swk x d K tb → (∃ v g, (v, g) ∈ tb ∧ x = v ∧ K g) ∨ ((∀ e ∈ tb, x ≠ e.1) ∧ K d)
  | [], h => Or.inr ⟨fun _ h => absurd h List.not_mem_nil, h⟩
  | (v, g) :: r, h => by
    by_cases hx : x = v
    · exact Or.inl ⟨v, g, List.mem_cons_self, hx, h.1 hx⟩
    · rcases swk_out r (h.2 hx) with ⟨v', g', h1, h2, h3⟩ | ⟨h1, h2⟩
      · exact Or.inl ⟨v', g', List.mem_cons_of_mem _ h1, h2, h3⟩
      · exact Or.inr ⟨fun e he => (List.mem_cons.mp he).elim (fun q => by rw [q]; exact hx) (h1 e), h2⟩
theorem s_sw {df lo hi : Int} {offs : Array Int} {len n g : Nat} {tb : List (Int32 × Nat)} (hd : decode cc pc = .ok (.tableswitch df lo hi offs, len)) (hg : (pc : Int) + df = (g : Int)) (hin : tb.all (fun e => decide (¬ e.1.toInt < lo) && decide (¬ hi < e.1.toInt) && decide ((offs[(e.1.toInt - lo).toNat]?).map (fun o => (pc : Int) + o) = some (e.2 : Int))) = true)
    (hn : hi = lo + n - 1) (hall : (List.range n).all (fun k => tb.any fun e => decide (e.1.toInt = lo + k)) = true) : Snd G mts own cc mL rt d sx pc (i_sw tb g) := by
  intro Q K hK L S M h
  unfold i_sw at h
  split at h
  · rename_i x S'
    intro p e R s m args below meth c' H locs cells slots A Z ls F I hr
    obtain ⟨hH, hS, hL, hl, hv⟩ := I
    rcases swk_out tb h with ⟨v, g', h1, rfl, h3⟩ | ⟨h1, h2⟩
    · have h4 := List.all_eq_true.mp hin _ h1
      simp only [Bool.and_eq_true, decide_eq_true_eq] at h4
      obtain ⟨⟨h5, h6⟩, h7⟩ := h4
      cases ho : offs[(x.toInt - lo).toNat]? with
      | none => rw [ho] at h7; cases h7
      | some o =>
        rw [ho] at h7
        refine lv_tableIn F.1 F.2.1 hd h5 h6 ho (Option.some.inj h7) ?_
        exact hK _ _ _ _ h3 p e R s m args below meth c' H locs cells slots A Z ls F ⟨hH, hS, hL, hl, hv.tl⟩ hr
    · refine lv_tableOut F.1 F.2.1 hd ?_ hg ?_
      · by_cases q : x.toInt < lo
        · exact Or.inl q
        · by_cases q2 : hi < x.toInt
          · exact Or.inr q2
          · exfalso
            obtain ⟨k, hk⟩ : ∃ k : Nat, x.toInt = lo + k := ⟨(x.toInt - lo).toNat, by omega⟩
            have hkn : k < n := by omega
            have h5 := List.all_eq_true.mp hall k (List.mem_range.mpr hkn)
            obtain ⟨e', h6, h7⟩ := List.any_eq_true.mp h5
            refine h1 e' h6 (Int32.toInt_inj.mp ?_)
            rw [hk]
            exact (of_decide_eq_true h7).symm
      · exact hK _ _ _ _ h2 p e R s m args below meth c' H locs cells slots A Z ls F ⟨hH, hS, hL, hl, hv.tl⟩ hr
  · exact h.elim
-- ends
theorem s_ri (hd : decode cc pc = .ok (.ireturn, 1)) (hrt : rt = some .int) : Snd G mts own cc mL rt d sx pc i_ri := by
  intro Q K hK L S M h
  unfold i_ri at h
  split at h
  · rename_i v
    intro p e R s m args below meth c' H locs cells slots A Z ls F I hr
    obtain ⟨hH, hS, hL, hl, hv⟩ := I
    exact hr pc ls H locs (some (.inl v)) M ⟨hd, Or.inl hrt⟩ h hH hS
  · exact h.elim
theorem s_rz (hd : decode cc pc = .ok (.ireturn, 1)) (hrt : rt = some .boolean) : Snd G mts own cc mL rt d sx pc i_rz := by
  intro Q K hK L S M h
  unfold i_rz at h
  split at h
  · rename_i v
    intro p e R s m args below meth c' H locs cells slots A Z ls F I hr
    obtain ⟨hH, hS, hL, hl, hv⟩ := I
    exact hr pc ls H locs (some (.inl v)) M ⟨hd, Or.inr ⟨hrt, h.1⟩⟩ h.2 hH hS
  · exact h.elim
theorem s_rl (hd : decode cc pc = .ok (.lreturn, 1)) (hrt : rt = some .long) : Snd G mts own cc mL rt d sx pc i_rl := by
  intro Q K hK L S M h
  unfold i_rl at h
  split at h
  · rename_i v
    intro p e R s m args below meth c' H locs cells slots A Z ls F I hr
    obtain ⟨hH, hS, hL, hl, hv⟩ := I
    exact hr pc ls H locs (some (.inr (.inl v))) M ⟨hd, hrt⟩ h hH hS
  · exact h.elim
theorem s_rv (hd : decode cc pc = .ok (.return_, 1)) (hrt : rt = none) : Snd G mts own cc mL rt d sx pc i_rv := by
  intro Q K hK L S M h
  unfold i_rv at h
  split at h
  · intro p e R s m args below meth c' H locs cells slots A Z ls F I hr
    obtain ⟨hH, hS, hL, hl, hv⟩ := I
    exact hr pc ls H locs none M ⟨hd, hrt⟩ h hH hS
  · exact h.elim
-- Math, System
theorem s_max {index : Nat} (hd : decode cc pc = .ok (.invokestatic index, 3)) (h1 : Cond.methodLink own index Lib.Math.max.name ∈ tW) (h2 : Cond.static Lib.Math.max.name ∈ tW) (h3 : Cond.initialized "java/lang/Math" ∈ tW) (h4 : Cond.code Lib.Math.max.name Lib.Math.max.code 2 (some .int) ∈ tW) : Snd G mts own cc mL rt d sx pc (i_max (pc + 3)) := by
  intro Q K hK L S M h
  unfold i_max at h
  split at h
  · rename_i y x S'
    obtain ⟨q1, q2⟩ := co_t h
    have q3 := Nat.le_of_ble_eq_true q1
    intro p e R s m args below meth c' H locs cells slots A Z ls F I hr
    obtain ⟨hH, hS, hL, hl, hv⟩ := I
    obtain ⟨f1, f2, f3, f4⟩ := F.2.2.2.2.2.2.2.2.1
    refine va_mmax F.1 F.2.1 (by rw [F.2.2.2.1]; exact hL.choose_spec.1.1.symm) F.2.2.2.2.1 (F.2.2.2.2.2.1 _ h1) (F.2.2.2.2.2.1 _ h2) (F.2.2.2.2.2.1 _ h3) (F.2.2.2.2.2.1 _ h4) (by omega) (by rw [cat_sum]; omega) f3 f4 hd ?_
    exact hK _ _ _ _ q2 p e R s m args below meth c' H locs cells slots A Z ls F ⟨hH, hS, hL, hl, .cons trivial hv.tl.tl⟩ hr
  · exact h.elim
theorem s_min {index : Nat} (hd : decode cc pc = .ok (.invokestatic index, 3)) (h1 : Cond.methodLink own index Lib.Math.min.name ∈ tW) (h2 : Cond.static Lib.Math.min.name ∈ tW) (h3 : Cond.initialized "java/lang/Math" ∈ tW) (h4 : Cond.code Lib.Math.min.name Lib.Math.min.code 2 (some .int) ∈ tW) : Snd G mts own cc mL rt d sx pc (i_min (pc + 3)) := by
  intro Q K hK L S M h
  unfold i_min at h
  split at h
  · rename_i y x S'
    obtain ⟨q1, q2⟩ := co_t h
    have q3 := Nat.le_of_ble_eq_true q1
    intro p e R s m args below meth c' H locs cells slots A Z ls F I hr
    obtain ⟨hH, hS, hL, hl, hv⟩ := I
    obtain ⟨f1, f2, f3, f4⟩ := F.2.2.2.2.2.2.2.2.1
    refine va_mmin F.1 F.2.1 (by rw [F.2.2.2.1]; exact hL.choose_spec.1.1.symm) F.2.2.2.2.1 (F.2.2.2.2.2.1 _ h1) (F.2.2.2.2.2.1 _ h2) (F.2.2.2.2.2.1 _ h3) (F.2.2.2.2.2.1 _ h4) (by omega) (by rw [cat_sum]; omega) f3 f4 hd ?_
    exact hK _ _ _ _ q2 p e R s m args below meth c' H locs cells slots A Z ls F ⟨hH, hS, hL, hl, .cons trivial hv.tl.tl⟩ hr
  · exact h.elim
theorem s_abs {index : Nat} (hd : decode cc pc = .ok (.invokestatic index, 3)) (h1 : Cond.methodLink own index Lib.MathLoose.abs_long.x ∈ tW) (h2 : Cond.static Lib.MathLoose.abs_long.x ∈ tW) (h3 : Cond.initialized "java/lang/Math" ∈ tW) (h4 : Cond.code Lib.MathLoose.abs_long.x Lib.MathLoose.abs_long.code 2 (some .long) ∈ tW) : Snd G mts own cc mL rt d sx pc (l_abs (pc + 3)) := by
  intro Q K hK L S M h
  unfold l_abs at h
  split at h
  · rename_i x S'
    obtain ⟨q1, q2⟩ := co_t h
    have q3 := Nat.le_of_ble_eq_true q1
    intro p e R s m args below meth c' H locs cells slots A Z ls F I hr
    obtain ⟨hH, hS, hL, hl, hv⟩ := I
    obtain ⟨f1, f2, f3, f4⟩ := F.2.2.2.2.2.2.2.2.1
    refine va_mabs_long F.1 F.2.1 (by rw [F.2.2.2.1]; exact hL.choose_spec.1.1.symm) F.2.2.2.2.1 (F.2.2.2.2.2.1 _ h1) (F.2.2.2.2.2.1 _ h2) (F.2.2.2.2.2.1 _ h3) (F.2.2.2.2.2.1 _ h4) (by omega) (by rw [cat_sum]; omega) f3 f4 hd ?_
    exact hK _ _ _ _ q2 p e R s m args below meth c' H locs cells slots A Z ls F ⟨hH, hS, hL, hl, .cons trivial hv.tl⟩ hr
  · exact h.elim
theorem cel_cong {G : GX} {M M' : AM} {a t : Nat} (h1 : ∀ z, M'.1 a t z = M.1 a t z) (h2 : M'.2 = M.2) : cel G M' a t = cel G M a t := by
  have kf : M'.1 a t = M.1 a t := funext h1
  unfold cel
  split <;> simp only [h1, h2, kf]
theorem s_acp (hAp : Ap G) {index : Nat} (hd : decode cc pc = .ok (.invokestatic index, 3)) (h1 : Cond.methodLink own index arraycopyName ∈ tW) (h2 : Cond.native arraycopyName ∈ tW) (h3 : Cond.static arraycopyName ∈ tW) (h4 : Cond.initialized "java/lang/System" ∈ tW) (hwords : nativeFrameWords "java/lang/System" "arraycopy" 5 ≤ 20) : Snd G mts own cc mL rt d sx pc (i_acp (pc + 3)) := by
  intro Q K hK L S M h
  unfold i_acp at h
  split at h
  · rename_i n dp a t sp a' t' S'
    obtain ⟨q1, rfl, rfl, rfl, q2⟩ := co_t h
    simp only [Bool.and_eq_true] at q1
    obtain ⟨⟨q3, q4⟩, q5⟩ := q1
    have ha := Nat.eq_of_beq_eq_true q3
    have ha' := Nat.eq_of_beq_eq_true q4
    have q6 := Nat.le_of_ble_eq_true q5
    subst ha
    subst ha'
    intro p e R s m args below meth c' H locs cells slots A Z ls F I hr
    obtain ⟨hH, hS, hL, hl, hv⟩ := I
    obtain ⟨f1, f2, f3, f4⟩ := F.2.2.2.2.2.2.2.2.1
    have ht : t < cnt 12 := (hv.tl.tl.hd : t < cnt 12 ∨ (12 = 35 ∧ t = 0)).resolve_right (fun h => absurd h.1 (by decide))
    have ht' : t' < cnt 12 := (hv.tl.tl.tl.tl.hd : t' < cnt 12 ∨ (12 = 35 ∧ t' = 0)).resolve_right (fun h => absurd h.1 (by decide))
    obtain ⟨k, hk0⟩ := idx_in ht
    obtain ⟨k', hk0'⟩ := idx_in ht'
    refine va_copyi (ws := wsl G M) (n0 := 16) (n1 := 16) (f := M.1 12 t') (g := M.1 12 t) F.1 F.2.1 (by rw [F.2.2.2.1]; exact hL.choose_spec.1.1.symm) F.2.2.2.2.1 (F.2.2.2.2.2.1 _ h1) (F.2.2.2.2.2.1 _ h2) (F.2.2.2.2.2.1 _ h3) (F.2.2.2.2.2.1 _ h4) F.2.2.2.2.2.2.1 hH (hAp.D F.2.2.2.2.2.2.2.2.2.1 M) hS k' k 0 0 (c0 := G.2.2.2.1) (c1 := G.2.2.2.1) (ty := .int) (by rw [wsl_at hk0']; rfl) (by rw [wsl_at hk0]; rfl) rfl rfl rfl (by decide) (by decide) (by decide) (by decide) (by decide) (fun _ _ => rfl) (by omega) (by rw [cat_sum]; omega) hd (fun H1 locs1 hP1 _ hS1 => ?_)
    have e1 : (fun z => if 12 = 12 ∧ t = t then va_cpy (M.1 12 t') (M.1 12 t) 0 0 16 z else M.1 12 t z) = va_cpy (M.1 12 t') (M.1 12 t) 0 0 16 := by
      funext z
      simp
    have e2 : (Sum.inl (G.2.2.2.1, 16, Sum.inl (va_cpy (M.1 12 t') (M.1 12 t) 0 0 16)) : va_E) = cel G (fun x y z => if x = 12 ∧ y = t then va_cpy (M.1 12 t') (M.1 12 t) 0 0 16 z else M.1 x y z, M.2) 12 t := by
      rw [cel_row (Or.inl rfl), if_pos (show aty 12 = 0 from rfl)]
      exact congrArg (fun f => (Sum.inl (G.2.2.2.1, 16, Sum.inl f) : va_E)) e1.symm
    have hP1 : va_P G.2.1 vwCl ((wsl G M).set k (G.2.2.1 12 t, Sum.inl (G.2.2.2.1, 16, Sum.inl (va_cpy (M.1 12 t') (M.1 12 t) 0 0 16)))) H1 := hP1
    rw [wsl_set hAp (M := M) (M' := (fun x y z => if x = 12 ∧ y = t then va_cpy (M.1 12 t') (M.1 12 t) 0 0 16 z else M.1 x y z, M.2)) hk0 e2 (fun b u hne => cel_cong (fun z => by
      show (if b = 12 ∧ u = t then _ else M.1 b u z) = M.1 b u z
      rw [if_neg]
      rintro ⟨g1, g2⟩
      exact hne (by rw [g1, g2])) rfl)] at hP1
    exact hK _ _ _ _ q2 p e R s m args below meth c' H1 locs1 cells slots A Z ls F ⟨hP1, hS1, hL, hl, hv.tl.tl.tl.tl.tl⟩ hr
  · exact h.elim
end RULES3

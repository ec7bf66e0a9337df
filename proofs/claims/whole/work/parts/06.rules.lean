section RULES
variable {G : GX} {mts : Nat → Option MT} {own : String} {cc : ByteArray} {mL : Nat} {rt : Option FieldType} {d : Nat} {sx : SX} {pc : Nat}
theorem s_i_add (hd : decode cc pc = .ok (.iadd, 1)) : Snd G mts own cc mL rt d sx pc (i_add (pc + 1)) := by
  intro Q K hK L S M h
  unfold i_add at h
  split at h
  · intro p e R s m args below meth c H locs cells slots A Z ls F I hr
    obtain ⟨hH, hS, hL, hl, hv⟩ := I
    refine lv_iadd F.1 F.2.1 hd ?_
    exact hK _ _ _ _ h p e R s m args below meth c H locs cells slots A Z ls F ⟨hH, hS, hL, hl, .cons trivial hv.tl.tl⟩ hr
  · exact h.elim
theorem s_i_sub (hd : decode cc pc = .ok (.isub, 1)) : Snd G mts own cc mL rt d sx pc (i_sub (pc + 1)) := by
  intro Q K hK L S M h
  unfold i_sub at h
  split at h
  · intro p e R s m args below meth c H locs cells slots A Z ls F I hr
    obtain ⟨hH, hS, hL, hl, hv⟩ := I
    refine lv_isub F.1 F.2.1 hd ?_
    exact hK _ _ _ _ h p e R s m args below meth c H locs cells slots A Z ls F ⟨hH, hS, hL, hl, .cons trivial hv.tl.tl⟩ hr
  · exact h.elim
theorem s_i_mul (hd : decode cc pc = .ok (.imul, 1)) : Snd G mts own cc mL rt d sx pc (i_mul (pc + 1)) := by
  intro Q K hK L S M h
  unfold i_mul at h
  split at h
  · intro p e R s m args below meth c H locs cells slots A Z ls F I hr
    obtain ⟨hH, hS, hL, hl, hv⟩ := I
    refine lv_imul F.1 F.2.1 hd ?_
    exact hK _ _ _ _ h p e R s m args below meth c H locs cells slots A Z ls F ⟨hH, hS, hL, hl, .cons trivial hv.tl.tl⟩ hr
  · exact h.elim
theorem s_i_or (hd : decode cc pc = .ok (.ior, 1)) : Snd G mts own cc mL rt d sx pc (i_or (pc + 1)) := by
  intro Q K hK L S M h
  unfold i_or at h
  split at h
  · intro p e R s m args below meth c H locs cells slots A Z ls F I hr
    obtain ⟨hH, hS, hL, hl, hv⟩ := I
    refine lv_ior F.1 F.2.1 hd ?_
    exact hK _ _ _ _ h p e R s m args below meth c H locs cells slots A Z ls F ⟨hH, hS, hL, hl, .cons trivial hv.tl.tl⟩ hr
  · exact h.elim
theorem s_i_and (hd : decode cc pc = .ok (.iand, 1)) : Snd G mts own cc mL rt d sx pc (i_and (pc + 1)) := by
  intro Q K hK L S M h
  unfold i_and at h
  split at h
  · intro p e R s m args below meth c H locs cells slots A Z ls F I hr
    obtain ⟨hH, hS, hL, hl, hv⟩ := I
    refine lv_iand F.1 F.2.1 hd ?_
    exact hK _ _ _ _ h p e R s m args below meth c H locs cells slots A Z ls F ⟨hH, hS, hL, hl, .cons trivial hv.tl.tl⟩ hr
  · exact h.elim
theorem s_i_shl (hd : decode cc pc = .ok (.ishl, 1)) : Snd G mts own cc mL rt d sx pc (i_shl (pc + 1)) := by
  intro Q K hK L S M h
  unfold i_shl at h
  split at h
  · intro p e R s m args below meth c H locs cells slots A Z ls F I hr
    obtain ⟨hH, hS, hL, hl, hv⟩ := I
    refine lv_ishl F.1 F.2.1 hd ?_
    exact hK _ _ _ _ h p e R s m args below meth c H locs cells slots A Z ls F ⟨hH, hS, hL, hl, .cons trivial hv.tl.tl⟩ hr
  · exact h.elim
theorem s_i_shr (hd : decode cc pc = .ok (.ishr, 1)) : Snd G mts own cc mL rt d sx pc (i_shr (pc + 1)) := by
  intro Q K hK L S M h
  unfold i_shr at h
  split at h
  · intro p e R s m args below meth c H locs cells slots A Z ls F I hr
    obtain ⟨hH, hS, hL, hl, hv⟩ := I
    refine lv_ishr F.1 F.2.1 hd ?_
    exact hK _ _ _ _ h p e R s m args below meth c H locs cells slots A Z ls F ⟨hH, hS, hL, hl, .cons trivial hv.tl.tl⟩ hr
  · exact h.elim
theorem s_i_neg (hd : decode cc pc = .ok (.ineg, 1)) : Snd G mts own cc mL rt d sx pc (i_neg (pc + 1)) := by
  intro Q K hK L S M h
  unfold i_neg at h
  split at h
  · intro p e R s m args below meth c H locs cells slots A Z ls F I hr
    obtain ⟨hH, hS, hL, hl, hv⟩ := I
    refine lv_ineg F.1 F.2.1 hd ?_
    exact hK _ _ _ _ h p e R s m args below meth c H locs cells slots A Z ls F ⟨hH, hS, hL, hl, .cons trivial hv.tl⟩ hr
  · exact h.elim
theorem s_i_2l (hd : decode cc pc = .ok (.i2l, 1)) : Snd G mts own cc mL rt d sx pc (i_2l (pc + 1)) := by
  intro Q K hK L S M h
  unfold i_2l at h
  split at h
  · intro p e R s m args below meth c H locs cells slots A Z ls F I hr
    obtain ⟨hH, hS, hL, hl, hv⟩ := I
    refine lv_i2l F.1 F.2.1 hd rfl ?_
    exact hK _ _ _ _ h p e R s m args below meth c H locs cells slots A Z ls F ⟨hH, hS, hL, hl, .cons trivial hv.tl⟩ hr
  · exact h.elim
theorem s_l_2i (hd : decode cc pc = .ok (.l2i, 1)) : Snd G mts own cc mL rt d sx pc (l_2i (pc + 1)) := by
  intro Q K hK L S M h
  unfold l_2i at h
  split at h
  · intro p e R s m args below meth c H locs cells slots A Z ls F I hr
    obtain ⟨hH, hS, hL, hl, hv⟩ := I
    refine lv_l2i F.1 F.2.1 hd rfl ?_
    exact hK _ _ _ _ h p e R s m args below meth c H locs cells slots A Z ls F ⟨hH, hS, hL, hl, .cons trivial hv.tl⟩ hr
  · exact h.elim
theorem s_l_add (hd : decode cc pc = .ok (.ladd, 1)) : Snd G mts own cc mL rt d sx pc (l_add (pc + 1)) := by
  intro Q K hK L S M h
  unfold l_add at h
  split at h
  · intro p e R s m args below meth c H locs cells slots A Z ls F I hr
    obtain ⟨hH, hS, hL, hl, hv⟩ := I
    refine lv_ladd F.1 F.2.1 hd ?_
    exact hK _ _ _ _ h p e R s m args below meth c H locs cells slots A Z ls F ⟨hH, hS, hL, hl, .cons trivial hv.tl.tl⟩ hr
  · exact h.elim
theorem s_l_sub (hd : decode cc pc = .ok (.lsub, 1)) : Snd G mts own cc mL rt d sx pc (l_sub (pc + 1)) := by
  intro Q K hK L S M h
  unfold l_sub at h
  split at h
  · intro p e R s m args below meth c H locs cells slots A Z ls F I hr
    obtain ⟨hH, hS, hL, hl, hv⟩ := I
    refine lv_lsub F.1 F.2.1 hd ?_
    exact hK _ _ _ _ h p e R s m args below meth c H locs cells slots A Z ls F ⟨hH, hS, hL, hl, .cons trivial hv.tl.tl⟩ hr
  · exact h.elim
theorem s_l_mul (hd : decode cc pc = .ok (.lmul, 1)) : Snd G mts own cc mL rt d sx pc (l_mul (pc + 1)) := by
  intro Q K hK L S M h
  unfold l_mul at h
  split at h
  · intro p e R s m args below meth c H locs cells slots A Z ls F I hr
    obtain ⟨hH, hS, hL, hl, hv⟩ := I
    refine lv_lmul F.1 F.2.1 hd ?_
    exact hK _ _ _ _ h p e R s m args below meth c H locs cells slots A Z ls F ⟨hH, hS, hL, hl, .cons trivial hv.tl.tl⟩ hr
  · exact h.elim
theorem s_l_or (hd : decode cc pc = .ok (.lor, 1)) : Snd G mts own cc mL rt d sx pc (l_or (pc + 1)) := by
  intro Q K hK L S M h
  unfold l_or at h
  split at h
  · intro p e R s m args below meth c H locs cells slots A Z ls F I hr
    obtain ⟨hH, hS, hL, hl, hv⟩ := I
    refine lv_lor F.1 F.2.1 hd ?_
    exact hK _ _ _ _ h p e R s m args below meth c H locs cells slots A Z ls F ⟨hH, hS, hL, hl, .cons trivial hv.tl.tl⟩ hr
  · exact h.elim
theorem s_l_rem (hd : decode cc pc = .ok (.lrem, 1)) : Snd G mts own cc mL rt d sx pc (l_rem (pc + 1)) := by
  intro Q K hK L S M h
  unfold l_rem at h
  split at h
  · intro p e R s m args below meth c H locs cells slots A Z ls F I hr
    obtain ⟨hH, hS, hL, hl, hv⟩ := I
    refine lv_lrem F.1 F.2.1 hd h.1 ?_
    exact hK _ _ _ _ h.2 p e R s m args below meth c H locs cells slots A Z ls F ⟨hH, hS, hL, hl, .cons trivial hv.tl.tl⟩ hr
  · exact h.elim
theorem s_l_cmp (hd : decode cc pc = .ok (.lcmp, 1)) : Snd G mts own cc mL rt d sx pc (l_cmp (pc + 1)) := by
  intro Q K hK L S M h
  unfold l_cmp at h
  split at h
  · intro p e R s m args below meth c H locs cells slots A Z ls F I hr
    obtain ⟨hH, hS, hL, hl, hv⟩ := I
    refine W.lcmp F.1 F.2.1 hd ?_
    exact hK _ _ _ _ h p e R s m args below meth c H locs cells slots A Z ls F ⟨hH, hS, hL, hl, .cons trivial hv.tl.tl⟩ hr
  · exact h.elim
theorem s_l_shl (hd : decode cc pc = .ok (.lshl, 1)) : Snd G mts own cc mL rt d sx pc (l_shl (pc + 1)) := by
  intro Q K hK L S M h
  unfold l_shl at h
  split at h
  · intro p e R s m args below meth c H locs cells slots A Z ls F I hr
    obtain ⟨hH, hS, hL, hl, hv⟩ := I
    refine lv_lshl F.1 F.2.1 hd rfl ?_
    exact hK _ _ _ _ h p e R s m args below meth c H locs cells slots A Z ls F ⟨hH, hS, hL, hl, .cons trivial hv.tl.tl⟩ hr
  · exact h.elim
theorem s_l_shr (hd : decode cc pc = .ok (.lshr, 1)) : Snd G mts own cc mL rt d sx pc (l_shr (pc + 1)) := by
  intro Q K hK L S M h
  unfold l_shr at h
  split at h
  · intro p e R s m args below meth c H locs cells slots A Z ls F I hr
    obtain ⟨hH, hS, hL, hl, hv⟩ := I
    refine lv_lshr F.1 F.2.1 hd rfl ?_
    exact hK _ _ _ _ h p e R s m args below meth c H locs cells slots A Z ls F ⟨hH, hS, hL, hl, .cons trivial hv.tl.tl⟩ hr
  · exact h.elim
theorem s_i_pop (hd : decode cc pc = .ok (.pop, 1)) : Snd G mts own cc mL rt d sx pc (i_pop (pc + 1)) := by
  intro Q K hK L S M h
  unfold i_pop at h
  split at h
  · intro p e R s m args below meth c H locs cells slots A Z ls F I hr
    obtain ⟨hH, hS, hL, hl, hv⟩ := I
    refine lv_pop F.1 F.2.1 hd rfl ?_
    exact hK _ _ _ _ h p e R s m args below meth c H locs cells slots A Z ls F ⟨hH, hS, hL, hl, hv.tl⟩ hr
  · exact h.elim
theorem s_i_dup2 (hd : decode cc pc = .ok (.dup2, 1)) : Snd G mts own cc mL rt d sx pc (i_dup2 (pc + 1)) := by
  intro Q K hK L S M h
  unfold i_dup2 at h
  split at h
  · intro p e R s m args below meth c H locs cells slots A Z ls F I hr
    obtain ⟨hH, hS, hL, hl, hv⟩ := I
    refine lv_dup2_11 F.1 F.2.1 hd rfl rfl ?_
    exact hK _ _ _ _ h p e R s m args below meth c H locs cells slots A Z ls F ⟨hH, hS, hL, hl, .cons hv.hd (.cons hv.tl.hd hv)⟩ hr
  · exact h.elim
theorem s_i_dup (hd : decode cc pc = .ok (.dup, 1)) : Snd G mts own cc mL rt d sx pc (i_dup (pc + 1)) := by
  intro Q K hK L S M h
  unfold i_dup at h
  split at h
  · intro p e R s m args below meth c H locs cells slots A Z ls F I hr
    obtain ⟨hH, hS, hL, hl, hv⟩ := I
    refine lv_dup F.1 F.2.1 hd rfl ?_
    exact hK _ _ _ _ h p e R s m args below meth c H locs cells slots A Z ls F ⟨hH, hS, hL, hl, .cons hv.hd hv⟩ hr
  · intro p e R s m args below meth c H locs cells slots A Z ls F I hr
    obtain ⟨hH, hS, hL, hl, hv⟩ := I
    refine lv_dup F.1 F.2.1 hd rfl ?_
    exact hK _ _ _ _ h p e R s m args below meth c H locs cells slots A Z ls F ⟨hH, hS, hL, hl, .cons hv.hd hv⟩ hr
  · exact h.elim
theorem s_iconst {n : Int} {v : Int32} (hd : decode cc pc = .ok (.iconst n, 1)) (hv0 : Int32.ofInt n = v) : Snd G mts own cc mL rt d sx pc (i_c v (pc + 1)) := by
  intro Q K hK L S M h
  intro p e R s m args below meth c H locs cells slots A Z ls F I hr
  obtain ⟨hH, hS, hL, hl, hv⟩ := I
  refine lv_iconst F.1 F.2.1 hd hv0 ?_
  exact hK _ _ _ _ h p e R s m args below meth c H locs cells slots A Z ls F ⟨hH, hS, hL, hl, .cons trivial hv⟩ hr
theorem s_bipush {n : Int} {v : Int32} (hd : decode cc pc = .ok (.bipush n, 2)) (hv0 : (Int8.ofInt n).toInt32 = v) : Snd G mts own cc mL rt d sx pc (i_c v (pc + 2)) := by
  intro Q K hK L S M h
  intro p e R s m args below meth c H locs cells slots A Z ls F I hr
  obtain ⟨hH, hS, hL, hl, hv⟩ := I
  refine lv_bipush F.1 F.2.1 hd hv0 ?_
  exact hK _ _ _ _ h p e R s m args below meth c H locs cells slots A Z ls F ⟨hH, hS, hL, hl, .cons trivial hv⟩ hr
theorem s_sipush {n : Int} {v : Int32} (hd : decode cc pc = .ok (.sipush n, 3)) (hv0 : (Int16.ofInt n).toInt32 = v) : Snd G mts own cc mL rt d sx pc (i_c v (pc + 3)) := by
  intro Q K hK L S M h
  intro p e R s m args below meth c H locs cells slots A Z ls F I hr
  obtain ⟨hH, hS, hL, hl, hv⟩ := I
  refine lv_sipush F.1 F.2.1 hd hv0 ?_
  exact hK _ _ _ _ h p e R s m args below meth c H locs cells slots A Z ls F ⟨hH, hS, hL, hl, .cons trivial hv⟩ hr
theorem s_ldc {k : Nat} {v : Int32} (hd : decode cc pc = .ok (.ldc k, 2)) (hw : Cond.constant own k v ∈ tW) : Snd G mts own cc mL rt d sx pc (i_c v (pc + 2)) := by
  intro Q K hK L S M h
  intro p e R s m args below meth c H locs cells slots A Z ls F I hr
  obtain ⟨hH, hS, hL, hl, hv⟩ := I
  refine lv_ldc F.1 F.2.1 F.2.2.2.2.1 (F.2.2.2.2.2.1 _ hw) hd ?_
  exact hK _ _ _ _ h p e R s m args below meth c H locs cells slots A Z ls F ⟨hH, hS, hL, hl, .cons trivial hv⟩ hr
theorem s_ldc2 {k : Nat} {v : Int64} (hd : decode cc pc = .ok (.ldc2_w k, 3)) (hw : Cond.constantLong own k v ∈ tW) : Snd G mts own cc mL rt d sx pc (i_cl v (pc + 3)) := by
  intro Q K hK L S M h
  intro p e R s m args below meth c H locs cells slots A Z ls F I hr
  obtain ⟨hH, hS, hL, hl, hv⟩ := I
  refine lv_ldc2 F.1 F.2.1 F.2.2.2.2.1 (F.2.2.2.2.2.1 _ hw) hd ?_
  exact hK _ _ _ _ h p e R s m args below meth c H locs cells slots A Z ls F ⟨hH, hS, hL, hl, .cons trivial hv⟩ hr
theorem s_lconst {n : Fin 2} {v : Int64} (hd : decode cc pc = .ok (.lconst n, 1)) (hv0 : Int64.ofNat n = v) : Snd G mts own cc mL rt d sx pc (i_cl v (pc + 1)) := by
  intro Q K hK L S M h
  intro p e R s m args below meth c H locs cells slots A Z ls F I hr
  obtain ⟨hH, hS, hL, hl, hv⟩ := I
  refine lv_lconst F.1 F.2.1 hd hv0 ?_
  exact hK _ _ _ _ h p e R s m args below meth c H locs cells slots A Z ls F ⟨hH, hS, hL, hl, .cons trivial hv⟩ hr
theorem s_li_n {k : Fin 4} {i : Nat} (hd : decode cc pc = .ok (.iload_n k, 1)) (hk : (k : Nat) = i) : Snd G mts own cc mL rt d sx pc (i_li i (pc + 1)) := by
  intro Q K hK L S M h
  unfold i_li at h
  split at h
  · rename_i he
    intro p e R s m args below meth c H locs cells slots A Z ls F I hr
    obtain ⟨hH, hS, hL, hl, hv⟩ := I
    refine lv_iload_n F.1 F.2.1 hd hk (hL.at he) ?_
    exact hK _ _ _ _ h p e R s m args below meth c H locs cells slots A Z ls F ⟨hH, hS, hL, hl, .cons (hl _ _ he) hv⟩ hr
  · exact h.elim
theorem s_li {i : Nat} (hd : decode cc pc = .ok (.iload i, 2))  : Snd G mts own cc mL rt d sx pc (i_li i (pc + 2)) := by
  intro Q K hK L S M h
  unfold i_li at h
  split at h
  · rename_i he
    intro p e R s m args below meth c H locs cells slots A Z ls F I hr
    obtain ⟨hH, hS, hL, hl, hv⟩ := I
    refine lv_iload F.1 F.2.1 hd (hL.at he) ?_
    exact hK _ _ _ _ h p e R s m args below meth c H locs cells slots A Z ls F ⟨hH, hS, hL, hl, .cons (hl _ _ he) hv⟩ hr
  · exact h.elim
theorem s_la_n {k : Fin 4} {i : Nat} (hd : decode cc pc = .ok (.aload_n k, 1)) (hk : (k : Nat) = i) : Snd G mts own cc mL rt d sx pc (i_la i (pc + 1)) := by
  intro Q K hK L S M h
  unfold i_la at h
  split at h
  · rename_i he
    intro p e R s m args below meth c H locs cells slots A Z ls F I hr
    obtain ⟨hH, hS, hL, hl, hv⟩ := I
    refine lv_aload_n F.1 F.2.1 hd hk (hL.at he) ?_
    exact hK _ _ _ _ h p e R s m args below meth c H locs cells slots A Z ls F ⟨hH, hS, hL, hl, .cons (hl _ _ he) hv⟩ hr
  · exact h.elim
theorem s_la {i : Nat} (hd : decode cc pc = .ok (.aload i, 2))  : Snd G mts own cc mL rt d sx pc (i_la i (pc + 2)) := by
  intro Q K hK L S M h
  unfold i_la at h
  split at h
  · rename_i he
    intro p e R s m args below meth c H locs cells slots A Z ls F I hr
    obtain ⟨hH, hS, hL, hl, hv⟩ := I
    refine lv_aload F.1 F.2.1 hd (hL.at he) ?_
    exact hK _ _ _ _ h p e R s m args below meth c H locs cells slots A Z ls F ⟨hH, hS, hL, hl, .cons (hl _ _ he) hv⟩ hr
  · exact h.elim
theorem s_ll_n {k : Fin 4} {i : Nat} (hd : decode cc pc = .ok (.lload_n k, 1)) (hk : (k : Nat) = i) : Snd G mts own cc mL rt d sx pc (i_ll i (pc + 1)) := by
  intro Q K hK L S M h
  unfold i_ll at h
  split at h
  · rename_i he
    intro p e R s m args below meth c H locs cells slots A Z ls F I hr
    obtain ⟨hH, hS, hL, hl, hv⟩ := I
    refine lv_lload_n F.1 F.2.1 hd hk (hL.at he) ?_
    exact hK _ _ _ _ h p e R s m args below meth c H locs cells slots A Z ls F ⟨hH, hS, hL, hl, .cons (hl _ _ he) hv⟩ hr
  · exact h.elim
theorem s_ll {i : Nat} (hd : decode cc pc = .ok (.lload i, 2))  : Snd G mts own cc mL rt d sx pc (i_ll i (pc + 2)) := by
  intro Q K hK L S M h
  unfold i_ll at h
  split at h
  · rename_i he
    intro p e R s m args below meth c H locs cells slots A Z ls F I hr
    obtain ⟨hH, hS, hL, hl, hv⟩ := I
    refine lv_lload F.1 F.2.1 hd (hL.at he) ?_
    exact hK _ _ _ _ h p e R s m args below meth c H locs cells slots A Z ls F ⟨hH, hS, hL, hl, .cons (hl _ _ he) hv⟩ hr
  · exact h.elim
theorem s_st_n {k : Fin 4} {i : Nat} (hd : decode cc pc = .ok (.istore_n k, 1)) (hk : (k : Nat) = i) (hi : i < mL) : Snd G mts own cc mL rt d sx pc (i_st i (pc + 1)) := by
  intro Q K hK L S M h
  unfold i_st at h
  split at h
  · rename_i x S'
    intro p e R s m args below meth c H locs cells slots A Z ls F I hr
    obtain ⟨hH, hS, ⟨l, h1, h2⟩, hl, hv⟩ := I
    refine lv_istore_n F.1 F.2.1 hd hk h1 hi rfl (fun ls' h3 => ?_)
    exact hK _ _ _ _ h p e R s m args below meth c H locs cells slots A Z ls' F ⟨hH, hS, ⟨_, h3, LR.st1 (mL := mL) h2 x⟩, hl.se (fun w e => by cases e; trivial), hv.tl⟩ hr
  · exact h.elim
theorem s_st {i : Nat} (hd : decode cc pc = .ok (.istore i, 2))  (hi : i < mL) : Snd G mts own cc mL rt d sx pc (i_st i (pc + 2)) := by
  intro Q K hK L S M h
  unfold i_st at h
  split at h
  · rename_i x S'
    intro p e R s m args below meth c H locs cells slots A Z ls F I hr
    obtain ⟨hH, hS, ⟨l, h1, h2⟩, hl, hv⟩ := I
    refine lv_istore F.1 F.2.1 hd h1 hi rfl (fun ls' h3 => ?_)
    exact hK _ _ _ _ h p e R s m args below meth c H locs cells slots A Z ls' F ⟨hH, hS, ⟨_, h3, LR.st1 (mL := mL) h2 x⟩, hl.se (fun w e => by cases e; trivial), hv.tl⟩ hr
  · exact h.elim
theorem s_st2_n {k : Fin 4} {i : Nat} (hd : decode cc pc = .ok (.lstore_n k, 1)) (hk : (k : Nat) = i) (hi : i + 1 < mL) : Snd G mts own cc mL rt d sx pc (i_st2 i (pc + 1)) := by
  intro Q K hK L S M h
  unfold i_st2 at h
  split at h
  · rename_i x S'
    intro p e R s m args below meth c H locs cells slots A Z ls F I hr
    obtain ⟨hH, hS, ⟨l, h1, h2⟩, hl, hv⟩ := I
    refine lv_lstore_n F.1 F.2.1 hd hk h1 hi rfl (fun ls' h3 => ?_)
    exact hK _ _ _ _ h p e R s m args below meth c H locs cells slots A Z ls' F ⟨hH, hS, ⟨_, h3, LR.st2 (mL := mL) h2 x⟩, (hl.se (fun w e => by cases e)).se (fun w e => by cases e; trivial), hv.tl⟩ hr
  · exact h.elim
theorem s_st2 {i : Nat} (hd : decode cc pc = .ok (.lstore i, 2))  (hi : i + 1 < mL) : Snd G mts own cc mL rt d sx pc (i_st2 i (pc + 2)) := by
  intro Q K hK L S M h
  unfold i_st2 at h
  split at h
  · rename_i x S'
    intro p e R s m args below meth c H locs cells slots A Z ls F I hr
    obtain ⟨hH, hS, ⟨l, h1, h2⟩, hl, hv⟩ := I
    refine lv_lstore F.1 F.2.1 hd h1 hi rfl (fun ls' h3 => ?_)
    exact hK _ _ _ _ h p e R s m args below meth c H locs cells slots A Z ls' F ⟨hH, hS, ⟨_, h3, LR.st2 (mL := mL) h2 x⟩, (hl.se (fun w e => by cases e)).se (fun w e => by cases e; trivial), hv.tl⟩ hr
  · exact h.elim
theorem s_inc {i : Nat} {n : Int} {v : Int32} (hd : decode cc pc = .ok (.iinc i n, 3)) (hv0 : Int32.ofInt n = v) (hi : i < mL) : Snd G mts own cc mL rt d sx pc (i_inc i v (pc + 3)) := by
  intro Q K hK L S M h
  unfold i_inc at h
  split at h
  · rename_i x he
    intro p e R s m args below meth c H locs cells slots A Z ls F I hr
    obtain ⟨hH, hS, ⟨l, h1, h2⟩, hl, hv⟩ := I
    obtain ⟨k, hk⟩ := List.getElem?_of_mem (h2 _ _ he)
    refine lv_iinc F.1 F.2.1 hd h1 (k := k) hk (by rw [hv0]) hi rfl (fun ls' h3 => ?_)
    exact hK _ _ _ _ h p e R s m args below meth c H locs cells slots A Z ls' F ⟨hH, hS, ⟨_, h3, LR.st1 (mL := mL) h2 _⟩, hl.se (fun w e => by cases e; trivial), hv⟩ hr
  · exact h.elim
theorem s_if_eq {off : Int} {g : Nat} (hd : decode cc pc = .ok (.ifCond .eq off, 3)) (hg : (pc : Int) + off = (g : Int)) : Snd G mts own cc mL rt d sx pc (i_if_eq g (pc + 3)) := by
  intro Q K hK L S M h
  unfold i_if_eq at h
  split at h
  · intro p e R s m args below meth c H locs cells slots A Z ls F I hr
    obtain ⟨hH, hS, hL, hl, hv⟩ := I
    exact lv_if_eq F.1 F.2.1 hd hg (fun q => hK _ _ _ _ (h.1 q) p e R s m args below meth c H locs cells slots A Z ls F ⟨hH, hS, hL, hl, hv.tl⟩ hr) (fun q => hK _ _ _ _ (h.2 q) p e R s m args below meth c H locs cells slots A Z ls F ⟨hH, hS, hL, hl, hv.tl⟩ hr)
  · exact h.elim
theorem s_ic_eq {off : Int} {g : Nat} (hd : decode cc pc = .ok (.if_icmp .eq off, 3)) (hg : (pc : Int) + off = (g : Int)) : Snd G mts own cc mL rt d sx pc (i_ic_eq g (pc + 3)) := by
  intro Q K hK L S M h
  unfold i_ic_eq at h
  split at h
  · intro p e R s m args below meth c H locs cells slots A Z ls F I hr
    obtain ⟨hH, hS, hL, hl, hv⟩ := I
    exact lv_icmp_eq F.1 F.2.1 hd hg (fun q => hK _ _ _ _ (h.1 q) p e R s m args below meth c H locs cells slots A Z ls F ⟨hH, hS, hL, hl, hv.tl.tl⟩ hr) (fun q => hK _ _ _ _ (h.2 q) p e R s m args below meth c H locs cells slots A Z ls F ⟨hH, hS, hL, hl, hv.tl.tl⟩ hr)
  · exact h.elim
theorem s_if_ne {off : Int} {g : Nat} (hd : decode cc pc = .ok (.ifCond .ne off, 3)) (hg : (pc : Int) + off = (g : Int)) : Snd G mts own cc mL rt d sx pc (i_if_ne g (pc + 3)) := by
  intro Q K hK L S M h
  unfold i_if_ne at h
  split at h
  · intro p e R s m args below meth c H locs cells slots A Z ls F I hr
    obtain ⟨hH, hS, hL, hl, hv⟩ := I
    exact lv_if_ne F.1 F.2.1 hd hg (fun q => hK _ _ _ _ (h.1 q) p e R s m args below meth c H locs cells slots A Z ls F ⟨hH, hS, hL, hl, hv.tl⟩ hr) (fun q => hK _ _ _ _ (h.2 q) p e R s m args below meth c H locs cells slots A Z ls F ⟨hH, hS, hL, hl, hv.tl⟩ hr)
  · exact h.elim
theorem s_ic_ne {off : Int} {g : Nat} (hd : decode cc pc = .ok (.if_icmp .ne off, 3)) (hg : (pc : Int) + off = (g : Int)) : Snd G mts own cc mL rt d sx pc (i_ic_ne g (pc + 3)) := by
  intro Q K hK L S M h
  unfold i_ic_ne at h
  split at h
  · intro p e R s m args below meth c H locs cells slots A Z ls F I hr
    obtain ⟨hH, hS, hL, hl, hv⟩ := I
    exact lv_icmp_ne F.1 F.2.1 hd hg (fun q => hK _ _ _ _ (h.1 q) p e R s m args below meth c H locs cells slots A Z ls F ⟨hH, hS, hL, hl, hv.tl.tl⟩ hr) (fun q => hK _ _ _ _ (h.2 q) p e R s m args below meth c H locs cells slots A Z ls F ⟨hH, hS, hL, hl, hv.tl.tl⟩ hr)
  · exact h.elim
theorem s_if_lt {off : Int} {g : Nat} (hd : decode cc pc = .ok (.ifCond .lt off, 3)) (hg : (pc : Int) + off = (g : Int)) : Snd G mts own cc mL rt d sx pc (i_if_lt g (pc + 3)) := by
  intro Q K hK L S M h
  unfold i_if_lt at h
  split at h
  · intro p e R s m args below meth c H locs cells slots A Z ls F I hr
    obtain ⟨hH, hS, hL, hl, hv⟩ := I
    exact lv_if_lt F.1 F.2.1 hd hg (fun q => hK _ _ _ _ (h.1 q) p e R s m args below meth c H locs cells slots A Z ls F ⟨hH, hS, hL, hl, hv.tl⟩ hr) (fun q => hK _ _ _ _ (h.2 q) p e R s m args below meth c H locs cells slots A Z ls F ⟨hH, hS, hL, hl, hv.tl⟩ hr)
  · exact h.elim
theorem s_ic_lt {off : Int} {g : Nat} (hd : decode cc pc = .ok (.if_icmp .lt off, 3)) (hg : (pc : Int) + off = (g : Int)) : Snd G mts own cc mL rt d sx pc (i_ic_lt g (pc + 3)) := by
  intro Q K hK L S M h
  unfold i_ic_lt at h
  split at h
  · intro p e R s m args below meth c H locs cells slots A Z ls F I hr
    obtain ⟨hH, hS, hL, hl, hv⟩ := I
    exact lv_icmp_lt F.1 F.2.1 hd hg (fun q => hK _ _ _ _ (h.1 q) p e R s m args below meth c H locs cells slots A Z ls F ⟨hH, hS, hL, hl, hv.tl.tl⟩ hr) (fun q => hK _ _ _ _ (h.2 q) p e R s m args below meth c H locs cells slots A Z ls F ⟨hH, hS, hL, hl, hv.tl.tl⟩ hr)
  · exact h.elim
theorem s_if_ge {off : Int} {g : Nat} (hd : decode cc pc = .ok (.ifCond .ge off, 3)) (hg : (pc : Int) + off = (g : Int)) : Snd G mts own cc mL rt d sx pc (i_if_ge g (pc + 3)) := by
  intro Q K hK L S M h
  unfold i_if_ge at h
  split at h
  · intro p e R s m args below meth c H locs cells slots A Z ls F I hr
    obtain ⟨hH, hS, hL, hl, hv⟩ := I
    exact lv_if_ge F.1 F.2.1 hd hg (fun q => hK _ _ _ _ (h.1 q) p e R s m args below meth c H locs cells slots A Z ls F ⟨hH, hS, hL, hl, hv.tl⟩ hr) (fun q => hK _ _ _ _ (h.2 q) p e R s m args below meth c H locs cells slots A Z ls F ⟨hH, hS, hL, hl, hv.tl⟩ hr)
  · exact h.elim
theorem s_ic_ge {off : Int} {g : Nat} (hd : decode cc pc = .ok (.if_icmp .ge off, 3)) (hg : (pc : Int) + off = (g : Int)) : Snd G mts own cc mL rt d sx pc (i_ic_ge g (pc + 3)) := by
  intro Q K hK L S M h
  unfold i_ic_ge at h
  split at h
  · intro p e R s m args below meth c H locs cells slots A Z ls F I hr
    obtain ⟨hH, hS, hL, hl, hv⟩ := I
    exact lv_icmp_ge F.1 F.2.1 hd hg (fun q => hK _ _ _ _ (h.1 q) p e R s m args below meth c H locs cells slots A Z ls F ⟨hH, hS, hL, hl, hv.tl.tl⟩ hr) (fun q => hK _ _ _ _ (h.2 q) p e R s m args below meth c H locs cells slots A Z ls F ⟨hH, hS, hL, hl, hv.tl.tl⟩ hr)
  · exact h.elim
theorem s_if_gt {off : Int} {g : Nat} (hd : decode cc pc = .ok (.ifCond .gt off, 3)) (hg : (pc : Int) + off = (g : Int)) : Snd G mts own cc mL rt d sx pc (i_if_gt g (pc + 3)) := by
  intro Q K hK L S M h
  unfold i_if_gt at h
  split at h
  · intro p e R s m args below meth c H locs cells slots A Z ls F I hr
    obtain ⟨hH, hS, hL, hl, hv⟩ := I
    exact lv_if_gt F.1 F.2.1 hd hg (fun q => hK _ _ _ _ (h.1 q) p e R s m args below meth c H locs cells slots A Z ls F ⟨hH, hS, hL, hl, hv.tl⟩ hr) (fun q => hK _ _ _ _ (h.2 q) p e R s m args below meth c H locs cells slots A Z ls F ⟨hH, hS, hL, hl, hv.tl⟩ hr)
  · exact h.elim
theorem s_ic_gt {off : Int} {g : Nat} (hd : decode cc pc = .ok (.if_icmp .gt off, 3)) (hg : (pc : Int) + off = (g : Int)) : Snd G mts own cc mL rt d sx pc (i_ic_gt g (pc + 3)) := by
  intro Q K hK L S M h
  unfold i_ic_gt at h
  split at h
  · intro p e R s m args below meth c H locs cells slots A Z ls F I hr
    obtain ⟨hH, hS, hL, hl, hv⟩ := I
    exact lv_icmp_gt F.1 F.2.1 hd hg (fun q => hK _ _ _ _ (h.1 q) p e R s m args below meth c H locs cells slots A Z ls F ⟨hH, hS, hL, hl, hv.tl.tl⟩ hr) (fun q => hK _ _ _ _ (h.2 q) p e R s m args below meth c H locs cells slots A Z ls F ⟨hH, hS, hL, hl, hv.tl.tl⟩ hr)
  · exact h.elim
theorem s_if_le {off : Int} {g : Nat} (hd : decode cc pc = .ok (.ifCond .le off, 3)) (hg : (pc : Int) + off = (g : Int)) : Snd G mts own cc mL rt d sx pc (i_if_le g (pc + 3)) := by
  intro Q K hK L S M h
  unfold i_if_le at h
  split at h
  · intro p e R s m args below meth c H locs cells slots A Z ls F I hr
    obtain ⟨hH, hS, hL, hl, hv⟩ := I
    exact lv_if_le F.1 F.2.1 hd hg (fun q => hK _ _ _ _ (h.1 q) p e R s m args below meth c H locs cells slots A Z ls F ⟨hH, hS, hL, hl, hv.tl⟩ hr) (fun q => hK _ _ _ _ (h.2 q) p e R s m args below meth c H locs cells slots A Z ls F ⟨hH, hS, hL, hl, hv.tl⟩ hr)
  · exact h.elim
theorem s_ic_le {off : Int} {g : Nat} (hd : decode cc pc = .ok (.if_icmp .le off, 3)) (hg : (pc : Int) + off = (g : Int)) : Snd G mts own cc mL rt d sx pc (i_ic_le g (pc + 3)) := by
  intro Q K hK L S M h
  unfold i_ic_le at h
  split at h
  · intro p e R s m args below meth c H locs cells slots A Z ls F I hr
    obtain ⟨hH, hS, hL, hl, hv⟩ := I
    exact lv_icmp_le F.1 F.2.1 hd hg (fun q => hK _ _ _ _ (h.1 q) p e R s m args below meth c H locs cells slots A Z ls F ⟨hH, hS, hL, hl, hv.tl.tl⟩ hr) (fun q => hK _ _ _ _ (h.2 q) p e R s m args below meth c H locs cells slots A Z ls F ⟨hH, hS, hL, hl, hv.tl.tl⟩ hr)
  · exact h.elim
theorem s_go {off : Int} {g : Nat} (hd : decode cc pc = .ok (.goto off, 3)) (hg : (pc : Int) + off = (g : Int)) : Snd G mts own cc mL rt d sx pc (i_go g) := by
  intro Q K hK L S M h
  intro p e R s m args below meth c H locs cells slots A Z ls F I hr
  exact lv_goto F.1 F.2.1 hd hg (hK _ _ _ _ h p e R s m args below meth c H locs cells slots A Z ls F I hr)
end RULES

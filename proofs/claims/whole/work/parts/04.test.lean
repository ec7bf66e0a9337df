def soon (M : AM) (t : Nat) (a b : Int32) : Prop := M.1 3 t a.toNatClampNeg < M.1 3 t b.toNatClampNeg ∨ (M.1 3 t a.toNatClampNeg = M.1 3 t b.toNatClampNeg ∧ a < b)
theorem c_X2_isSooner {C : Nat → CP} (hC : Cl1 C n_X2_isSooner tb_X2_isSooner) {d t : Nat} {M : AM} {a b : Int32} {Q : RP} (ha : vp_in a (rm t)) (hb : vp_in b (rm t))
    (h1 : soon M t a b → Q (some (vi 1)) M) (h0 : ¬ soon M t a b → Q (some (vi 0)) M) : C (d + 1) n_X2_isSooner [vr 1 t, vi a, vi b] M Q := by
  refine hC d _ M Q (fun P go => ?_)
  refine go [] 50 _ _ _ _ ⟨ha, hb, fun c1 => ?_, fun c1 => ⟨ha, hb, fun c2 => ?_, fun c2 => ⟨fun c3 => ?_, fun c3 => ?_⟩⟩⟩
  · exact ⟨rfl, h1 (Or.inl c1)⟩
  · exact ⟨rfl, h0 (fun h => h.elim c1 (fun h => c2 h.1))⟩
  · exact ⟨rfl, h0 (fun h => h.elim c1 (fun h => by have := h.2; rw [Int32.lt_iff_toInt_lt] at this; rw [Int32.le_iff_toInt_le] at c3; omega))⟩
  · exact ⟨rfl, h1 (Or.inr ⟨c2, by rw [Int32.lt_iff_toInt_lt]; rw [Int32.le_iff_toInt_le] at c3; omega⟩)⟩

/-! THE LAW'S START: what the tables say of the classes -/
section KN
variable {s : State} {args : Array Value}
theorem ac_int (h : (Cond.arrayClass .int).before args s = true) : ∃ cI : ClassId, s.vm.findClass "[I" = some cI := by
  obtain ⟨c, k, comp, h1, -⟩ := Cond.arrayClass_spec h
  exact ⟨c, h1⟩
theorem ac_bool (h : (Cond.arrayClass .boolean).before args s = true) : ∃ cB : ClassId, s.vm.findClass "[Z" = some cB := by
  obtain ⟨c, k, comp, h1, -⟩ := Cond.arrayClass_spec h
  exact ⟨c, h1⟩
theorem kn_all (htw : ∀ w ∈ tW, w.before args s = true) : ∃ D : va_G, va_K D vwCl [] s := by
  obtain ⟨c0, i0, k0⟩ := u_known (C := RX0) (T := TX0) (N := 1) (n := 1) htw in_X0 (htw _ w_120)
  obtain ⟨c1, i1, k1⟩ := u_known (C := RX2) (T := TX2) (N := 15) (n := 15) htw in_X2 (htw _ w_66)
  obtain ⟨c2, i2, k2⟩ := u_known (C := RX3) (T := TX3) (N := 3) (n := 3) htw in_X3 (htw _ w_177)
  obtain ⟨c3, i3, k3⟩ := u_known (C := RX4) (T := TX4) (N := 1) (n := 1) htw in_X4 (htw _ w_166)
  obtain ⟨c4, i4, k4⟩ := u_known (C := RX5) (T := TX5) (N := 8) (n := 8) htw in_X5 (htw _ w_133)
  obtain ⟨c5, i5, k5⟩ := u_known (C := RX6) (T := TX6) (N := 5) (n := 5) htw in_X6 (htw _ w_58)
  obtain ⟨c6, i6, k6⟩ := u_known (C := RX7) (T := TX7) (N := 25) (n := 25) htw in_X7 (htw _ w_628)
  refine ⟨(fun k => [c0, c1, c2, c3, c4, c5, c6].getD k c0, fun k => [i0, i1, i2, i3, i4, i5, i6].getD k i0), fun k q hq => ?_, fun k q h => by simp at h⟩
  match k, hq with
  | 0, hq => cases hq; exact k0
  | 1, hq => cases hq; exact k1
  | 2, hq => cases hq; exact k2
  | 3, hq => cases hq; exact k3
  | 4, hq => cases hq; exact k4
  | 5, hq => cases hq; exact k5
  | 6, hq => cases hq; exact k6
  | k + 7, hq => simp at hq
end KN

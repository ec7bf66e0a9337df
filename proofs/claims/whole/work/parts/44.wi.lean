/-! THE WORLD STAYS IN ITS BOUNDS, and each side's calls leave the other's cells -/
section WIS
variable {k : Nat} {W : WS} {M M' : AM}
theorem MW_FC (h : MW W M) (hF : FC M M') : MW W M' := by
  obtain ⟨c1, c2, c3, ⟨n1, n2, n3⟩, c5⟩ := h
  have e : ∀ a u i, 21 ≤ a → M'.1 a u i = M.1 a u i := hF
  refine ⟨MD_um c1 (fun i _ => e 21 0 i (by omega)) (fun a i _ _ => e a 0 i (by omega)), by rw [e 21 0 0 (by omega)]; exact c2, fun j hj => by rw [e 28 0 j (by omega)]; exact c3 j hj, ⟨by rw [e 21 0 13 (by omega)]; exact n1, by rw [e 21 0 14 (by omega)]; exact n2, fun i hi => by rw [e 29 0 i (by omega), e 30 0 i (by omega), e 31 0 i (by omega)]; exact n3 i hi⟩, fun i hi => ?_⟩
  have e33 : ∀ x, M'.1 33 0 x = M.1 33 0 x := fun x => e 33 0 x (by omega)
  have := c5 i hi
  unfold IW at this ⊢
  simp only [e33, e 34 0 i (by omega)]
  exact this
theorem CW_FN (h : CW W M) (hF : FN M M') : CW W M' := by
  obtain ⟨c1, c2, ⟨n1, n2, n3⟩, c4, c5⟩ := h
  have e : ∀ a u i, a < 21 → M'.1 a u i = M.1 a u i := hF
  have hCR : ∀ t A, CR t A M → CR t A M' := fun t A hR => hR.fr (fun i _ _ => e 1 t i (by omega)) (fun a i _ _ => e a t i (by omega))
  refine ⟨hCR 0 _ c1, fun j hj => by rw [e 12 0 j (by omega)]; exact c2 j hj, ⟨by rw [e 13 0 5 (by omega)]; exact n1, by rw [e 13 0 6 (by omega)]; exact n2, fun i hi => by rw [e 14 0 i (by omega), e 15 0 i (by omega), e 16 0 i (by omega)]; exact n3 i hi⟩, fun i hi => ?_, by rw [e 1 3 0 (by omega)]; exact c5⟩
  obtain ⟨i1, i2, i3⟩ := c4 i hi
  refine ⟨by rw [e 20 i 2 (by omega)]; exact i1, by rw [e 1 (i + 1) 0 (by omega)]; exact i2, fun hk' => ?_⟩
  obtain ⟨g1, g2⟩ := i3 hk'
  exact ⟨hCR (i + 1) _ g1, fun j hj => by rw [e 12 (i + 1) j (by omega)]; exact g2 j hj⟩
theorem wi_mono (h : WI k W) : WI (k + 1) W := by
  obtain ⟨a, b, c, d⟩ := h
  exact ⟨a, by omega, c, fun i hi hk' => ⟨(d i hi hk').1, by have := (d i hi hk').2; omega⟩⟩
theorem wi_A (h : WI k W) {A : AH} (hI : Inv A) (hl : lk A ≤ lk W.1 + 4000) : WI (k + 1) (wA W A) := by
  obtain ⟨a, b, c, d⟩ := h
  exact ⟨hI, by show lk A ≤ _; omega, c, fun i hi hk' => ⟨(d i hi hk').1, by have := (d i hi hk').2; show lk (W.2.2.2 i).2.1 ≤ _; omega⟩⟩
theorem wi_put (h : WI k W) (a b : Int32) : WI (k + 1) (p_put W a b).2 := by
  unfold p_put
  cases e1 : btw a 0 1 with
  | false => exact wi_mono h
  | true =>
    cases e2 : btw b (-9999) 9999 with
    | false => exact wi_mono h
    | true =>
      cases e3 : decide (hn W.1 < 40) with
      | false => exact wi_mono h
      | true => exact wi_A h (inv_add h.1 (of_decide_eq_true e3) (btw_key e2) (btw01 e1)) (Nat.le_add_right _ _)
theorem wi_lower (h : WI k W) (x y : Int32) : WI (k + 1) (p_lower W x y).2 := by
  unfold p_lower
  cases e1 : hasJ W.1 x with
  | false => exact wi_mono h
  | true =>
    cases e2 : btw y (-9999) 9999 with
    | false => exact wi_mono h
    | true =>
      cases e3 : (hs W.1 (jx x) && decide (y < hk W.1 (jx x))) with
      | false => exact wi_mono h
      | true =>
        have := lowA_inv h.1 (j := jx x) (btw_key e2)
        have h40 := h.1.2.2.2.2.2.2.1
        exact wi_A h this.1 (by omega)
theorem wi_take (h : WI k W) : WI (k + 1) (p_take W).2 := by
  unfold p_take
  cases soonA W.1 with
  | none => exact wi_mono h
  | some j =>
    have := takeA_inv h.1 j
    have h40 := h.1.2.2.2.2.2.2.1
    exact wi_A h this.1 (by omega)
theorem wi_drop (h : WI k W) (x : Int32) : WI (k + 1) (p_drop W x).2 := by
  unfold p_drop
  cases hasJ W.1 x with
  | false => exact wi_mono h
  | true =>
    cases hs W.1 (jx x) with
    | false => exact wi_mono h
    | true =>
      have := takeA_inv h.1 (jx x)
      have h40 := h.1.2.2.2.2.2.2.1
      exact wi_A h this.1 (by omega)
theorem wi_join (h : WI k W) : WI (k + 1) (p_join W).2 := by
  have := joi_inv (hn W.1) h.1
  have h40 := h.1.2.2.2.2.2.2.1
  exact wi_A h (A := joinA W.1) this.1 (by have h7 := this.2.2.2.2.2.2.1; show lk (joi (hn W.1) W.1) ≤ _; omega)
theorem wi_clear (h : WI k W) : WI (k + 1) (p_clear W).2 := by
  have := wi_A h inv_emp (Nat.zero_le _)
  exact ⟨this.1, this.2.1, this.2.2.1, this.2.2.2⟩
theorem wi_drift (h : WI k W) (n s : Int32) : WI (k + 1) (p_drift W n s).2 := by
  unfold p_drift
  cases e1 : btw n 1 40 with
  | false => exact wi_mono h
  | true =>
    cases btw s 1 999999 with
    | false => exact wi_mono h
    | true =>
      obtain ⟨hn1, hn2, hn3⟩ := btw_nat (lo := 1) (hi := 40) (by omega) (by omega) e1
      have := lotsN_inv (jx n) (s := (W.1, jx s)) h.1
      have h2 : lk (lotsN (jx n) (W.1, jx s)).1 ≤ lk W.1 + 80 * jx n := this.2
      exact wi_A h this.1 (by omega)
theorem wi_sit (h : WI k W) (b p x : Int32) : WI (k + 1) (p_sit W b p x).2 := by
  have hm := wi_mono h
  unfold p_sit
  cases btw b 0 1 && hasJ W.1 x with
  | false => exact hm
  | true =>
    cases hs W.1 (jx x) with
    | true => exact hm
    | false =>
      cases btw p 0 7 with
      | false => exact hm
      | true =>
        cases decide (b = 1) && decide (hd W.1 (jx x) = 0) with
        | true => exact hm
        | false => exact ⟨hm.1, hm.2.1, hm.2.2.1, hm.2.2.2⟩
theorem wi_net (h : WI k W) (n : Int32) : WI (k + 1) (p_net W n).2 := by
  have hm := wi_mono h
  unfold p_net
  cases e1 : btw n 2 8 with
  | false => exact hm
  | true =>
    obtain ⟨hn1, hn2, hn3⟩ := btw_nat (lo := 2) (hi := 8) (by omega) (by omega) e1
    exact ⟨hm.1, hm.2.1, ⟨hn3, Nat.zero_le _, fun i hi => absurd hi (Nat.not_lt_zero i)⟩, hm.2.2.2⟩
theorem wi_road (h : WI k W) (a b w : Int32) : WI (k + 1) (p_road W a b w).2 := by
  have hm := wi_mono h
  have hT := h.2.2.1
  unfold p_road
  cases e1 : hasP W.2.2.1 a with
  | false => exact hm
  | true =>
    cases e2 : hasP W.2.2.1 b with
    | false => exact hm
    | true =>
      by_cases e3 : a = b
      · rw [decide_eq_true e3]; exact hm
      · rw [decide_eq_false e3]
        cases e4 : btw w 0 9999 with
        | false => exact hm
        | true =>
          cases e5 : decide (W.2.2.1.2.1 < 14) with
          | false => exact hm
          | true =>
            obtain ⟨a1, a2⟩ := hasP_ok hT e1
            obtain ⟨b1, b2'⟩ := hasP_ok hT e2
            have e6 := of_decide_eq_true e5
            have hw := e4
            unfold btw at hw
            rw [Bool.and_eq_true, decide_eq_true_eq, decide_eq_true_eq, Int32.le_iff_toInt_le, Int32.le_iff_toInt_le] at hw
            have z0 : (0 : Int32).toInt = 0 := by decide
            have z9 : (9999 : Int32).toInt = 9999 := by decide
            refine ⟨hm.1, hm.2.1, ⟨hT.1, by show W.2.2.1.2.1 + 1 ≤ 14; omega, fun i hi => ?_⟩, hm.2.2.2⟩
            replace hi : i < W.2.2.1.2.1 + 1 := hi
            show va_up W.2.2.1.2.2.1 W.2.2.1.2.1 (jx a) i < W.2.2.1.1 ∧ va_up W.2.2.1.2.2.2.1 W.2.2.1.2.1 (jx b) i < W.2.2.1.1 ∧ va_up W.2.2.1.2.2.1 W.2.2.1.2.1 (jx a) i ≠ va_up W.2.2.1.2.2.2.1 W.2.2.1.2.1 (jx b) i ∧ 0 ≤ (va_up W.2.2.1.2.2.2.2 W.2.2.1.2.1 w i).toInt ∧ (va_up W.2.2.1.2.2.2.2 W.2.2.1.2.1 w i).toInt ≤ 9999
            by_cases q : i = W.2.2.1.2.1
            · rw [q, up_s, up_s, up_s]
              exact ⟨a2, b2', fun z => e3 (by rw [a1, b1, z]), by omega, by omega⟩
            · rw [up_n q, up_n q, up_n q]
              exact hT.2.2 i (by omega)
theorem wi_keep (h : WI k W) (i : Int32) : WI (k + 1) (p_keep W i).2 := by
  have hm := wi_mono h
  unfold p_keep
  cases btw i 0 1 with
  | false => exact hm
  | true =>
    refine ⟨hm.1, hm.2.1, hm.2.2.1, fun x hx hk' => ?_⟩
    replace hk' : (va_up W.2.2.2 (jx i) (true, W.1, W.2.1) x).1 = true := hk'
    show Inv (va_up W.2.2.2 (jx i) (true, W.1, W.2.1) x).2.1 ∧ lk (va_up W.2.2.2 (jx i) (true, W.1, W.2.1) x).2.1 ≤ _
    by_cases q : x = jx i
    · rw [q, up_s]; exact ⟨hm.1, hm.2.1⟩
    · rw [up_n q] at hk' ⊢; exact hm.2.2.2 x hx hk'
theorem wi_back (h : WI k W) (i : Int32) : WI (k + 1) (p_back W i).2 := by
  have hm := wi_mono h
  unfold p_back
  cases e1 : btw i 0 1 with
  | false => exact hm
  | true =>
    obtain ⟨hb1, -, hb2⟩ := btw_nat (lo := 0) (hi := 1) (by omega) (by omega) e1
    cases e2 : (W.2.2.2 (jx i)).1 with
    | false => exact hm
    | true =>
      have := hm.2.2.2 (jx i) (by omega) e2
      exact ⟨this.1, this.2, hm.2.2.1, hm.2.2.2⟩
end WIS

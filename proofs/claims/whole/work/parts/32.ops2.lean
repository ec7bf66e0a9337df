section XOPS2
variable {C : Nat → CP} {d k : Nat} {W : WS} {M : AM} {Q : RP}
theorem ix8 (b p : Nat) : nI b * 8 + nI p = nI (8 * b + p) := by
  rw [show (8 : Int32) = nI 8 from rfl, pk_mul, nI_add, Nat.mul_comm]
set_option maxRecDepth 20000 in
theorem c_sitter (hC : ClA C) {t b p : Nat} (hb : b < 2) (hp1 : p < 8) {v : Int32} (e : M.1 12 t (8 * b + p) = v) (h : Q (some (vi v)) M) : C (d + 1) n_X0_sitter [vr 11 t, vi (nI b), vi (nI p)] M Q := by
  refine hC.X0_sitter d _ M Q (fun P go => ?_)
  have key : ∀ x : Int32, x = nI (8 * b + p) → vp_in x 16 ∧ Q (some (vi (M.1 12 t x.toNatClampNeg))) M := by
    intro x hx
    subst hx
    rw [nI_clamp (by omega), e]
    exact ⟨vp_in_nI (by omega) (by omega), h⟩
  exact go [] 99 _ _ _ _ (key _ (ix8 b p))
set_option maxRecDepth 20000 in
theorem c_seat (hC : ClA C) {t b p : Nat} (hb : b < 2) (hp1 : p < 8) {x : Int32} (h : ∀ M', (∀ a u i, a ≠ 12 ∨ u ≠ t → M'.1 a u i = M.1 a u i) → M'.2 = M.2 → (∀ j, j < 16 → M'.1 12 t j = p_seat (M.1 12 t) (8 * b + p) x j) → Q (some (vi (M.1 12 t (8 * b + p)))) M') : C (d + 2) n_X0_seat [vr 11 t, vi (nI b), vi (nI p), vi x] M Q := by
  refine hC.X0_seat (d + 1) _ M Q (fun P go => ?_)
  have loop : ∀ f y (M1 : AM), y + f = 16 → (∀ a u i, a ≠ 12 ∨ u ≠ t → M1.1 a u i = M.1 a u i) → M1.2 = M.2 → (∀ j, M1.1 12 t j = if j < y ∧ M.1 12 t j = x then -1 else M.1 12 t j) → P 11 [some (vr 11 t), some (vi (nI b)), some (vi (nI p)), some (vi x), some (vi (M.1 12 t (8 * b + p))), some (vi (nI y))] [] M1 := by
    intro f
    induction f with
    | zero =>
      intro y M1 hy h1 h2 h3
      have ey : y = 16 := by omega
      subst ey
      have key : ∀ v : Int32, v = nI (8 * b + p) → vp_in v 16 ∧ Q (some (vi (M.1 12 t (8 * b + p)))) (um M1 12 t v.toNatClampNeg x) := by
        intro v hv
        subst hv
        rw [nI_clamp (by omega)]
        refine ⟨vp_in_nI (by omega) (by omega), h _ (fun a u i q => by rw [um_at, if_neg (by omega)]; exact h1 a u i q) h2 (fun j hj => ?_)⟩
        rw [um_at]
        unfold p_seat
        by_cases e : j = 8 * b + p
        · rw [if_pos ⟨rfl, rfl, e⟩, if_pos e]
        · rw [if_neg (by omega), if_neg e, h3]
          by_cases e2 : M.1 12 t j = x
          · rw [if_pos ⟨hj, e2⟩, if_pos e2]
          · rw [if_neg (fun q => e2 q.2), if_neg e2]
      exact go [] 99 _ _ _ _ ⟨fun _ => key _ (ix8 b p), fun c => absurd (nI_le (a := 16) (b := 16) (Nat.le_refl _) (by omega)) c⟩
    | succ f ih =>
      intro y M1 hy h1 h2 h3
      have hy16 : y < 16 := by omega
      have cy : (nI y).toNatClampNeg = y := nI_clamp (by omega)
      have iy : vp_in (nI y) 16 := vp_in_nI hy16 (by omega)
      have ey : M1.1 12 t (nI y).toNatClampNeg = M.1 12 t y := by rw [cy, h3, if_neg (by omega)]
      have nx : ∀ M2 : AM, (∀ a u i, a ≠ 12 ∨ u ≠ t → M2.1 a u i = M.1 a u i) → M2.2 = M.2 → (∀ j, M2.1 12 t j = if j < y + 1 ∧ M.1 12 t j = x then -1 else M.1 12 t j) → P 11 [some (vr 11 t), some (vi (nI b)), some (vi (nI p)), some (vi x), some (vi (M.1 12 t (8 * b + p))), some (vi (nI y + 1))] [] M2 := by
        intro M2 g1 g2 g3
        have := ih (y + 1) M2 (by omega) g1 g2 g3
        rw [← nI_1] at this
        exact this
      refine go [(11, 6)] 99 _ _ _ _ ⟨fun c => absurd c (nI_ge (b := 16) hy16 (by omega)), fun _ => ⟨iy, fun c => ?_, fun c => ⟨iy, ?_⟩⟩⟩ <;> rw [ey] at c
      · refine nx M1 h1 h2 (fun j => ?_)
        rw [h3]
        by_cases e : j = y
        · subst e
          rw [if_neg (fun q => c q.2), if_neg (fun q => c q.2)]
        · by_cases e2 : j < y
          · simp [e2, show j < y + 1 by omega]
          · simp [e2, show ¬ j < y + 1 by omega]
      · rw [cy]
        refine nx _ (fun a u i q => by rw [um_at, if_neg (by omega)]; exact h1 a u i q) h2 (fun j => ?_)
        rw [um_at]
        by_cases e : j = y
        · subst e
          rw [if_pos ⟨rfl, rfl, rfl⟩, if_pos ⟨by omega, c⟩]
        · rw [if_neg (by omega), h3]
          by_cases e2 : j < y
          · simp [e2, show j < y + 1 by omega]
          · simp [e2, show ¬ j < y + 1 by omega]
  refine go [(11, 6)] 99 _ _ _ _ ?_
  refine c_sitter hC hb hp1 rfl ?_
  exact loop 16 0 M (by omega) (fun _ _ _ _ => rfl) rfl (fun j => by rw [if_neg (by omega)])
/-- a change of the main bench's row alone -/
theorem CW_bench {W : WS} {M M' : AM} {f : Nat → Int32} (h : CW W M) (hf : ∀ j, j < 16 → M'.1 12 0 j = f j) (e : ∀ a u i, a ≠ 12 ∨ u ≠ 0 → M'.1 a u i = M.1 a u i) : CW (W.1, f, W.2.2) M' ∧ FC M M' := by
  obtain ⟨c1, c2, ⟨n1, n2, n3⟩, c4, c5⟩ := h
  refine ⟨⟨c1.fr (fun i _ _ => e 1 0 i (by omega)) (fun a i _ _ => e a 0 i (by omega)), hf, ⟨by rw [e 13 0 5 (by omega)]; exact n1, by rw [e 13 0 6 (by omega)]; exact n2, fun i hi => by rw [e 14 0 i (by omega), e 15 0 i (by omega), e 16 0 i (by omega)]; exact n3 i hi⟩, fun i hi => ?_, by rw [e 1 3 0 (by omega)]; exact c5⟩, fun a u i ha => e a u i (by omega)⟩
  obtain ⟨i1, i2, i3⟩ := c4 i hi
  refine ⟨by rw [e 20 i 2 (by omega)]; exact i1, by rw [e 1 (i + 1) 0 (by omega)]; exact i2, fun hk' => ?_⟩
  obtain ⟨g1, g2⟩ := i3 hk'
  exact ⟨g1.fr (fun i' _ _ => e 1 (i + 1) i' (by omega)) (fun a i' _ _ => e a (i + 1) i' (by omega)), fun j hj => by rw [e 12 (i + 1) j (by omega)]; exact g2 j hj⟩
theorem seat_congr {f g : Nat → Int32} {i j : Nat} {x : Int32} (h : f j = g j) : p_seat f i x j = p_seat g i x j := by unfold p_seat; rw [h]
set_option maxRecDepth 20000 in
theorem c_sit (hC : ClA C) (hW : CW W M) (hI : WI k W) {b p x : Int32} (h : ∀ M', CW (p_sit W b p x).2 M' → FC M M' → Q (some (vi (p_sit W b p x).1)) M') : C (d + 3) n_X6_sit [vr 0 0, vi b, vi p, vi x] M Q := by
  have hs0 := CW_same hW
  refine hC.X6_sit (d + 2) _ M Q (fun P go => ?_)
  refine go [(50, 4), (70, 4)] 99 _ _ _ _ ?_
  unfold p_sit at h
  refine c_between hC ⟨fun c => ?_, fun c => ?_⟩
  · rw [b2_0 c, Bool.false_and] at h
    exact h M hs0.1 hs0.2
  · have eb := b2_n0 c
    rw [eb, Bool.true_and] at h
    obtain ⟨hb1, -, hb2⟩ := btw_nat (lo := 0) (hi := 1) (by omega) (by omega) eb
    refine c_has hC hW.1 ⟨fun c => ?_, fun c => ?_⟩
    · have e1 := b2_n0 c
      rw [e1] at h
      obtain ⟨hx, hj⟩ := hasJ_ok hI.1 e1
      have hx' := hx
      generalize hje : jx x = j at hx hj h
      rw [hx]
      refine c_isStanding hC hW.1 hj ⟨fun c3 => ?_, fun c3 => ?_⟩
      · rw [b2_0 c3] at h
        refine c_between hC ⟨fun c4 => ?_, fun c4 => ?_⟩
        · have ep := b2_n0 c4
          rw [ep] at h
          obtain ⟨hp1, -, hp2⟩ := btw_nat (lo := 0) (hi := 7) (by omega) (by omega) ep
          have tail : (decide (b = 1) && decide (hd W.1 j = 0)) = false → P 70 [some (vr 0 0), some (vi b), some (vi p), some (vi (nI j))] [] M := by
            intro hf
            rw [hf] at h
            replace h : ∀ M', CW (W.1, p_seat W.2.1 (8 * jx b + jx p) x, W.2.2) M' → FC M M' → Q (some (vi (W.2.1 (8 * jx b + jx p)))) M' := h
            generalize jx b = bb at hb1 hb2 h
            generalize jx p = pp at hp1 hp2 h
            subst hb1
            subst hp1
            subst hx
            have e16 : 8 * bb + pp < 16 := by omega
            refine go [] 99 _ _ _ _ ?_
            refine c_seat hC (t := 0) (by omega) (by omega) (fun M' g1 g2 g3 => ?_)
            have := CW_bench hW (f := p_seat W.2.1 (8 * bb + pp) (nI j)) (fun i hi => by rw [g3 i hi]; exact seat_congr (hW.2.1 i hi)) g1
            rw [hW.2.1 _ e16]
            exact h M' this.1 this.2
          refine go [(70, 4)] 99 _ _ _ _ ⟨fun c5 => ?_, fun c5 => ?_⟩
          · exact tail (by rw [decide_eq_false c5, Bool.false_and])
          · refine c_kindOf hC hW.1 hj ⟨fun c6 => ?_, fun c6 => ?_⟩
            · exact tail (by
                rw [c6, decide_eq_false (show ¬ (1 : Int32) = 0 by decide), Bool.and_false])
            · have ek : hd W.1 j = 0 := ((hI.1.2.2.2.2.2.2.2 j hj).2).resolve_right c6
              rw [decide_eq_true c5, decide_eq_true ek] at h
              exact h M hs0.1 hs0.2
        · rw [b2_0 c4] at h
          exact h M hs0.1 hs0.2
      · rw [b2_n0 c3] at h
        exact h M hs0.1 hs0.2
    · rw [b2_0 c] at h
      exact h M hs0.1 hs0.2
set_option maxRecDepth 20000 in
theorem c_sits (hC : ClA C) (hW : CW W M) {b p : Int32} (h : Q (some (vi (p_sits W b p))) M) : C (d + 2) n_X6_sits [vr 0 0, vi b, vi p] M Q := by
  refine hC.X6_sits (d + 1) _ M Q (fun P go => ?_)
  refine go [] 99 _ _ _ _ ?_
  unfold p_sits at h
  refine c_between hC ⟨fun c => ?_, fun c => ?_⟩
  · have eb := b2_n0 c
    rw [eb] at h
    obtain ⟨hb1, -, hb2⟩ := btw_nat (lo := 0) (hi := 1) (by omega) (by omega) eb
    refine c_between hC ⟨fun c => ?_, fun c => ?_⟩
    · have ep := b2_n0 c
      rw [ep] at h
      obtain ⟨hp1, -, hp2⟩ := btw_nat (lo := 0) (hi := 7) (by omega) (by omega) ep
      replace h : Q (some (vi (W.2.1 (8 * jx b + jx p)))) M := h
      generalize jx b = bb at hb1 hb2 h
      generalize jx p = pp at hp1 hp2 h
      subst hb1
      subst hp1
      exact c_sitter hC (t := 0) (by omega) (by omega) (hW.2.1 _ (by omega)) h
    · rw [b2_0 c] at h
      exact h
  · rw [b2_0 c] at h
    exact h
/-- a change of the net's cells alone -/
theorem CW_net {W : WS} {M M' : AM} {T : NT} (h : CW W M) (hT : NC T M') (e : ∀ a u i, a ≠ 13 ∧ a ≠ 14 ∧ a ≠ 15 ∧ a ≠ 16 ∧ a ≠ 17 → M'.1 a u i = M.1 a u i) : CW (W.1, W.2.1, T, W.2.2.2) M' ∧ FC M M' := by
  obtain ⟨c1, c2, -, c4, c5⟩ := h
  refine ⟨⟨c1.fr (fun i _ _ => e 1 0 i (by omega)) (fun a i _ _ => e a 0 i (by omega)), fun j hj => by rw [e 12 0 j (by omega)]; exact c2 j hj, hT, fun i hi => ?_, by rw [e 1 3 0 (by omega)]; exact c5⟩, fun a u i ha => e a u i (by omega)⟩
  obtain ⟨i1, i2, i3⟩ := c4 i hi
  refine ⟨by rw [e 20 i 2 (by omega)]; exact i1, by rw [e 1 (i + 1) 0 (by omega)]; exact i2, fun hk' => ?_⟩
  obtain ⟨g1, g2⟩ := i3 hk'
  exact ⟨g1.fr (fun i' _ _ => e 1 (i + 1) i' (by omega)) (fun a i' _ _ => e a (i + 1) i' (by omega)), fun j hj => by rw [e 12 (i + 1) j (by omega)]; exact g2 j hj⟩
set_option maxRecDepth 20000 in
theorem c_net (hC : ClA C) (hW : CW W M) {n : Int32} (h : ∀ M', CW (p_net W n).2 M' → FC M M' → Q (some (vi (p_net W n).1)) M') : C (d + 2) n_X6_net [vr 0 0, vi n] M Q := by
  have hs0 := CW_same hW
  refine hC.X6_net (d + 1) _ M Q (fun P go => ?_)
  refine go [] 99 _ _ _ _ ?_
  unfold p_net at h
  refine c_between hC ⟨fun c => ?_, fun c => ?_⟩
  · have eb := b2_n0 c
    rw [eb] at h
    obtain ⟨hb1, -, hb2⟩ := btw_nat (lo := 2) (hi := 8) (by omega) (by omega) eb
    replace h : ∀ M', CW (W.1, W.2.1, (jx n, 0, W.2.2.1.2.2), W.2.2.2) M' → FC M M' → Q (some (vi (nI W.2.2.1.2.1))) M' := h
    generalize jx n = nn at hb1 hb2 h
    subst hb1
    refine c_rcount hC hW.2.2.1.2.1 ?_
    refine hC.X5_layOut _ _ M _ (fun P2 go2 => ?_)
    refine go2 [] 99 _ _ _ _ ?_
    have := CW_net hW (M' := um (um M 13 0 5 (nI nn)) 13 0 6 0) (T := (nn, 0, W.2.2.1.2.2)) ⟨by simp [um_at], by simp [um_at]; rfl, fun i hi => absurd hi (Nat.not_lt_zero i)⟩ (fun a u i q => by rw [um_at, if_neg (by omega), um_at, if_neg (by omega)])
    exact h _ this.1 this.2
  · rw [b2_0 c] at h
    exact h M hs0.1 hs0.2
set_option maxRecDepth 20000 in
theorem c_hasPlace (hC : ClA C) {T : NT} (hT : NC T M) {x : Int32} (h : Q (some (vi (b2 (hasP T x)))) M) : C (d + 1) n_X5_hasPlace [vr 13 0, vi x] M Q := by
  have e10 := hT.1
  refine hC.X5_hasPlace d _ M Q (fun P go => ?_)
  unfold hasP at h
  refine go [] 99 _ _ _ _ ⟨fun c => ?_, fun c => ⟨fun c2 => ?_, fun c2 => ?_⟩⟩
  · rw [decide_eq_false (show ¬ ¬ x < 0 from fun q => q c), Bool.false_and] at h
    exact ⟨rfl, h⟩
  · rw [e10] at c2
    rw [decide_eq_false (show ¬ ¬ nI T.1 ≤ x from fun q => q c2), Bool.and_false] at h
    exact ⟨rfl, h⟩
  · rw [e10] at c2
    rw [decide_eq_true c, decide_eq_true c2] at h
    exact ⟨rfl, h⟩
theorem hasP_ok {T : NT} (hT : NI T) {x : Int32} (h : hasP T x = true) : x = nI (jx x) ∧ jx x < T.1 := by
  unfold hasP at h
  simp only [Bool.and_eq_true, decide_eq_true_eq] at h
  obtain ⟨j, hj, rfl⟩ := nI_of h.1
  have := hT.1
  have hlt : j < T.1 := by
    rcases Nat.lt_or_ge j T.1 with q | q
    · exact q
    · exact absurd (nI_le q hj) h.2
  have e : jx (nI j) = j := nI_clamp hj
  rw [e]
  exact ⟨rfl, hlt⟩
set_option maxRecDepth 20000 in
theorem c_rroom (hC : ClA C) {r : Nat} (e : M.1 13 0 6 = nI r) (hr : r ≤ 14) (h : Q (some (vi (b2 (decide (r < 14))))) M) : C (d + 1) n_X5_hasRoom [vr 13 0] M Q := by
  refine hC.X5_hasRoom d _ M Q (fun P go => ?_)
  refine go [] 99 _ _ _ _ ⟨fun c => ?_, fun c => ?_⟩ <;> rw [e] at c
  · have : ¬ r < 14 := fun q => absurd c (nI_ge (b := 14) q (by omega))
    rw [decide_eq_false this] at h
    exact ⟨rfl, h⟩
  · have : r < 14 := by
      rcases Nat.lt_or_ge r 14 with q | q
      · exact q
      · exact absurd (nI_le (a := 14) q (by omega)) c
    rw [decide_eq_true this] at h
    exact ⟨rfl, h⟩
set_option maxRecDepth 20000 in
theorem c_road (hC : ClA C) (hW : CW W M) (hI : WI k W) {a b w : Int32} (h : ∀ M', CW (p_road W a b w).2 M' → FC M M' → Q (some (vi (p_road W a b w).1)) M') : C (d + 3) n_X6_road [vr 0 0, vi a, vi b, vi w] M Q := by
  have hs0 := CW_same hW
  have hT := hI.2.2.1
  refine hC.X6_road (d + 2) _ M Q (fun P go => ?_)
  refine go [] 99 _ _ _ _ ?_
  unfold p_road at h
  refine c_hasPlace hC hW.2.2.1 ⟨fun c => ?_, fun c => ?_⟩
  · rw [b2_0 c, Bool.false_and] at h
    exact h M hs0.1 hs0.2
  · have ea := b2_n0 c
    rw [ea, Bool.true_and] at h
    refine c_hasPlace hC hW.2.2.1 ⟨fun c => ?_, fun c => ?_⟩
    · rw [b2_0 c, Bool.false_and] at h
      exact h M hs0.1 hs0.2
    · have eb := b2_n0 c
      rw [eb, Bool.true_and] at h
      refine ⟨fun c2 => ?_, fun c2 => ?_⟩
      · rw [decide_eq_false c2] at h
        refine c_between hC ⟨fun c3 => ?_, fun c3 => ?_⟩
        · have ew := b2_n0 c3
          rw [ew] at h
          refine c_rroom hC hW.2.2.1.2.1 hT.2.1 ⟨fun c4 => ?_, fun c4 => ?_⟩
          · have er := b2_n0 c4
            rw [er] at h
            have hr := of_decide_eq_true er
            obtain ⟨ha1, ha2⟩ := hasP_ok hT ea
            obtain ⟨hb1, hb2⟩ := hasP_ok hT eb
            replace h : ∀ M', CW (W.1, W.2.1, (W.2.2.1.1, W.2.2.1.2.1 + 1, va_up W.2.2.1.2.2.1 W.2.2.1.2.1 (jx a), va_up W.2.2.1.2.2.2.1 W.2.2.1.2.1 (jx b), va_up W.2.2.1.2.2.2.2 W.2.2.1.2.1 w), W.2.2.2) M' → FC M M' → Q (some (vi (nI W.2.2.1.2.1))) M' := h
            generalize jx a = aa at ha1 ha2 h
            generalize jx b = bb at hb1 hb2 h
            subst ha1
            subst hb1
            refine hC.X5_add _ _ M _ (fun P2 go2 => ?_)
            refine go2 [] 99 _ _ _ _ ?_
            refine c_rroom hC hW.2.2.1.2.1 hT.2.1 ⟨fun _ => ?_, fun c5 => absurd c5 c4⟩
            obtain ⟨n1, n2, n3⟩ := hW.2.2.1
            have ir : vp_in (M.1 13 0 6) 14 := by rw [n2]; exact vp_in_nI hr (by omega)
            refine ⟨ir, ir, ir, ?_⟩
            have cr : (M.1 13 0 6).toNatClampNeg = W.2.2.1.2.1 := by rw [n2]; exact nI_clamp (by omega)
            rw [cr, n2]
            have hNC : NC (W.2.2.1.1, W.2.2.1.2.1 + 1, va_up W.2.2.1.2.2.1 W.2.2.1.2.1 aa, va_up W.2.2.1.2.2.2.1 W.2.2.1.2.1 bb, va_up W.2.2.1.2.2.2.2 W.2.2.1.2.1 w) (um (um (um (um M 13 0 6 (nI W.2.2.1.2.1 + 1)) 14 0 W.2.2.1.2.1 (nI aa)) 15 0 W.2.2.1.2.1 (nI bb)) 16 0 W.2.2.1.2.1 w) := by
              refine ⟨by simp [um_at]; exact n1, by simp [um_at]; exact nI_1 _, fun i hi => ?_⟩
              have hi : i < W.2.2.1.2.1 + 1 := hi
              show _ = nI (va_up W.2.2.1.2.2.1 W.2.2.1.2.1 aa i) ∧ _ = nI (va_up W.2.2.1.2.2.2.1 W.2.2.1.2.1 bb i) ∧ _ = va_up W.2.2.1.2.2.2.2 W.2.2.1.2.1 w i
              by_cases e : i = W.2.2.1.2.1
              · subst e; rw [up_s, up_s, up_s]; simp [um_at]
              · rw [up_n e, up_n e, up_n e]
                simp [um_at, e]
                exact n3 i (by omega)
            have := CW_net hW hNC (fun a' u i q => by rw [um_at, if_neg (by omega), um_at, if_neg (by omega), um_at, if_neg (by omega), um_at, if_neg (by omega)])
            exact h _ this.1 this.2
          · rw [b2_0 c4] at h
            exact h M hs0.1 hs0.2
        · rw [b2_0 c3] at h
          exact h M hs0.1 hs0.2
      · rw [decide_eq_true c2] at h
        exact h M hs0.1 hs0.2
set_option maxRecDepth 20000 in
theorem c_bcopy (hC : ClA C) {t u : Nat} (h : Q none (fun x y z => if x = 12 ∧ y = t then va_cpy (M.1 12 u) (M.1 12 t) 0 0 16 z else M.1 x y z, M.2)) : C (d + 1) n_X0_copyFrom [vr 11 t, vr 11 u] M Q := by
  refine hC.X0_copyFrom d _ M Q (fun P go => ?_)
  exact go [] 99 _ _ _ _ ⟨rfl, rfl, rfl, h⟩
theorem cpy16 {f g : Nat → Int32} {z : Nat} (h : z < 16) : va_cpy f g 0 0 16 z = f z := by
  unfold va_cpy
  rw [if_pos (by omega), Nat.zero_add, Nat.sub_zero]
set_option maxRecDepth 20000 in
theorem c_keep (hC : ClA C) (hW : CW W M) (hI : WI k W) {i : Int32} (h : ∀ M', CW (p_keep W i).2 M' → FC M M' → Q (some (vi (p_keep W i).1)) M') : C (d + 3) n_X6_keep [vr 0 0, vi i] M Q := by
  have hs0 := CW_same hW
  refine hC.X6_keep (d + 2) _ M Q (fun P go => ?_)
  refine go [] 99 _ _ _ _ ?_
  unfold p_keep at h
  refine c_between hC ⟨fun c => ?_, fun c => ?_⟩
  · have eb := b2_n0 c
    rw [eb] at h
    obtain ⟨hb1, -, hb2⟩ := btw_nat (lo := 0) (hi := 1) (by omega) (by omega) eb
    replace h : ∀ M', CW (W.1, W.2.1, W.2.2.1, va_up W.2.2.2 (jx i) (true, W.1, W.2.1)) M' → FC M M' → Q (some (vi (nI (hn W.1)))) M' := h
    have iin : vp_in i 2 := by rw [hb1]; exact vp_in_nI (by omega) (by omega)
    refine ⟨iin, ?_⟩
    generalize jx i = q at hb1 hb2 h
    have hq2 : q = 0 ∨ q = 1 := by omega
    obtain ⟨c1, c2, ⟨n1, n2, n3⟩, c4, c5⟩ := hW
    have h40 := hI.1.2.2.2.2.2.2.1
    have hrq : rm (q + 1) = 40 := by rcases hq2 with e | e <;> subst e <;> rfl
    refine C_arg (As' := [vr 20 q, vr 1 0, vr 11 0]) (by rw [hb1, nI_clamp (by omega)]) ?_
    refine hC.X3_store _ _ M _ (fun P2 go2 => ?_)
    refine go2 [] 99 _ _ _ _ ?_
    refine c_copyFrom hC (t := q + 1) (u := 0) (by omega) c1 hI.1 (c4 q (by omega)).2.1 (by omega) (fun M1 hR1 hF1 => ?_)
    refine c_bcopy hC ?_
    refine ⟨rfl, ?_⟩
    have e1 : ∀ a u j, (a = 0 ∨ 10 < a ∨ u ≠ q + 1) → M1.1 a u j = M.1 a u j := hF1.1
    have e2 : ∀ a u j, ¬ (a = 12 ∧ u = q + 1) → ¬ (a = 20 ∧ u = q ∧ j = 2) → (um (fun x y z => if x = 12 ∧ y = q + 1 then va_cpy (M1.1 12 0) (M1.1 12 (q + 1)) 0 0 16 z else M1.1 x y z, M1.2) 20 q 2 1).1 a u j = M1.1 a u j := fun a u j h1 h2 => by
      rw [um_at, if_neg h2]
      show (if a = 12 ∧ u = q + 1 then _ else M1.1 a u j) = _
      rw [if_neg h1]
    generalize hM2 : (um (fun x y z => if x = 12 ∧ y = q + 1 then va_cpy (M1.1 12 0) (M1.1 12 (q + 1)) 0 0 16 z else M1.1 x y z, M1.2) 20 q 2 1) = M2 at e2
    have hk20 : M2.1 20 q 2 = 1 := by rw [← hM2, um_at, if_pos ⟨rfl, rfl, rfl⟩]
    have hb12 : ∀ j, j < 16 → M2.1 12 (q + 1) j = W.2.1 j := fun j hj => by
      rw [← hM2, um_at, if_neg (by omega)]
      show (if 12 = 12 ∧ q + 1 = q + 1 then va_cpy (M1.1 12 0) (M1.1 12 (q + 1)) 0 0 16 j else _) = _
      rw [if_pos ⟨rfl, rfl⟩, cpy16 hj, e1 12 0 j (by omega)]
      exact c2 j hj
    have hCR0 : CR 0 W.1 M2 := by
      refine (c1.oth hF1 (by omega)).fr (fun x _ _ => e2 1 0 x (by omega) (by omega)) (fun a x _ _ => e2 a 0 x (by omega) (by omega))
    have hfin : CW (W.1, W.2.1, W.2.2.1, va_up W.2.2.2 q (true, W.1, W.2.1)) M2 := by
      refine ⟨hCR0, fun j hj => ?_, ⟨?_, ?_, fun x hx => ?_⟩, fun x hx => ?_, ?_⟩
      · rw [e2 12 0 j (by omega) (by omega), e1 12 0 j (by omega)]; exact c2 j hj
      · rw [e2 13 0 5 (by omega) (by omega), e1 13 0 5 (by omega)]; exact n1
      · rw [e2 13 0 6 (by omega) (by omega), e1 13 0 6 (by omega)]; exact n2
      · rw [e2 14 0 x (by omega) (by omega), e2 15 0 x (by omega) (by omega), e2 16 0 x (by omega) (by omega), e1 14 0 x (by omega), e1 15 0 x (by omega), e1 16 0 x (by omega)]; exact n3 x hx
      · show IC x (va_up W.2.2.2 q (true, W.1, W.2.1) x) M2
        by_cases ex : x = q
        · subst ex
          rw [up_s]
          refine ⟨hk20, ?_, fun _ => ⟨hR1.fr (fun y _ _ => e2 1 (x + 1) y (by omega) (by omega)) (fun a y _ _ => e2 a (x + 1) y (by omega) (by omega)), hb12⟩⟩
          rw [e2 1 (x + 1) 0 (by omega) (by omega)]
          exact hR1.1
        · rw [up_n ex]
          obtain ⟨i1, i2, i3⟩ := c4 x hx
          refine ⟨by rw [e2 20 x 2 (by omega) (by omega), e1 20 x 2 (by omega)]; exact i1, by rw [e2 1 (x + 1) 0 (by omega) (by omega), e1 1 (x + 1) 0 (by omega)]; exact i2, fun hk' => ?_⟩
          obtain ⟨g1, g2⟩ := i3 hk'
          exact ⟨(g1.oth hF1 (by omega)).fr (fun y _ _ => e2 1 (x + 1) y (by omega) (by omega)) (fun a y _ _ => e2 a (x + 1) y (by omega) (by omega)), fun j hj => by rw [e2 12 (x + 1) j (by omega) (by omega), e1 12 (x + 1) j (by omega)]; exact g2 j hj⟩
      · rw [e2 1 3 0 (by omega) (by omega), e1 1 3 0 (by omega)]; exact c5
    have hfc : FC M M2 := fun a u j ha => by rw [e2 a u j (by omega) (by omega), e1 a u j (by omega)]
    exact c_count hC hCR0 (h M2 hfin hfc)
  · rw [b2_0 c] at h
    exact h M hs0.1 hs0.2
set_option maxRecDepth 20000 in
theorem c_back (hC : ClA C) (hW : CW W M) (hI : WI k W) {i : Int32} (h : ∀ M', CW (p_back W i).2 M' → FC M M' → Q (some (vi (p_back W i).1)) M') : C (d + 3) n_X6_goBack [vr 0 0, vi i] M Q := by
  have hs0 := CW_same hW
  refine hC.X6_goBack (d + 2) _ M Q (fun P go => ?_)
  refine go [] 99 _ _ _ _ ?_
  unfold p_back at h
  refine c_between hC ⟨fun c => ?_, fun c => ?_⟩
  · have eb := b2_n0 c
    rw [eb] at h
    obtain ⟨hb1, -, hb2⟩ := btw_nat (lo := 0) (hi := 1) (by omega) (by omega) eb
    have iin : vp_in i 2 := by rw [hb1]; exact vp_in_nI (by omega) (by omega)
    refine ⟨iin, ?_⟩
    have ci : i.toNatClampNeg = jx i := rfl
    generalize hq : jx i = q at hb1 hb2 h ci
    have hq2 : q = 0 ∨ q = 1 := by omega
    obtain ⟨c1, c2, ⟨n1, n2, n3⟩, c4, c5⟩ := hW
    obtain ⟨i1, i2, i3⟩ := c4 q (by omega)
    refine C_arg (As' := [vr 20 q]) (by rw [ci]) ?_
    refine hC.X3_isKept _ _ M _ (fun P2 go2 => ?_)
    refine go2 [] 99 _ _ _ _ ?_
    refine ⟨by rw [i1]; exact bz_b2 _, ?_⟩
    refine ⟨fun c => ?_, fun c => ?_⟩
    · rw [i1] at c
      have ek := b2_n0 c
      rw [ek] at h
      obtain ⟨g1, g2⟩ := i3 ek
      obtain ⟨hI1, -⟩ := hI.2.2.2 q (by omega) ek
      have h40 := hI1.2.2.2.2.2.2.1
      replace h : ∀ M', CW ((W.2.2.2 q).2.1, (W.2.2.2 q).2.2, W.2.2.1, W.2.2.2) M' → FC M M' → Q (some (vi (nI (hn (W.2.2.2 q).2.1)))) M' := h
      refine ⟨iin, ?_⟩
      refine C_arg (As' := [vr 20 q, vr 1 0, vr 11 0]) (by rw [ci]) ?_
      refine hC.X3_restore _ _ M _ (fun P3 go3 => ?_)
      refine go3 [] 99 _ _ _ _ ?_
      refine c_copyFrom hC (t := 0) (u := q + 1) (by omega) g1 hI1 c1.1 h40 (fun M1 hR1 hF1 => ?_)
      refine c_bcopy hC ?_
      have e1 : ∀ a u j, (a = 0 ∨ 10 < a ∨ u ≠ 0) → M1.1 a u j = M.1 a u j := hF1.1
      have e2 : ∀ a u j, ¬ (a = 12 ∧ u = 0) → (fun x y z => if x = 12 ∧ y = 0 then va_cpy (M1.1 12 (q + 1)) (M1.1 12 0) 0 0 16 z else M1.1 x y z : Nat → Nat → Nat → Int32) a u j = M1.1 a u j := fun a u j h1 => by
        show (if a = 12 ∧ u = 0 then _ else M1.1 a u j) = _
        rw [if_neg h1]
      have hb12 : ∀ j, j < 16 → (fun x y z => if x = 12 ∧ y = 0 then va_cpy (M1.1 12 (q + 1)) (M1.1 12 0) 0 0 16 z else M1.1 x y z : Nat → Nat → Nat → Int32) 12 0 j = (W.2.2.2 q).2.2 j := fun j hj => by
        show (if 12 = 12 ∧ 0 = 0 then va_cpy (M1.1 12 (q + 1)) (M1.1 12 0) 0 0 16 j else _) = _
        rw [if_pos ⟨rfl, rfl⟩, cpy16 hj, e1 12 (q + 1) j (by omega)]
        exact g2 j hj
      generalize hM2 : (fun x y z => if x = 12 ∧ y = 0 then va_cpy (M1.1 12 (q + 1)) (M1.1 12 0) 0 0 16 z else M1.1 x y z : Nat → Nat → Nat → Int32) = f2 at e2 hb12
      have hCR0 : CR 0 (W.2.2.2 q).2.1 (f2, M1.2) := hR1.fr (fun x _ _ => e2 1 0 x (by omega)) (fun a x _ _ => e2 a 0 x (by omega))
      have hfin : CW ((W.2.2.2 q).2.1, (W.2.2.2 q).2.2, W.2.2.1, W.2.2.2) (f2, M1.2) := by
        refine ⟨hCR0, hb12, ⟨?_, ?_, fun x hx => ?_⟩, fun x hx => ?_, ?_⟩
        · show f2 13 0 5 = _; rw [e2 13 0 5 (by omega), e1 13 0 5 (by omega)]; exact n1
        · show f2 13 0 6 = _; rw [e2 13 0 6 (by omega), e1 13 0 6 (by omega)]; exact n2
        · show f2 14 0 x = _ ∧ f2 15 0 x = _ ∧ f2 16 0 x = _
          rw [e2 14 0 x (by omega), e2 15 0 x (by omega), e2 16 0 x (by omega), e1 14 0 x (by omega), e1 15 0 x (by omega), e1 16 0 x (by omega)]; exact n3 x hx
        · obtain ⟨j1, j2, j3⟩ := c4 x hx
          refine ⟨?_, ?_, fun hk' => ?_⟩
          · show f2 20 x 2 = _; rw [e2 20 x 2 (by omega), e1 20 x 2 (by omega)]; exact j1
          · show f2 1 (x + 1) 0 = _; rw [e2 1 (x + 1) 0 (by omega), e1 1 (x + 1) 0 (by omega)]; exact j2
          · obtain ⟨k1, k2⟩ := j3 hk'
            exact ⟨(k1.oth hF1 (by omega)).fr (fun y _ _ => e2 1 (x + 1) y (by omega)) (fun a y _ _ => e2 a (x + 1) y (by omega)), fun j hj => by show f2 12 (x + 1) j = _; rw [e2 12 (x + 1) j (by omega), e1 12 (x + 1) j (by omega)]; exact k2 j hj⟩
        · show f2 1 3 0 = _; rw [e2 1 3 0 (by omega), e1 1 3 0 (by omega)]; exact c5
      have hfc : FC M (f2, M1.2) := fun a u j ha => by show f2 a u j = _; rw [e2 a u j (by omega), e1 a u j (by omega)]
      exact c_count hC hCR0 (h _ hfin hfc)
    · rw [i1] at c
      rw [b2_0 c] at h
      exact h M hs0.1 hs0.2
  · rw [b2_0 c] at h
    exact h M hs0.1 hs0.2
end XOPS2

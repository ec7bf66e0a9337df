section MOPS2
variable {C : Nat → CP} {d k : Nat} {W : WS} {M : AM} {Q : RP}
theorem pair_idx {g : Nat → Int32} : ∀ (l : List Nat) (i : Nat) (j : Nat), l.Pairwise (fun x y => (g x).toInt < (g y).toInt) → l[i]? = some j → (l.filter (fun x => decide (g x < g j))).length = i
  | [], i, j, _, h => by simp at h
  | x :: r, 0, j, hp', h => by
    have e : x = j := by simpa using h
    subst e
    have h1 : (x :: r).filter (fun y => decide (g y < g x)) = [] := by
      rw [List.filter_eq_nil_iff]
      intro y hy
      rw [decide_eq_true_eq, Int32.lt_iff_toInt_lt]
      rcases List.mem_cons.mp hy with e | e
      · rw [e]; omega
      · have := (List.pairwise_cons.mp hp').1 y e
        omega
    rw [h1]; rfl
  | x :: r, i + 1, j, hp', h => by
    have h' : r[i]? = some j := by simpa using h
    have hj : j ∈ r := List.mem_of_getElem? h'
    have hlt : g x < g j := by rw [Int32.lt_iff_toInt_lt]; exact (List.pairwise_cons.mp hp').1 j hj
    rw [List.filter_cons_of_pos (by simpa using hlt), List.length_cons, pair_idx r i j (List.pairwise_cons.mp hp').2 h']
theorem came_cnt {A : AH} {g : Nat → Int32} (hI : Inv A) (hpw : ∀ p, (hc A p).Pairwise (fun x y => (g x).toInt < (g y).toInt)) {u i j : Nat} (h : (hc A u)[i]? = some j) : cU (fun o => decide (hp A o = some u) && decide (g o < g j)) (hn A) = i := by
  rw [← pair_idx (hc A u) i j (hpw u) h]
  unfold cU
  rw [List.countP_eq_length_filter]
  apply Nat.le_antisymm
  · apply sub_len _ _ (List.nodup_range.filter _)
    intro x hx
    have := (List.mem_filter.mp hx).2
    simp only [Bool.and_eq_true, decide_eq_true_eq] at this
    exact List.mem_filter.mpr ⟨(hI.1 x u).mp this.1, by simpa using this.2⟩
  · apply sub_len _ _ ((hI.2.1 u).filter _)
    intro x hx
    obtain ⟨h1, h2⟩ := List.mem_filter.mp hx
    have h3 := (hI.1 x u).mpr h1
    refine List.mem_filter.mpr ⟨List.mem_range.mpr (hI.2.2.1 x u h3).1, ?_⟩
    rw [decide_eq_true h3, Bool.true_and]
    exact h2
set_option maxRecDepth 20000 in
theorem m_child (hC : ClA C) (hW : MW W M) (hI : WI k W) {x y : Int32} (h : ∀ M', MW W M' → FN M M' → Q (some (vi (p_child W x y))) M') : C (d + 3) n_X7_child [vr 21 0, vi x, vi y] M Q := by
  have h40 := hI.1.2.2.2.2.2.2.1
  refine hC.X7_child (d + 2) _ M Q (fun P go => ?_)
  unfold p_child at h
  refine go [(18, 3)] 99 _ _ _ _ ?_
  refine m_isJob hC hW.1 hW.2.1 (fun M1 hM1 hF1 _ => ?_)
  have hs0 := MW_same hW hM1.D hM1.2 hF1
  replace h := h M1 hs0.1 hs0.2
  refine ⟨fun c => ?_, fun c => ?_⟩
  · have e1 := b2_n0 c
    rw [e1] at h
    obtain ⟨hx, hu⟩ := hasJ_ok hI.1 e1
    generalize jx x = u at hx hu h
    subst hx
    replace h : Q (some (vi (if 0 ≤ y then en (hc W.1 u)[jx y]? else -1000000002))) M1 := h
    refine ⟨fun c2 => ?_, fun c2 => ?_⟩
    · rw [if_pos c2] at h
      obtain ⟨kk, hk, rfl⟩ := nI_of (x := y) (nlt_le c2)
      have e : jx (nI kk) = kk := nI_clamp hk
      rw [e] at h
      have hIA := hI.1
      generalize W.1 = A at hM1 h h40 hIA hu
      obtain ⟨hR, e0⟩ := hM1
      have h48 := hR.2.2.2.2.2.1
      have hpw : ∀ p, (hc A p).Pairwise (fun x y => (M1.1 27 0 x).toInt < (M1.1 27 0 y).toInt) := fun p => by
        have := hR.2.2.2.2.2.2.2.1 p
        simpa using this
      have inner : ∀ j, j < hn A → ∀ f o, o + f = hn A → ∀ (res : P 115 [some (vr 21 0), some (vi (nI u)), some (vi (nI kk)), some (vi (nI j)), some (vi (nI (cU (fun o => decide (hp A o = some u) && decide (M1.1 27 0 o < M1.1 27 0 j)) (hn A))))] [] M1), P 53 [some (vr 21 0), some (vi (nI u)), some (vi (nI kk)), some (vi (nI j)), some (vi (nI (cU (fun o => decide (hp A o = some u) && decide (M1.1 27 0 o < M1.1 27 0 j)) o))), some (vi (nI o))] [] M1 := by
        intro j hj f
        obtain ⟨-, ij, cj, -⟩ := hR.row hj
        rw [Nat.zero_add] at ij cj
        induction f with
        | zero =>
          intro o ho res
          have eo : o = hn A := by omega
          subst eo
          exact go [(115, 5)] 99 _ _ _ _ ⟨fun _ => res, fun c => absurd (by rw [e0]; exact nI_le (Nat.le_refl _) (by omega)) c⟩
        | succ f ih =>
          intro o ho res
          have hon : o < hn A := by omega
          obtain ⟨-, io, co, -, -, ks, kp, -⟩ := hR.row hon
          rw [Nat.zero_add] at io co ks kp
          have nx : ∀ v : Int32, v = b2 (decide (hp A o = some u) && decide (M1.1 27 0 o < M1.1 27 0 j)) → P 53 [some (vr 21 0), some (vi (nI u)), some (vi (nI kk)), some (vi (nI j)), some (vi (nI (cU (fun o => decide (hp A o = some u) && decide (M1.1 27 0 o < M1.1 27 0 j)) o) + v)), some (vi (nI o + 1))] [] M1 := by
            intro v hv
            have := ih (o + 1) (by omega) res
            rw [← nI_1 o, cU_s, nI_c, ← hv] at this
            exact this
          refine go [(53, 6)] 99 _ _ _ _ ⟨fun c => absurd (by rw [e0] at c; exact c) (nI_ge hon (by omega)), fun _ => ⟨io, fun c => ?_, fun c => ⟨io, fun c2 => ?_, fun c2 => ⟨io, ij, fun c3 => ?_, fun c3 => ?_⟩⟩⟩⟩ <;> rw [co, ks] at c
          · refine nx 0 ?_
            have : ¬ hp A o = some u := fun e => by
              have := (hIA.2.2.1 o u e).2.2.1
              rw [b2_0 c] at this; cases this
            rw [decide_eq_false this]; rfl
          · rw [co, kp] at c2
            refine nx 0 ?_
            have : ¬ hp A o = some u := fun e => c2 (by rw [e, enb0]; rfl)
            rw [decide_eq_false this]; rfl
          all_goals
            rw [co, kp, enb0] at c2
            have hpo : hp A o = some u := by
              cases e : hp A o with
              | none => rw [e] at c2; exact absurd c2.symm (nI_m1 (by omega))
              | some p =>
                rw [e] at c2
                have h1 := (hIA.2.2.1 o p e).2.1
                rw [nI_inj (a := p) (b := u) (by omega) (by omega) c2]
            rw [co, cj] at c3
          · refine nx 0 ?_
            rw [decide_eq_true hpo, decide_eq_false (nlt_le c3)]; rfl
          · refine nx 1 ?_
            rw [decide_eq_true hpo, decide_eq_true (lt_toInt c3)]; rfl
      have outer : ∀ f j, j + f = hn A → (∀ z, z < j → (hc A u)[kk]? ≠ some z) → P 20 [some (vr 21 0), some (vi (nI u)), some (vi (nI kk)), some (vi (nI j))] [] M1 := by
        intro f
        induction f with
        | zero =>
          intro j hj hno
          have ej : j = hn A := by omega
          subst ej
          have en1 : (hc A u)[kk]? = none := by
            cases e : (hc A u)[kk]? with
            | none => rfl
            | some z => exact absurd e (hno z (kid_lt hIA (List.mem_of_getElem? e)).1)
          rw [en1] at h
          exact go [] 99 _ _ _ _ ⟨fun _ => h, fun c => absurd (by rw [e0]; exact nI_le (Nat.le_refl _) (by omega)) c⟩
        | succ f ih =>
          intro j hj hno
          have hjn : j < hn A := by omega
          obtain ⟨-, ij, cj, -, -, ks, kp, -⟩ := hR.row hjn
          rw [Nat.zero_add] at ij cj ks kp
          have nx : (hc A u)[kk]? ≠ some j → P 20 [some (vr 21 0), some (vi (nI u)), some (vi (nI kk)), some (vi (nI j + 1))] [] M1 := by
            intro hne
            have := ih (j + 1) (by omega) (fun z hz => by
              by_cases e : z = j
              · rw [e]; exact hne
              · exact hno z (by omega))
            rw [← nI_1] at this
            exact this
          refine go [(20, 4), (53, 6)] 99 _ _ _ _ ⟨fun c => absurd (by rw [e0] at c; exact c) (nI_ge hjn (by omega)), fun _ => ⟨ij, fun c => ?_, fun c => ⟨ij, fun c2 => ?_, fun c2 => ?_⟩⟩⟩ <;> rw [cj, ks] at c
          · refine nx (fun e => ?_)
            have h1 := (kid_lt hIA (List.mem_of_getElem? e)).2
            have := (hIA.2.2.1 j u h1).2.2.1
            rw [b2_0 c] at this; cases this
          · rw [cj, kp, enb0] at c2
            refine nx (fun e => c2 ?_)
            rw [(kid_lt hIA (List.mem_of_getElem? e)).2]; rfl
          · rw [cj, kp, enb0] at c2
            have hpj : hp A j = some u := by
              cases e : hp A j with
              | none => rw [e] at c2; exact absurd c2.symm (nI_m1 (by omega))
              | some p =>
                rw [e] at c2
                have h1 := (hIA.2.2.1 j p e).2.1
                rw [nI_inj (a := p) (b := u) (by omega) (by omega) c2]
            obtain ⟨i, hi⟩ := List.getElem?_of_mem ((hIA.1 j u).mp hpj)
            have hcnt := came_cnt hIA hpw hi
            have hile : i < 2 ^ 31 := by
              have := cU_le (fun o => decide (hp A o = some u) && decide (M1.1 27 0 o < M1.1 27 0 j)) (hn A)
              omega
            refine inner j hjn (hn A) 0 (by omega) ?_
            rw [hcnt]
            refine go [(20, 4)] 99 _ _ _ _ ⟨fun c3 => ?_, fun c3 => ?_⟩
            · refine nx (fun e => c3 ?_)
              have := came_cnt hIA hpw e
              rw [hcnt] at this
              rw [this]
            · have : i = kk := nI_inj hile hk c3
              rw [← this, hi] at h
              exact h
      exact go [(20, 4)] 99 _ _ _ _ (outer (hn A) 0 (by omega) (fun z hz => absurd hz (Nat.not_lt_zero z)))
    · rw [if_neg c2] at h
      exact h
  · rw [b2_0 c] at h
    exact h
theorem ix8' (b p : Nat) : 8 * nI b + nI p = nI (8 * b + p) := by
  rw [show (8 : Int32) = nI 8 from rfl, pk_mul, nI_add]
/-- a change of the reference's bench alone -/
theorem MW_bench {W : WS} {M M' : AM} {f : Nat → Int32} (h : MW W M) (hf : ∀ j, j < 16 → M'.1 28 0 j = f j) (e : ∀ a u i, ¬ (a = 28 ∧ u = 0) → M'.1 a u i = M.1 a u i) : MW (W.1, f, W.2.2) M' ∧ FN M M' := by
  obtain ⟨c1, c2, c3, ⟨n1, n2, n3⟩, c5⟩ := h
  refine ⟨⟨MD_um c1 (fun i _ => e 21 0 i (by omega)) (fun a i _ _ => e a 0 i (by omega)), by rw [e 21 0 0 (by omega)]; exact c2, hf, ⟨by rw [e 21 0 13 (by omega)]; exact n1, by rw [e 21 0 14 (by omega)]; exact n2, fun i hi => by rw [e 29 0 i (by omega), e 30 0 i (by omega), e 31 0 i (by omega)]; exact n3 i hi⟩, fun i hi => ?_⟩, fun a u i ha => e a u i (by omega)⟩
  obtain ⟨i1, i2⟩ := c5 i hi
  have e33 : ∀ x, M'.1 33 0 x = M.1 33 0 x := fun x => e 33 0 x (by omega)
  refine ⟨by rw [e 34 0 i (by omega)]; exact i1, fun hk' => ?_⟩
  have := i2 hk'
  simp only [e33]
  exact this
set_option maxRecDepth 20000 in
theorem m_sit (hC : ClA C) (hW : MW W M) (hI : WI k W) {b p x : Int32} (h : ∀ M', MW (p_sit W b p x).2 M' → FN M M' → Q (some (vi (p_sit W b p x).1)) M') : C (d + 3) n_X7_sit [vr 21 0, vi b, vi p, vi x] M Q := by
  refine hC.X7_sit (d + 2) _ M Q (fun P go => ?_)
  refine go [(45, 4)] 99 _ _ _ _ ?_
  unfold p_sit at h
  refine m_in hC ⟨fun c => ?_, fun c => ?_⟩
  · rw [b2_0 c, Bool.false_and] at h
    exact h M hW (fun _ _ _ _ => rfl)
  · have eb := b2_n0 c
    rw [eb, Bool.true_and] at h
    obtain ⟨hb1, -, hb2⟩ := btw_nat (lo := 0) (hi := 1) (by omega) (by omega) eb
    refine m_isJob hC hW.1 hW.2.1 (fun M1 hM1 hF1 _ => ?_)
    have hs0 := MW_same hW hM1.D hM1.2 hF1
    refine ⟨fun c => ?_, fun c => ?_⟩
    · have e1 := b2_n0 c
      rw [e1] at h
      obtain ⟨hx, hj⟩ := hasJ_ok hI.1 e1
      generalize hje : jx x = j at hx hj h
      obtain ⟨-, ij, cj, kd, -, ks, -⟩ := hM1.1.row hj
      rw [Nat.zero_add] at ij cj kd ks
      rw [← hx] at ij cj
      refine ⟨ij, fun c3 => ?_, fun c3 => ?_⟩ <;> rw [cj, ks] at c3
      · rw [b2_0 c3] at h
        refine m_in hC ⟨fun c4 => ?_, fun c4 => ?_⟩
        · have ep := b2_n0 c4
          rw [ep] at h
          obtain ⟨hp1, -, hp2⟩ := btw_nat (lo := 0) (hi := 7) (by omega) (by omega) ep
          have tail : (decide (b = 1) && decide (hd W.1 j = 0)) = false → P 62 [some (vr 21 0), some (vi b), some (vi p), some (vi x)] [] M1 := by
            intro hf
            rw [hf] at h
            replace h : ∀ M', MW (W.1, p_seat W.2.1 (8 * jx b + jx p) x, W.2.2) M' → FN M M' → Q (some (vi (W.2.1 (8 * jx b + jx p)))) M' := h
            generalize jx b = bb at hb1 hb2 h
            generalize jx p = pp at hp1 hp2 h
            subst hb1
            subst hp1
            have e16 : 8 * bb + pp < 16 := by omega
            have hrow : ∀ j, j < 16 → M1.1 28 0 j = W.2.1 j := hs0.1.2.2.1
            have loop : ∀ f y (M2 : AM), y + f = 16 → (∀ a u i, ¬ (a = 28 ∧ u = 0) → M2.1 a u i = M1.1 a u i) → (∀ j, j < 16 → M2.1 28 0 j = if j < y ∧ W.2.1 j = x then -1 else W.2.1 j) → P 78 [some (vr 21 0), some (vi (nI bb)), some (vi (nI pp)), some (vi x), some (vi (W.2.1 (8 * bb + pp))), some (vi (nI y))] [] M2 := by
              intro f
              induction f with
              | zero =>
                intro y M2 hy h1 h3
                have ey : y = 16 := by omega
                subst ey
                have key : ∀ v : Int32, v = nI (8 * bb + pp) → vp_in v 16 ∧ Q (some (vi (W.2.1 (8 * bb + pp)))) (um M2 28 0 v.toNatClampNeg x) := by
                  intro v hv
                  subst hv
                  rw [nI_clamp (by omega)]
                  have := MW_bench hs0.1 (M' := um M2 28 0 (8 * bb + pp) x) (f := p_seat W.2.1 (8 * bb + pp) x) (fun j hj => by
                    rw [um_at]
                    unfold p_seat
                    by_cases e : j = 8 * bb + pp
                    · rw [if_pos ⟨rfl, rfl, e⟩, if_pos e]
                    · rw [if_neg (by omega), if_neg e, h3 j hj]
                      by_cases e2 : W.2.1 j = x
                      · rw [if_pos ⟨hj, e2⟩, if_pos e2]
                      · rw [if_neg (fun q => e2 q.2), if_neg e2]) (fun a u i q => by rw [um_at, if_neg (by omega)]; exact h1 a u i q)
                  exact ⟨vp_in_nI (by omega) (by omega), h _ this.1 (fun a u i ha => (this.2 a u i ha).trans (hs0.2 a u i ha))⟩
                exact go [] 99 _ _ _ _ ⟨fun _ => key _ (ix8' bb pp), fun c => absurd (nI_le (a := 16) (b := 16) (Nat.le_refl _) (by omega)) c⟩
              | succ f ih =>
                intro y M2 hy h1 h3
                have hy16 : y < 16 := by omega
                have cy : (nI y).toNatClampNeg = y := nI_clamp (by omega)
                have iy : vp_in (nI y) 16 := vp_in_nI hy16 (by omega)
                have ey : M2.1 28 0 y = W.2.1 y := by rw [h3 y hy16, if_neg (by omega)]
                have nx : ∀ v : Int32, v = (if W.2.1 y = x then -1 else W.2.1 y) → P 78 [some (vr 21 0), some (vi (nI bb)), some (vi (nI pp)), some (vi x), some (vi (W.2.1 (8 * bb + pp))), some (vi (nI y + 1))] [] (um M2 28 0 y v) := by
                  intro v hv
                  have := ih (y + 1) (um M2 28 0 y v) (by omega) (fun a u i q => by rw [um_at, if_neg (by omega)]; exact h1 a u i q) (fun j hj => by
                    rw [um_at]
                    by_cases e : j = y
                    · subst e
                      rw [if_pos ⟨rfl, rfl, rfl⟩, hv]
                      simp
                    · rw [if_neg (by omega), h3 j hj]
                      by_cases e2 : j < y
                      · simp [e2, show j < y + 1 by omega]
                      · simp [e2, show ¬ j < y + 1 by omega])
                  rw [← nI_1] at this
                  exact this
                refine go [(78, 6)] 99 _ _ _ _ ⟨fun c => absurd c (nI_ge (b := 16) hy16 (by omega)), fun _ => ⟨iy, fun c => ⟨iy, iy, ?_⟩, fun c => ⟨iy, ?_⟩⟩⟩ <;> rw [cy, ey] at c
                · rw [cy]
                  exact nx _ (by rw [ey, if_neg c])
                · rw [cy]
                  exact nx _ (by rw [if_pos c])
            have key : ∀ v : Int32, v = nI (8 * bb + pp) → vp_in v 16 ∧ P 78 [some (vr 21 0), some (vi (nI bb)), some (vi (nI pp)), some (vi x), some (vi (M1.1 28 0 v.toNatClampNeg)), some (vi 0)] [] M1 := by
              intro v hv
              subst hv
              rw [nI_clamp (by omega), hrow _ e16]
              exact ⟨vp_in_nI (by omega) (by omega), loop 16 0 M1 (by omega) (fun _ _ _ _ => rfl) (fun j hj => by rw [if_neg (by omega)]; exact hrow j hj)⟩
            exact go [(78, 6)] 99 _ _ _ _ (key _ (ix8' bb pp))
          refine go [(62, 4)] 99 _ _ _ _ ⟨fun c5 => ?_, fun c5 => ⟨ij, fun c6 => ?_, fun c6 => ?_⟩⟩
          · exact tail (by rw [decide_eq_false c5, Bool.false_and])
          · rw [cj, kd] at c6
            exact tail (by rw [decide_eq_false c6, Bool.and_false])
          · rw [cj, kd] at c6
            rw [decide_eq_true c5, decide_eq_true c6] at h
            exact h M1 hs0.1 hs0.2
        · rw [b2_0 c4] at h
          exact h M1 hs0.1 hs0.2
      · rw [b2_n0 c3] at h
        exact h M1 hs0.1 hs0.2
    · rw [b2_0 c] at h
      exact h M1 hs0.1 hs0.2
set_option maxRecDepth 20000 in
theorem m_sits (hC : ClA C) (hW : MW W M) {b p : Int32} (h : Q (some (vi (p_sits W b p))) M) : C (d + 2) n_X7_sits [vr 21 0, vi b, vi p] M Q := by
  refine hC.X7_sits (d + 1) _ M Q (fun P go => ?_)
  refine go [] 99 _ _ _ _ ?_
  unfold p_sits at h
  refine m_in hC ⟨fun c => ?_, fun c => ?_⟩
  · have eb := b2_n0 c
    rw [eb] at h
    obtain ⟨hb1, -, hb2⟩ := btw_nat (lo := 0) (hi := 1) (by omega) (by omega) eb
    refine m_in hC ⟨fun c => ?_, fun c => ?_⟩
    · rw [b2_0 c] at h
      exact h
    · have ep := b2_n0 c
      rw [ep] at h
      obtain ⟨hp1, -, hp2⟩ := btw_nat (lo := 0) (hi := 7) (by omega) (by omega) ep
      replace h : Q (some (vi (W.2.1 (8 * jx b + jx p)))) M := h
      generalize jx b = bb at hb1 hb2 h
      generalize jx p = pp at hp1 hp2 h
      subst hb1
      subst hp1
      have key : ∀ v : Int32, v = nI (8 * bb + pp) → vp_in v 16 ∧ Q (some (vi (M.1 28 0 v.toNatClampNeg))) M := by
        intro v hv
        subst hv
        rw [nI_clamp (by omega), hW.2.2.1 _ (by omega)]
        exact ⟨vp_in_nI (by omega) (by omega), h⟩
      exact key _ (ix8' bb pp)
  · rw [b2_0 c] at h
    exact h
/-- a change of the reference's net alone -/
theorem MW_net {W : WS} {M M' : AM} {T : NT} (h : MW W M) (hT : NW T M') (e : ∀ a u i, ¬ (a = 21 ∧ u = 0 ∧ (i = 13 ∨ i = 14)) → a ≠ 29 ∧ a ≠ 30 ∧ a ≠ 31 → M'.1 a u i = M.1 a u i) : MW (W.1, W.2.1, T, W.2.2.2) M' ∧ FN M M' := by
  obtain ⟨c1, c2, c3, -, c5⟩ := h
  refine ⟨⟨MD_um c1 (fun i _ => e 21 0 i (by omega) (by omega)) (fun a i _ _ => e a 0 i (by omega) (by omega)), by rw [e 21 0 0 (by omega) (by omega)]; exact c2, fun j hj => by rw [e 28 0 j (by omega) (by omega)]; exact c3 j hj, hT, fun i hi => ?_⟩, fun a u i ha => e a u i (by omega) (by omega)⟩
  obtain ⟨i1, i2⟩ := c5 i hi
  have e33 : ∀ x, M'.1 33 0 x = M.1 33 0 x := fun x => e 33 0 x (by omega) (by omega)
  refine ⟨by rw [e 34 0 i (by omega) (by omega)]; exact i1, fun hk' => ?_⟩
  have := i2 hk'
  simp only [e33]
  exact this
set_option maxRecDepth 20000 in
theorem m_net (hC : ClA C) (hW : MW W M) {n : Int32} (h : ∀ M', MW (p_net W n).2 M' → FN M M' → Q (some (vi (p_net W n).1)) M') : C (d + 2) n_X7_net [vr 21 0, vi n] M Q := by
  refine hC.X7_net (d + 1) _ M Q (fun P go => ?_)
  refine go [] 99 _ _ _ _ ?_
  unfold p_net at h
  refine m_in hC ⟨fun c => ?_, fun c => ?_⟩
  · have eb := b2_n0 c
    rw [eb] at h
    obtain ⟨hb1, -, hb2⟩ := btw_nat (lo := 2) (hi := 8) (by omega) (by omega) eb
    replace h : ∀ M', MW (W.1, W.2.1, (jx n, 0, W.2.2.1.2.2), W.2.2.2) M' → FN M M' → Q (some (vi (nI W.2.2.1.2.1))) M' := h
    generalize jx n = nn at hb1 hb2 h
    subst hb1
    have := MW_net hW (M' := um (um M 21 0 13 (nI nn)) 21 0 14 0) (T := (nn, 0, W.2.2.1.2.2)) ⟨by simp [um_at], by simp [um_at]; rfl, fun i hi => absurd hi (Nat.not_lt_zero i)⟩ (fun a u i q1 q2 => by rw [um_at, if_neg (by omega), um_at, if_neg (by omega)])
    have hq := h _ this.1 this.2
    rw [← hW.2.2.2.1.2.1] at hq
    exact hq
  · rw [b2_0 c] at h
    exact h M hW (fun _ _ _ _ => rfl)
set_option maxRecDepth 20000 in
theorem m_isPlace (hC : ClA C) {T : NT} (hT : NW T M) (hN : NI T) {x : Int32} (h : Q (some (vi (b2 (hasP T x)))) M) : C (d + 2) n_X7_isPlace [vr 21 0, vi x] M Q := by
  refine hC.X7_isPlace (d + 1) _ M Q (fun P go => ?_)
  refine go [] 99 _ _ _ _ ?_
  refine m_in hC ⟨bz_b2 _, ?_⟩
  have e := btw_has (x := x) (n := T.1) (by have := hN.1; omega)
  rw [← hT.1] at e
  rw [e, hT.1]
  exact h
set_option maxRecDepth 20000 in
theorem m_road (hC : ClA C) (hW : MW W M) (hI : WI k W) {a b w : Int32} (h : ∀ M', MW (p_road W a b w).2 M' → FN M M' → Q (some (vi (p_road W a b w).1)) M') : C (d + 3) n_X7_road [vr 21 0, vi a, vi b, vi w] M Q := by
  have hT := hI.2.2.1
  have hs0 : FN M M := fun _ _ _ _ => rfl
  obtain ⟨n1, n2, n3⟩ := hW.2.2.2.1
  refine hC.X7_road (d + 2) _ M Q (fun P go => ?_)
  refine go [] 99 _ _ _ _ ?_
  unfold p_road at h
  refine m_isPlace hC hW.2.2.2.1 hT ⟨fun c => ?_, fun c => ?_⟩
  · rw [b2_0 c, Bool.false_and] at h
    exact h M hW hs0
  · have ea := b2_n0 c
    rw [ea, Bool.true_and] at h
    refine m_isPlace hC hW.2.2.2.1 hT ⟨fun c => ?_, fun c => ?_⟩
    · rw [b2_0 c, Bool.false_and] at h
      exact h M hW hs0
    · have eb := b2_n0 c
      rw [eb, Bool.true_and] at h
      refine ⟨fun c2 => ?_, fun c2 => ?_⟩
      · rw [decide_eq_false c2] at h
        refine m_in hC ⟨fun c3 => ?_, fun c3 => ?_⟩
        · have ew := b2_n0 c3
          rw [ew] at h
          refine ⟨fun c4 => ?_, fun c4 => ?_⟩ <;> rw [n2] at c4
          · have hr : W.2.2.1.2.1 < 14 := by
              have := hT.2.1
              rcases Nat.lt_or_ge W.2.2.1.2.1 14 with q | q
              · exact q
              · exact absurd (by rw [show W.2.2.1.2.1 = 14 by omega]; rfl) c4
            rw [decide_eq_true hr] at h
            obtain ⟨ha1, ha2⟩ := hasP_ok hT ea
            obtain ⟨hb1, hb2⟩ := hasP_ok hT eb
            replace h : ∀ M', MW (W.1, W.2.1, (W.2.2.1.1, W.2.2.1.2.1 + 1, va_up W.2.2.1.2.2.1 W.2.2.1.2.1 (jx a), va_up W.2.2.1.2.2.2.1 W.2.2.1.2.1 (jx b), va_up W.2.2.1.2.2.2.2 W.2.2.1.2.1 w), W.2.2.2) M' → FN M M' → Q (some (vi (nI W.2.2.1.2.1))) M' := h
            generalize jx a = aa at ha1 ha2 h
            generalize jx b = bb at hb1 hb2 h
            subst ha1
            subst hb1
            generalize hrr : W.2.2.1.2.1 = r at n2 n3 hr h
            have cr : (nI r).toNatClampNeg = r := nI_clamp (by omega)
            have ir : vp_in (nI r) 14 := vp_in_nI hr (by omega)
            have e14 : ∀ (M0 : AM), M0.1 21 0 14 = nI r → vp_in (M0.1 21 0 14) 14 := fun M0 e => by rw [e]; exact ir
            have f1 : (um M 29 0 (M.1 21 0 14).toNatClampNeg (nI aa)).1 21 0 14 = nI r := by rw [um_at, if_neg (by omega)]; exact n2
            have f2 : (um (um M 29 0 (M.1 21 0 14).toNatClampNeg (nI aa)) 30 0 ((um M 29 0 (M.1 21 0 14).toNatClampNeg (nI aa)).1 21 0 14).toNatClampNeg (nI bb)).1 21 0 14 = nI r := by rw [um_at, if_neg (by omega)]; exact f1
            refine ⟨e14 M n2, e14 _ f1, e14 _ f2, ?_⟩
            have fin : ∀ M', M' = um (um (um (um M 29 0 r (nI aa)) 30 0 r (nI bb)) 31 0 r w) 21 0 14 (nI r + 1) → Q (some (vi (M'.1 21 0 14 - 1))) M' := by
              intro M' hM'
              have hNW : NW (W.2.2.1.1, r + 1, va_up W.2.2.1.2.2.1 r aa, va_up W.2.2.1.2.2.2.1 r bb, va_up W.2.2.1.2.2.2.2 r w) M' := by
                rw [hM']
                refine ⟨by simp [um_at]; exact n1, by simp [um_at]; exact nI_1 _, fun i hi => ?_⟩
                have hi : i < r + 1 := hi
                show _ = nI (va_up W.2.2.1.2.2.1 r aa i) ∧ _ = nI (va_up W.2.2.1.2.2.2.1 r bb i) ∧ _ = va_up W.2.2.1.2.2.2.2 r w i
                by_cases e : i = r
                · subst e; rw [up_s, up_s, up_s]; simp [um_at]
                · rw [up_n e, up_n e, up_n e]
                  simp [um_at, e]
                  exact n3 i (by omega)
              have := MW_net hW hNW (fun a' u i q1 q2 => by rw [hM', um_at, if_neg (by omega), um_at, if_neg (by omega), um_at, if_neg (by omega), um_at, if_neg (by omega)])
              have hq := h _ this.1 this.2
              have e5 : M'.1 21 0 14 - 1 = nI r := by rw [hM', um_at, if_pos ⟨rfl, rfl, rfl⟩, nI_1, nI_pred]
              rw [← e5] at hq
              exact hq
            refine fin _ ?_
            have f3 : ∀ x : Int32, (um (um (um M 29 0 r (nI aa)) 30 0 r (nI bb)) 31 0 r w).1 21 0 14 = nI r := fun _ => by simp [um_at]; exact n2
            rw [f1, n2, cr]
            have g1 : (um M 29 0 r (nI aa)).1 21 0 14 = nI r := by simp [um_at]; exact n2
            have g2 : (um (um M 29 0 r (nI aa)) 30 0 r (nI bb)).1 21 0 14 = nI r := by simp [um_at]; exact n2
            rw [g2, cr, f3 0]
          · have hge : ¬ W.2.2.1.2.1 < 14 := fun q => by
              have := nI_inj (a := W.2.2.1.2.1) (b := 14) (by omega) (by omega) c4
              omega
            rw [decide_eq_false hge] at h
            exact h M hW hs0
        · rw [b2_0 c3] at h
          exact h M hW hs0
      · rw [decide_eq_true c2] at h
        exact h M hW hs0
end MOPS2

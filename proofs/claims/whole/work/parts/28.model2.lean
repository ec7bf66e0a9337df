section MODEL2
variable {C : Nat → CP} {d b l0 c0 : Nat} {A : AH} {M : AM} {Q : RP}
theorem MR.fr {M' : AM} (h : MR b l0 c0 A M) (h0 : ∀ i, i = 7 ∨ i = 8 ∨ i = 9 ∨ i = 10 ∨ i = 11 → M'.1 21 0 i = M.1 21 0 i) (h1 : ∀ a i, 22 ≤ a → a ≤ 27 → b ≤ i → i < b + hn A → M'.1 a 0 i = M.1 a 0 i) (hI : Inv A) : MR b l0 c0 A M' := by
  obtain ⟨c1, c2, c3, c4, c5, c6, j1, j2, j3⟩ := h
  have ec : ∀ p x, x ∈ hc A p → M'.1 27 0 (b + x) = M.1 27 0 (b + x) := fun p x hx => h1 27 _ (by omega) (by omega) (by omega) (by have := (kid_lt hI hx).1; omega)
  refine ⟨by rw [h0 10 (by omega)]; exact c1, by rw [h0 11 (by omega)]; exact c2, by rw [h0 7 (by omega)]; exact c3, by rw [h0 8 (by omega)]; exact c4, by rw [h0 9 (by omega)]; exact c5, c6, fun j hj => ?_, fun p => ?_, fun p x hx => ?_⟩
  · show M'.1 22 0 (b + j) = _ ∧ M'.1 23 0 (b + j) = _ ∧ M'.1 24 0 (b + j) = _ ∧ M'.1 25 0 (b + j) = _ ∧ M'.1 26 0 (b + j) = _
    rw [h1 22 _ (by omega) (by omega) (by omega) (by omega), h1 23 _ (by omega) (by omega) (by omega) (by omega), h1 24 _ (by omega) (by omega) (by omega) (by omega), h1 25 _ (by omega) (by omega) (by omega) (by omega), h1 26 _ (by omega) (by omega) (by omega) (by omega)]
    exact j1 j hj
  · refine List.Pairwise.imp_of_mem (fun {x y} hx hy hxy => ?_) (j2 p)
    show (M'.1 27 0 (b + x)).toInt < (M'.1 27 0 (b + y)).toInt
    rw [ec p x hx, ec p y hy]
    exact hxy
  · show (M'.1 27 0 (b + x)).toInt < _
    rw [ec p x hx]
    exact j3 p x hx
set_option maxRecDepth 20000 in
theorem m_cut (hC : ClA C) (hR : MR b l0 c0 A M) (hI : Inv A) {j p : Nat} (hjp : hp A j = some p) (h : ∀ M', MR b l0 c0 (cutj A j) M' → FM b (hn A) M M' → Q none M') : C (d + 1) n_X7_cut [vr 21 0, vi (nI (b + j))] M Q := by
  have hj := (hI.2.2.1 j p hjp).1
  obtain ⟨bj, ij, cj, -⟩ := hR.row hj
  refine hC.X7_cut d _ M Q (fun P go => ?_)
  refine go [] 99 _ _ _ _ ⟨ij, ij, ?_⟩
  rw [cj]
  have ecut : cutj A j = (hn A, hd A, hk A, hs A, va_up (hp A) j none, va_up (hl A) j false, va_up (hc A) p ((hc A p).erase j), lk A, ct A + 1) := by
    unfold cutj
    rw [hjp]
  rw [ecut] at h
  obtain ⟨c1, c2, c3, c4, c5, c6, j1, j2, j3⟩ := hR
  refine h _ ⟨by simp [um_at]; exact c1, by simp [um_at]; exact c2, by simp [um_at]; exact c3, by simp [um_at]; exact c4, by simp [um_at, c5]; exact nI_1 _, c6, fun x hx => ?_, fun q => ?_, fun q x hx => ?_⟩ (((FM.rf.umr (by omega) (by omega) (by omega) (by omega)).umr (by omega) (by omega) (by omega) (by omega)).umc (by omega))
  · obtain ⟨k0, k1, k2, k3, k4⟩ := j1 x hx
    show _ = hd A x ∧ _ = CLooseHeapLaw_law_r4325_51c37f.hk A x ∧ _ = b2 (hs A x) ∧ _ = enb b (va_up (hp A) j none x) ∧ _ = b2 (va_up (hl A) j false x)
    by_cases e : x = j
    · subst e
      rw [up_s, up_s]
      refine ⟨by simp [um_at]; exact k0, by simp [um_at]; exact k1, by simp [um_at]; exact k2, by simp [um_at]; rfl, by simp [um_at]; rfl⟩
    · rw [up_n e, up_n e]
      have e' : ¬ b + x = b + j := by omega
      refine ⟨by simp [um_at]; exact k0, by simp [um_at]; exact k1, by simp [um_at]; exact k2, by simp [um_at, e]; exact k3, by simp [um_at, e]; exact k4⟩
  · show (va_up (hc A) p ((hc A p).erase j) q).Pairwise _
    simp only [um_at]
    by_cases e : q = p
    · subst e
      rw [up_s]
      exact List.Pairwise.sublist List.erase_sublist (by simpa using j2 q)
    · rw [up_n e]
      simpa using j2 q
  · have hx : x ∈ va_up (hc A) p ((hc A p).erase j) q := hx
    simp only [um_at]
    by_cases e : q = p
    · subst e
      rw [up_s] at hx
      simpa using j3 q x (List.mem_of_mem_erase hx)
    · rw [up_n e] at hx
      simpa using j3 q x hx
set_option maxRecDepth 20000 in
theorem m_link (hC : ClA C) (hR : MR b l0 c0 A M) (hI : Inv A) {x y : Nat} (hxy : x ≠ y) (hx0 : hp A x = none) (hy0 : hp A y = none) (hx : x < hn A) (hy : y < hn A) (hb : l0 + lk A < 2 ^ 30) (h : ∀ M', MR b l0 c0 (link A x y) M' → FM b (hn A) M M' → Q none M') : C (d + 2) n_X7_link [vr 21 0, vi (nI (b + x)), vi (nI (b + y))] M Q := by
  have h48 := hR.2.2.2.2.2.1
  refine hC.X7_link (d + 1) _ M Q (fun P go => ?_)
  have tail : ∀ u dn, u ≠ dn → hp A u = none → hp A dn = none → u < hn A → dn < hn A → nI (b + x) + nI (b + y) - nI (b + u) = nI (b + dn) → (∀ M', MR b l0 c0 (lnk A u dn) M' → FM b (hn A) M M' → Q none M') → P 14 [some (vr 21 0), some (vi (nI (b + x))), some (vi (nI (b + y)))] [vi (nI (b + u))] M := by
    intro u dn hud hu0 hd0 hu hdn hsum h
    obtain ⟨bd, id1, cd, -⟩ := hR.row hdn
    refine go [] 99 _ _ _ _ ?_
    have fin : ∀ v : Int32, v = nI (b + dn) → vp_in v 48 ∧ vp_in v 48 ∧ Q none (um (um (um (um M 25 0 v.toNatClampNeg (nI (b + u))) 27 0 v.toNatClampNeg ((um M 25 0 v.toNatClampNeg (nI (b + u))).1 21 0 7)) 21 0 7 ((um (um M 25 0 v.toNatClampNeg (nI (b + u))) 27 0 v.toNatClampNeg ((um M 25 0 v.toNatClampNeg (nI (b + u))).1 21 0 7)).1 21 0 7 + 1)) 21 0 8 ((um (um (um M 25 0 v.toNatClampNeg (nI (b + u))) 27 0 v.toNatClampNeg ((um M 25 0 v.toNatClampNeg (nI (b + u))).1 21 0 7)) 21 0 7 ((um (um M 25 0 v.toNatClampNeg (nI (b + u))) 27 0 v.toNatClampNeg ((um M 25 0 v.toNatClampNeg (nI (b + u))).1 21 0 7)).1 21 0 7 + 1)).1 21 0 8 + 1)) := by
      intro v hv
      subst hv
      rw [cd]
      refine ⟨id1, id1, ?_⟩
      obtain ⟨c1, c2, c3, c4, c5, c6, j1, j2, j3⟩ := hR
      have hdk : ∀ p, dn ∉ hc A p := fun p hm => by rw [(hI.1 dn p).mpr hm] at hd0; cases hd0
      have e27 : ∀ z, z ≠ dn → (um (um (um (um M 25 0 (b + dn) (nI (b + u))) 27 0 (b + dn) ((um M 25 0 (b + dn) (nI (b + u))).1 21 0 7)) 21 0 7 ((um (um M 25 0 (b + dn) (nI (b + u))) 27 0 (b + dn) ((um M 25 0 (b + dn) (nI (b + u))).1 21 0 7)).1 21 0 7 + 1)) 21 0 8 ((um (um (um M 25 0 (b + dn) (nI (b + u))) 27 0 (b + dn) ((um M 25 0 (b + dn) (nI (b + u))).1 21 0 7)) 21 0 7 ((um (um M 25 0 (b + dn) (nI (b + u))) 27 0 (b + dn) ((um M 25 0 (b + dn) (nI (b + u))).1 21 0 7)).1 21 0 7 + 1)).1 21 0 8 + 1)).1 27 0 (b + z) = M.1 27 0 (b + z) := fun z hz => by
        simp [um_at, hz]
      have e27d : (um (um (um (um M 25 0 (b + dn) (nI (b + u))) 27 0 (b + dn) ((um M 25 0 (b + dn) (nI (b + u))).1 21 0 7)) 21 0 7 ((um (um M 25 0 (b + dn) (nI (b + u))) 27 0 (b + dn) ((um M 25 0 (b + dn) (nI (b + u))).1 21 0 7)).1 21 0 7 + 1)) 21 0 8 ((um (um (um M 25 0 (b + dn) (nI (b + u))) 27 0 (b + dn) ((um M 25 0 (b + dn) (nI (b + u))).1 21 0 7)) 21 0 7 ((um (um M 25 0 (b + dn) (nI (b + u))) 27 0 (b + dn) ((um M 25 0 (b + dn) (nI (b + u))).1 21 0 7)).1 21 0 7 + 1)).1 21 0 8 + 1)).1 27 0 (b + dn) = nI (l0 + lk A) := by simp [um_at]; exact c3
      generalize hM' : (um (um (um (um M 25 0 (b + dn) (nI (b + u))) 27 0 (b + dn) ((um M 25 0 (b + dn) (nI (b + u))).1 21 0 7)) 21 0 7 ((um (um M 25 0 (b + dn) (nI (b + u))) 27 0 (b + dn) ((um M 25 0 (b + dn) (nI (b + u))).1 21 0 7)).1 21 0 7 + 1)) 21 0 8 ((um (um (um M 25 0 (b + dn) (nI (b + u))) 27 0 (b + dn) ((um M 25 0 (b + dn) (nI (b + u))).1 21 0 7)) 21 0 7 ((um (um M 25 0 (b + dn) (nI (b + u))) 27 0 (b + dn) ((um M 25 0 (b + dn) (nI (b + u))).1 21 0 7)).1 21 0 7 + 1)).1 21 0 8 + 1)) = M' at e27 e27d ⊢
      have hF : FM b (hn A) M M' := by rw [← hM']; exact ((((FM.rf.umr (by omega) (by omega) (by omega) (by omega)).umr (by omega) (by omega) (by omega) (by omega)).umc (by omega)).umc (by omega))
      refine h M' ⟨by rw [← hM']; simp [um_at]; exact c1, by rw [← hM']; simp [um_at]; exact c2, by rw [← hM']; simp [um_at, c3]; exact nI_1 _, by rw [← hM']; simp [um_at, c4]; exact nI_1 _, by rw [← hM']; simp [um_at]; exact c5, c6, fun z hz => ?_, fun q => ?_, fun q z hz => ?_⟩ hF
      · obtain ⟨k0, k1, k2, k3, k4⟩ := j1 z hz
        show M'.1 22 0 (b + z) = hd A z ∧ M'.1 23 0 (b + z) = hk A z ∧ M'.1 24 0 (b + z) = b2 (hs A z) ∧ M'.1 25 0 (b + z) = enb b (va_up (hp A) dn (some u) z) ∧ M'.1 26 0 (b + z) = b2 (hl A z)
        rw [← hM']
        refine ⟨by simp [um_at]; exact k0, by simp [um_at]; exact k1, by simp [um_at]; exact k2, ?_, by simp [um_at]; exact k4⟩
        by_cases e : z = dn
        · subst e; rw [up_s]; simp [um_at]; rfl
        · rw [up_n e]
          simp [um_at, e]; exact k3
      · show (va_up (hc A) u (hc A u ++ [dn]) q).Pairwise (fun x y => (M'.1 27 0 (b + x)).toInt < (M'.1 27 0 (b + y)).toInt)
        have old : ∀ r, (hc A r).Pairwise (fun x y => (M'.1 27 0 (b + x)).toInt < (M'.1 27 0 (b + y)).toInt) := fun r => by
          refine List.Pairwise.imp_of_mem (fun {x y} hx hy hxy => ?_) (j2 r)
          rw [e27 x (fun e => hdk r (by rw [← e]; exact hx)), e27 y (fun e => hdk r (by rw [← e]; exact hy))]
          exact hxy
        by_cases e : q = u
        · subst e
          rw [up_s]
          refine List.pairwise_append.mpr ⟨old q, List.pairwise_singleton _ _, fun z hz w hw => ?_⟩
          rw [List.mem_singleton.mp hw, e27d, e27 z (fun e => hdk q (by rw [← e]; exact hz)), nI_toInt (by omega)]
          exact j3 q z hz
        · rw [up_n e]; exact old q
      · have hz : z ∈ va_up (hc A) u (hc A u ++ [dn]) q := hz
        show (M'.1 27 0 (b + z)).toInt < ((l0 + (lk A + 1) : Nat) : Int)
        have old : ∀ r, z ∈ hc A r → (M'.1 27 0 (b + z)).toInt < ((l0 + (lk A + 1) : Nat) : Int) := fun r hr => by
          rw [e27 z (fun e => hdk r (by rw [← e]; exact hr))]
          have := j3 r z hr
          have this : (M.1 27 0 (b + z)).toInt < ((l0 + lk A : Nat) : Int) := this
          omega
        by_cases e : q = u
        · subst e
          rw [up_s] at hz
          rcases List.mem_append.mp hz with hz | hz
          · exact old q hz
          · rw [List.mem_singleton.mp hz, e27d, nI_toInt (by omega)]
            omega
        · rw [up_n e] at hz; exact old q hz
    exact fin _ hsum
  have es : ∀ p q : Nat, nI (b + p) + nI (b + q) - nI (b + p) = nI (b + q) := fun p q => by rw [nI_add, pk_sub (by omega)]; congr 1; omega
  have es' : ∀ p q : Nat, nI (b + p) + nI (b + q) - nI (b + q) = nI (b + p) := fun p q => by rw [nI_add, pk_sub (by omega)]; congr 1; omega
  refine go [(14, 3)] 99 _ _ _ _ ?_
  refine m_isSooner hC hR hx hy ?_
  unfold link at h
  refine ⟨fun c => ?_, fun c => ?_⟩
  · rw [b2_0 c] at h
    exact tail y x (Ne.symm hxy) hy0 hx0 hy hx (es' x y) h
  · rw [b2_n0 c] at h
    exact tail x y hxy hx0 hy0 hx hy (es x y) h
/-- the pair that twice and ofRank find -/
theorem tw_pair (hI : Inv A) {l : Bool} {r : Nat} (hr : r < hn A) (h2 : two A l r) (hmin : ∀ r', r' < r → ¬ two A l r') : ∃ i j, IsPair A l i j ∧ rk A j = r ∧ ofR A l (nI r) 0 = some i ∧ ofR A l (nI r) (i + 1) = some j := by
  have h40 := hI.2.2.2.2.2.2.1
  obtain ⟨x, y, q1, q2, q3, q4, q5, q6⟩ := h2
  cases h1 : ofR A l (nI r) 0 with
  | none => exact absurd q5 (ofR_none h1 x (Nat.zero_le _) (by omega) q3)
  | some i =>
    obtain ⟨-, i2, i3, i4, i5⟩ := ofR_some hI (by omega) h1
    have hix : i ≤ x := by
      rcases Nat.lt_or_ge x i with q | q
      · exact absurd q5 (i5 x (Nat.zero_le _) q q3)
      · exact q
    cases h2 : ofR A l (nI r) (i + 1) with
    | none => exact absurd q6 (ofR_none h2 y (by omega) q2 q4)
    | some j =>
      obtain ⟨j1, j2, j3, j4, j5⟩ := ofR_some hI (by omega) h2
      refine ⟨i, j, ⟨by omega, j2, i3, j3, by omega, fun z hz pz ez => ?_, fun z w hzw hw pz pw ezw => ?_⟩, j4, rfl, h2⟩
      · rcases Nat.lt_trichotomy z i with q | q | q
        · exact absurd (by omega) (i5 z (Nat.zero_le _) q pz)
        · exact q
        · exact absurd (by omega) (j5 z (by omega) hz pz)
      · rcases Nat.lt_or_ge (rk A z) (rk A j) with q | q
        · exact absurd ⟨z, w, hzw, hw, pz, pw, rfl, ezw.symm⟩ (hmin (rk A z) (by omega))
        · exact q
theorem tw_no {l : Bool} (h : ∀ r, ¬ two A l r) : ∀ i j, ¬ IsPair A l i j := fun i j hp => h (rk A j) ⟨i, j, hp.1, hp.2.1, hp.2.2.1, hp.2.2.2.1, hp.2.2.2.2.1, rfl⟩
set_option maxRecDepth 20000 in
theorem m_settle (hC : ClA C) (hR : MR b l0 c0 A M) (hI : Inv A) {f : Nat} (hf : nl A ≤ f) (hb : l0 + lk A + f < 2 ^ 30) (h : ∀ M', MR b l0 c0 (sett f A) M' → FM b (hn A) M M' → Q none M') : C (d + 4) n_X7_settle [vr 21 0] M Q := by
  have h48 := hR.2.2.2.2.2.1
  refine hC.X7_settle (d + 3) _ M Q (fun P go => ?_)
  have loop : ∀ (f : Nat) (B : AH) (M1 : AM) (v : Int32), TW B true v → MR b l0 c0 B M1 → Inv B → hn B = hn A → nl B ≤ f → l0 + lk B + f < 2 ^ 30 → FM b (hn A) M M1 → (∀ M', MR b l0 c0 (sett f B) M' → FM b (hn A) M M' → Q none M') → P 6 [some (vr 21 0), some (vi v)] [] M1 := by
    intro f
    induction f with
    | zero =>
      intro B M1 v hv hR1 hI1 hn1 hf1 hb1 hF h
      rcases hv with ⟨rfl, hno⟩ | ⟨r, hr, rfl, h2, hmin⟩
      · exact go [] 99 _ _ _ _ ⟨fun _ => h M1 hR1 hF, fun c => absurd rfl c⟩
      · obtain ⟨i, j, hpr, -⟩ := tw_pair hI1 hr h2 hmin
        have := (sett_step hI1 hpr).2.1
        omega
    | succ f ih =>
      intro B M1 v hv hR1 hI1 hn1 hf1 hb1 hF h
      rcases hv with ⟨rfl, hno⟩ | ⟨r, hr, rfl, h2, hmin⟩
      · have e : sett (f + 1) B = B := by unfold sett; rw [pr_none (tw_no hno)]
        rw [e] at h
        exact go [] 99 _ _ _ _ ⟨fun _ => h M1 hR1 hF, fun c => absurd rfl c⟩
      · obtain ⟨i, j, hpr, hrj, o1, o2⟩ := tw_pair hI1 hr h2 hmin
        have hs2 := sett_step hI1 hpr
        have e10 := hR1.1
        have hi : i < hn B := by have := hpr.1; have := hpr.2.1; omega
        have hj : j < hn B := hpr.2.1
        have hij := hpr.1
        obtain ⟨pi, hpi, -⟩ := loose_st hI1 (show hl B i = true from hpr.2.2.1)
        obtain ⟨pj, hpj, -⟩ := loose_st hI1 (show hl B j = true from hpr.2.2.2.1)
        refine go [(6, 2)] 99 _ _ _ _ ⟨fun c => absurd c (nI_m1 (by omega)), fun _ => ?_⟩
        refine C_arg (As' := [vr 21 0, vi (nI r), vi (nI (b + 0) - 1), vi (b2 true)]) (by rw [e10]; rfl) (m_ofRank hC hR1 hI1 true (Nat.zero_le _) ?_)
        rw [o1]
        refine C_arg (As' := [vr 21 0, vi (nI r), vi (nI (b + (i + 1)) - 1), vi (b2 true)]) (by rw [show b + (i + 1) = (b + i) + 1 by omega, nI_pred]; rfl) (m_ofRank hC hR1 hI1 true (by omega) ?_)
        rw [o2]
        refine m_cut hC hR1 hI1 hpi (fun M3 hR3 hF3 => ?_)
        have hpj' : hp (cutj B i) j = some pj := by rw [(cut_p hI1).1, if_neg (by omega)]; exact hpj
        refine m_cut hC hR3 (inv_cut hI1 i) hpj' (fun M4 hR4 hF4 => ?_)
        have hlk : lk (cutj (cutj B i) j) = lk B := by rw [cut_n.2.2.2.2, cut_n.2.2.2.2]
        have hnn : hn (cutj (cutj B i) j) = hn B := by rw [cut_n.1, cut_n.1]
        refine m_link hC hR4 (inv_cut (inv_cut hI1 i) j) (by omega) hs2.2.2.1 hs2.2.2.2.1 (by rw [hnn]; exact hi) (by rw [hnn]; exact hj) (by rw [hlk]; omega) (fun M5 hR5 hF5 => ?_)
        rw [cut_n.1, hn1] at hF4
        rw [hnn, hn1] at hF5
        rw [hn1] at hF3
        refine m_twice hC hR5 hs2.1 true (fun v hv => ?_)
        have e : sett (f + 1) B = sett f (link (cutj (cutj B i) j) i j) := by
          show (match pr B true with | none => B | some q => sett f (link (cutj (cutj B q.1) q.2) q.1 q.2)) = _
          rw [pr_some hpr]
        rw [e] at h
        exact ih _ M5 v hv hR5 hs2.1 (by rw [link_n.1, hnn, hn1]) (by have := hs2.2.1; omega) (by rw [link_n.2.2.2.2.2.1, hlk]; omega) (((hF.tr hF3).tr hF4).tr hF5) h
  refine go [(6, 2)] 99 _ _ _ _ ?_
  refine m_twice hC hR hI true (fun v hv => ?_)
  exact loop f A M v hv hR hI rfl hf hb FM.rf h
set_option maxRecDepth 20000 in
theorem m_joinAll (hC : ClA C) (hR : MR b l0 c0 A M) (hI : Inv A) {f : Nat} (hf : nr A ≤ f) (hb : l0 + lk A + f < 2 ^ 30) (h : ∀ M', MR b l0 c0 (joi f A) M' → FM b (hn A) M M' → Q none M') : C (d + 4) n_X7_joinAll [vr 21 0] M Q := by
  have h48 := hR.2.2.2.2.2.1
  refine hC.X7_joinAll (d + 3) _ M Q (fun P go => ?_)
  have loop : ∀ (f : Nat) (B : AH) (M1 : AM) (v : Int32), TW B false v → MR b l0 c0 B M1 → Inv B → hn B = hn A → nr B ≤ f → l0 + lk B + f < 2 ^ 30 → FM b (hn A) M M1 → (∀ M', MR b l0 c0 (joi f B) M' → FM b (hn A) M M' → Q none M') → P 6 [some (vr 21 0), some (vi v)] [] M1 := by
    intro f
    induction f with
    | zero =>
      intro B M1 v hv hR1 hI1 hn1 hf1 hb1 hF h
      rcases hv with ⟨rfl, hno⟩ | ⟨r, hr, rfl, h2, hmin⟩
      · exact go [] 99 _ _ _ _ ⟨fun _ => h M1 hR1 hF, fun c => absurd rfl c⟩
      · obtain ⟨i, j, hp, -⟩ := tw_pair hI1 hr h2 hmin
        have := (joi_step hI1 hp).2.1
        omega
    | succ f ih =>
      intro B M1 v hv hR1 hI1 hn1 hf1 hb1 hF h
      rcases hv with ⟨rfl, hno⟩ | ⟨r, hr, rfl, h2, hmin⟩
      · have e : joi (f + 1) B = B := by unfold joi; rw [pr_none (tw_no hno)]
        rw [e] at h
        exact go [] 99 _ _ _ _ ⟨fun _ => h M1 hR1 hF, fun c => absurd rfl c⟩
      · obtain ⟨i, j, hp, hrj, o1, o2⟩ := tw_pair hI1 hr h2 hmin
        have hs2 := joi_step hI1 hp
        have e10 := hR1.1
        have hi : i < hn B := by have := hp.1; have := hp.2.1; omega
        have hj : j < hn B := hp.2.1
        have hij := hp.1
        refine go [(6, 2)] 99 _ _ _ _ ⟨fun c => absurd c (nI_m1 (by omega)), fun _ => ?_⟩
        refine C_arg (As' := [vr 21 0, vi (nI r), vi (nI (b + 0) - 1), vi (b2 false)]) (by rw [e10]; rfl) (m_ofRank hC hR1 hI1 false (Nat.zero_le _) ?_)
        rw [o1]
        refine C_arg (As' := [vr 21 0, vi (nI r), vi (nI (b + (i + 1)) - 1), vi (b2 false)]) (by rw [show b + (i + 1) = (b + i) + 1 by omega, nI_pred]; rfl) (m_ofRank hC hR1 hI1 false (by omega) ?_)
        rw [o2]
        refine m_link hC hR1 hI1 (by omega) hs2.2.2.1 hs2.2.2.2.1 hi hj (by omega) (fun M5 hR5 hF5 => ?_)
        rw [hn1] at hF5
        refine m_twice hC hR5 hs2.1 false (fun v hv => ?_)
        have e : joi (f + 1) B = joi f (link B i j) := by
          show (match pr B false with | none => B | some q => joi f (link B q.1 q.2)) = _
          rw [pr_some hp]
        rw [e] at h
        exact ih _ M5 v hv hR5 hs2.1 (by rw [link_n.1, hn1]) (by have := hs2.2.1; omega) (by rw [link_n.2.2.2.2.2.1]; omega) (hF.tr hF5) h
  refine go [(6, 2)] 99 _ _ _ _ ?_
  refine m_twice hC hR hI false (fun v hv => ?_)
  exact loop f A M v hv hR hI rfl hf hb FM.rf h
end MODEL2

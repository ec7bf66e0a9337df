section MODEL3
variable {C : Nat → CP} {d b l0 c0 : Nat} {A : AH} {M : AM} {Q : RP}
/-- the reference's data, whatever part it looks at now -/
def MD (b l0 c0 : Nat) (A : AH) (M : AM) : Prop :=
  M.1 21 0 7 = nI (l0 + lk A) ∧ M.1 21 0 8 = nI (l0 + lk A) ∧ M.1 21 0 9 = nI (c0 + ct A) ∧ b + hn A ≤ 48 ∧ JR b (fun k j => M.1 (22 + k) 0 (b + j)) A (l0 + lk A)
theorem MR.D (h : MR b l0 c0 A M) : MD b l0 c0 A M := h.2.2
theorem MR_setk (hR : MR b l0 c0 A M) {j : Nat} {k : Int32} : MR b l0 c0 (setk A j k) (um M 23 0 (b + j) k) := by
  obtain ⟨c1, c2, c3, c4, c5, c6, j1, j2, j3⟩ := hR
  refine ⟨by simp [um_at]; exact c1, by simp [um_at]; exact c2, by simp [um_at]; exact c3, by simp [um_at]; exact c4, by simp [um_at]; exact c5, c6, fun x hx => ?_, fun p => ?_, fun p x hx => ?_⟩
  · obtain ⟨k0, k1, k2, k3, k4⟩ := j1 x hx
    refine ⟨by simp [um_at]; exact k0, ?_, by simp [um_at]; exact k2, by simp [um_at]; exact k3, by simp [um_at]; exact k4⟩
    show _ = va_up (hk A) j k x
    by_cases e : x = j
    · subst e; rw [up_s]; simp [um_at]
    · rw [up_n e]; simp [um_at, e]; exact k1
  · show (hc A p).Pairwise _
    simpa [um_at] using j2 p
  · have hx : x ∈ hc A p := hx
    show _ < ((l0 + lk A : Nat) : Int)
    simpa [um_at] using j3 p x hx
theorem MR_setl (hR : MR b l0 c0 A M) {j : Nat} : MR b l0 c0 (setl A j) (um M 26 0 (b + j) (bz 1)) := by
  obtain ⟨c1, c2, c3, c4, c5, c6, j1, j2, j3⟩ := hR
  refine ⟨by simp [um_at]; exact c1, by simp [um_at]; exact c2, by simp [um_at]; exact c3, by simp [um_at]; exact c4, by simp [um_at]; exact c5, c6, fun x hx => ?_, fun p => ?_, fun p x hx => ?_⟩
  · obtain ⟨k0, k1, k2, k3, k4⟩ := j1 x hx
    refine ⟨by simp [um_at]; exact k0, by simp [um_at]; exact k1, by simp [um_at]; exact k2, by simp [um_at]; exact k3, ?_⟩
    show _ = b2 (va_up (hl A) j true x)
    by_cases e : x = j
    · subst e; rw [up_s]; simp [um_at]; rfl
    · rw [up_n e]; simp [um_at, e]; exact k4
  · show (hc A p).Pairwise _
    simpa [um_at] using j2 p
  · have hx : x ∈ hc A p := hx
    show _ < ((l0 + lk A : Nat) : Int)
    simpa [um_at] using j3 p x hx
set_option maxRecDepth 20000 in
theorem m_lowerTo (hC : ClA C) (hR : MR b l0 c0 A M) (hI : Inv A) {j : Nat} {k : Int32} (hj : j < hn A) (hk' : KeyOk k) (hb : l0 + lk A + 100 < 2 ^ 30) (h : ∀ M', MR b l0 c0 (lowA A j k) M' → FM b (hn A) M M' → Q none M') : C (d + 5) n_X7_lowerTo [vr 21 0, vi (nI (b + j)), vi k] M Q := by
  have h40 := hI.2.2.2.2.2.2.1
  have hR1 : MR b l0 c0 (setk A j k) (um M 23 0 (b + j) k) := MR_setk hR
  have hI1 : Inv (setk A j k) := inv_setk hI hk'
  obtain ⟨bj, ij, cj, -, -, -, kp, -⟩ := hR1.row (j := j) hj
  have kp : (um M 23 0 (b + j) k).1 25 0 (b + j) = enb b (hp A j) := kp
  refine hC.X7_lowerTo (d + 4) _ M Q (fun P go => ?_)
  refine go [] 99 _ _ _ _ ⟨ij, ij, ?_⟩
  rw [cj, kp]
  cases hjp : hp A j with
  | none =>
    have e : lowA A j k = setk A j k := by unfold lowA; rw [hjp]
    rw [e] at h
    exact ⟨fun _ => h _ hR1 (FM.rf.umr (by omega) (by omega) (by omega) (by omega)), fun c => absurd rfl c⟩
  | some p =>
    have hp1 := (hI.2.2.1 j p hjp).2.1
    have e : lowA A j k = cond (snb (setk A j k) j p) (settle (setl (setk A j k) j)) (setk A j k) := by unfold lowA; rw [hjp]
    rw [e] at h
    refine ⟨fun c => absurd c (nI_m1 (by have := hR.2.2.2.2.2.1; omega)), fun _ => ⟨ij, ?_⟩⟩
    refine C_arg (As' := [vr 21 0, vi (nI (b + j)), vi (nI (b + p))]) (by rw [cj, kp, hjp]; rfl) (m_isSooner hC hR1 (x := j) (y := p) hj hp1 ?_)
    refine ⟨fun c => ?_, fun c => ⟨ij, ?_⟩⟩
    · rw [b2_0 c] at h
      exact h _ hR1 (FM.rf.umr (by omega) (by omega) (by omega) (by omega))
    · rw [b2_n0 c] at h
      rw [cj]
      have hn1 : hn (setl (setk A j k) j) = hn A := rfl
      refine m_settle hC (MR_setl hR1) (inv_setl hI1 hjp) (nl_le _) (by show l0 + lk A + hn A < _; omega) (fun M' g1 g2 => ?_)
      exact h M' g1 (((FM.rf.umr (by omega) (by omega) (by omega) (by omega)).umr (by omega) (by omega) (by omega) (by omega)).tr g2)
set_option maxRecDepth 20000 in
theorem m_remove (hC : ClA C) (hR : MR b l0 c0 A M) (hI : Inv A) {j : Nat} (hj : j < hn A) (hb : l0 + lk A + 200 < 2 ^ 30) (h : ∀ M', MR b l0 c0 (takeA A j) M' → FM b (hn A) M M' → Q none M') : C (d + 5) n_X7_remove [vr 21 0, vi (nI (b + j))] M Q := by
  have h40 := hI.2.2.2.2.2.2.1
  have h48 := hR.2.2.2.2.2.1
  obtain ⟨bj, ij, cj, -, -, -, kp, -⟩ := hR.row hj
  refine hC.X7_remove (d + 4) _ M Q (fun P go => ?_)
  have tail : ∀ M1, MR b l0 c0 (cutj A j) M1 → FM b (hn A) M M1 → P 15 [some (vr 21 0), some (vi (nI (b + j)))] [] M1 := by
    intro M1 hR1 hF1
    have hI1 := inv_cut hI j
    have hnc : hn (cutj A j) = hn A := cut_n.1
    have hlc : lk (cutj A j) = lk A := cut_n.2.2.2.2
    have hj0 : hp (cutj A j) j = none := by rw [(cut_p hI).1, if_pos rfl]
    generalize hB : cutj A j = B at hR1 hI1 hnc hlc hj0
    have loop : ∀ k y (M2 : AM), y + k = hn A → FM b (hn A) M M2 → (∀ i, M2.1 21 0 i = M1.1 21 0 i) → (∀ a x, a = 22 ∨ a = 23 ∨ a = 24 ∨ a = 27 → M2.1 a 0 x = M1.1 a 0 x) → (∀ x, x < hn A → M2.1 25 0 (b + x) = if x < y ∧ hp B x = some j then -1 else M1.1 25 0 (b + x)) → (∀ x, x < hn A → M2.1 26 0 (b + x) = if x < y ∧ hp B x = some j then 0 else M1.1 26 0 (b + x)) → P 20 [some (vr 21 0), some (vi (nI (b + j))), some (vi (nI (b + y)))] [] M2 := by
      intro k
      induction k with
      | zero =>
        intro y M2 hy hF2 g1 g2 g5 g6
        have ey : y = hn A := by omega
        subst ey
        have e11 : M2.1 21 0 11 = nI (b + hn A) := by rw [g1, hR1.2.1, hnc]
        refine go [] 99 _ _ _ _ ⟨fun _ => ⟨ij, ?_⟩, fun c => absurd (by rw [e11]; exact nI_le (Nat.le_refl _) (by omega)) c⟩
        rw [cj]
        have hR3 : MR b l0 c0 (fre B j) (um M2 24 0 (b + j) (bz 0)) := by
          obtain ⟨c1, c2, c3, c4, c5, c6, j1, j2, j3⟩ := hR1
          refine ⟨by simp [um_at]; rw [g1]; exact c1, by simp [um_at]; rw [g1]; exact c2, by simp [um_at]; rw [g1]; exact c3, by simp [um_at]; rw [g1]; exact c4, by simp [um_at]; rw [g1]; exact c5, c6, fun x hx => ?_, fun q => ?_, fun q x hx => ?_⟩
          · have hx : x < hn B := hx
            obtain ⟨k0, k1, k2, k3, k4⟩ := j1 x hx
            have k0 : M1.1 22 0 (b + x) = hd B x := k0
            have k1 : M1.1 23 0 (b + x) = hk B x := k1
            have k2 : M1.1 24 0 (b + x) = b2 (hs B x) := k2
            have k3 : M1.1 25 0 (b + x) = enb b (hp B x) := k3
            have k4 : M1.1 26 0 (b + x) = b2 (hl B x) := k4
            refine ⟨by simp [um_at]; rw [g2 22 _ (by omega)]; exact k0, by simp [um_at]; rw [g2 23 _ (by omega)]; exact k1, ?_, ?_, ?_⟩
            · show _ = b2 (va_up (hs B) j false x)
              by_cases e : x = j
              · subst e; rw [up_s]; simp [um_at]; rfl
              · rw [up_n e]; simp [um_at, e]; rw [g2 24 _ (by omega)]; exact k2
            · show _ = enb b (if hp B x = some j then none else hp B x)
              simp [um_at]
              rw [g5 x (by omega)]
              by_cases e : hp B x = some j
              · rw [if_pos ⟨by omega, e⟩, if_pos e]; rfl
              · rw [if_neg (fun q => e q.2), if_neg e]; exact k3
            · show _ = b2 (if hp B x = some j then false else hl B x)
              show (um M2 24 0 (b + j) (bz 0)).1 26 0 (b + x) = _
              rw [um_at, if_neg (by omega), g6 x (by omega)]
              by_cases e : hp B x = some j
              · rw [if_pos ⟨by omega, e⟩, if_pos e]; rfl
              · rw [if_neg (fun q => e q.2), if_neg e]; exact k4
          · show (va_up (hc B) j [] q).Pairwise _
            by_cases e : q = j
            · subst e; rw [up_s]; exact List.Pairwise.nil
            · rw [up_n e]
              have := j2 q
              simpa [um_at, g2 27 _ (by omega)] using this
          · have hx : x ∈ va_up (hc B) j [] q := hx
            by_cases e : q = j
            · subst e; rw [up_s] at hx; cases hx
            · rw [up_n e] at hx
              have := j3 q x hx
              show _ < ((l0 + lk B : Nat) : Int)
              simpa [um_at, g2 27 _ (by omega)] using this
        have hI3 := inv_fre hI1 hj0
        have hF3 : FM b (hn A) M (um M2 24 0 (b + j) (bz 0)) := hF2.umr (by omega) (by omega) (by omega) (by omega)
        have hn3 : hn (fre B j) = hn A := hnc
        refine m_settle hC hR3 hI3 (nl_le _) (by show l0 + lk B + hn B < _; omega) (fun M4 hR4 hF4 => ?_)
        have hs4 := sett_inv (hn (fre B j)) hI3
        have hl4 : lk (sett (hn (fre B j)) (fre B j)) ≤ lk A + hn A := by
          have := hs4.2.2.2.2.2
          have e1 : lk (fre B j) = lk A := hlc
          omega
        refine m_joinAll hC hR4 hs4.1 (nr_le _) (by have e1 := hs4.2.1; omega) (fun M5 hR5 hF5 => ?_)
        rw [hn3] at hF4
        rw [hs4.2.1, hn3] at hF5
        refine h M5 ?_ ((hF3.tr hF4).tr hF5)
        unfold takeA joinA settle
        rw [hB]
        exact hR5
      | succ k ih =>
        intro y M2 hy hF2 g1 g2 g5 g6
        have hyn : y < hn A := by omega
        have e11 : M2.1 21 0 11 = nI (b + hn A) := by rw [g1, hR1.2.1, hnc]
        obtain ⟨b_y, iy, cy, -, -, ks, kp, kl⟩ := hR1.row (j := y) (by omega)
        have ks2 : M2.1 24 0 (b + y) = b2 (hs B y) := by rw [g2 24 _ (by omega)]; exact ks
        have kp2 : M2.1 25 0 (b + y) = enb b (hp B y) := by rw [g5 y hyn, if_neg (by omega)]; exact kp
        have kl2 : M2.1 26 0 (b + y) = b2 (hl B y) := by rw [g6 y hyn, if_neg (by omega)]; exact kl
        have nx : ∀ (v w : Int32), v = (if hp B y = some j then -1 else M1.1 25 0 (b + y)) → w = (if hp B y = some j then 0 else M1.1 26 0 (b + y)) → P 20 [some (vr 21 0), some (vi (nI (b + j))), some (vi (nI (b + y) + 1))] [] (um (um M2 25 0 (b + y) v) 26 0 (b + y) w) := by
          intro v w hv hw
          have := ih (y + 1) (um (um M2 25 0 (b + y) v) 26 0 (b + y) w) (by omega) ((hF2.umr (by omega) (by omega) (by omega) (by omega)).umr (by omega) (by omega) (by omega) (by omega)) (fun i => by simp [um_at]; exact g1 i) (fun a x q => by rcases q with q | q | q | q <;> subst q <;> simp [um_at] <;> exact g2 _ x (by omega)) (fun x hx => by
            simp [um_at]
            by_cases e : x = y
            · subst e; rw [if_pos rfl, hv]; simp
            · rw [if_neg e, g5 x hx]
              by_cases e2 : x < y
              · simp [e2, show x < y + 1 by omega]
              · simp [e2, show ¬ x < y + 1 by omega]) (fun x hx => by
            simp [um_at]
            by_cases e : x = y
            · subst e; rw [if_pos rfl, hw]; simp
            · rw [if_neg e, g6 x hx]
              by_cases e2 : x < y
              · simp [e2, show x < y + 1 by omega]
              · simp [e2, show ¬ x < y + 1 by omega])
          rw [show b + (y + 1) = (b + y) + 1 by omega, ← nI_1] at this
          exact this
        have no : ¬ hp B y = some j → P 52 [some (vr 21 0), some (vi (nI (b + j))), some (vi (nI (b + y)))] [vi 0] M2 := by
          intro hno
          simp only [if_neg hno] at nx
          refine go [(20, 3)] 99 _ _ _ _ ⟨fun _ => ⟨iy, iy, ?_⟩, fun c => absurd rfl c⟩
          rw [cy]
          refine ⟨fun c => absurd rfl c, fun _ => ⟨iy, fun c => ⟨iy, ?_⟩, fun c => ⟨iy, ?_⟩⟩⟩
          · rw [cy]
            have c : (um M2 25 0 (b + y) (M2.1 25 0 (b + y))).1 26 0 (nI (b + y)).toNatClampNeg = 0 := c
            rw [cy] at c
            simp [um_at] at c
            rw [kl2] at c
            refine nx _ _ (by rw [kp2]; exact kp.symm) (by rw [kl, b2_0 c]; rfl)
          · rw [cy]
            have c : ¬ (um M2 25 0 (b + y) (M2.1 25 0 (b + y))).1 26 0 (nI (b + y)).toNatClampNeg = 0 := c
            rw [cy] at c
            simp [um_at] at c
            rw [kl2] at c
            refine nx _ _ (by rw [kp2]; exact kp.symm) (by rw [kl, b2_n0 c]; rfl)
        have yes : hp B y = some j → P 52 [some (vr 21 0), some (vi (nI (b + j))), some (vi (nI (b + y)))] [vi 1] M2 := by
          intro hy1
          simp only [if_pos hy1] at nx
          refine go [(20, 3)] 99 _ _ _ _ ⟨fun c => absurd c (by decide), fun _ => ⟨iy, ⟨fun _ => ⟨iy, ?_⟩, fun c => absurd c (by decide)⟩⟩⟩
          rw [cy]
          exact nx _ _ rfl rfl
        refine go [(52, 3)] 99 _ _ _ _ ⟨fun c => absurd (by rw [e11] at c; exact c) (nI_ge (by omega) (by omega)), fun _ => ⟨iy, fun c => ?_, fun c => ⟨iy, fun c2 => ?_, fun c2 => ?_⟩⟩⟩ <;> rw [cy, ks2] at c
        · have e1 := b2_0 c
          refine no (fun e => ?_)
          have := (hI1.2.2.1 y j e).2.2.1
          rw [e1] at this; cases this
        · rw [cy, kp2] at c2
          exact no (fun e => c2 (by rw [e]; rfl))
        · rw [cy, kp2] at c2
          refine yes ?_
          cases e : hp B y with
          | none => rw [e] at c2; exact absurd c2.symm (nI_m1 (by omega))
          | some p =>
            rw [e] at c2
            have h1 := (hI1.2.2.1 y p e).2.1
            have := nI_inj (a := b + p) (b := b + j) (by omega) (by omega) c2
            rw [show p = j by omega]
    have := loop (hn A) 0 M1 (by omega) hF1 (fun _ => rfl) (fun _ _ _ => rfl) (fun x _ => by rw [if_neg (by omega)]) (fun x _ => by rw [if_neg (by omega)])
    rw [Nat.add_zero, ← hR1.1] at this
    exact go [(20, 3)] 99 _ _ _ _ this
  refine go [(15, 2)] 99 _ _ _ _ ⟨ij, ?_⟩
  rw [cj, kp]
  cases hjp : hp A j with
  | none =>
    refine ⟨fun _ => ?_, fun c => absurd rfl c⟩
    have e : cutj A j = A := by unfold cutj; rw [hjp]
    exact tail M (by rw [e]; exact hR) FM.rf
  | some p =>
    have hp1 := (hI.2.2.1 j p hjp).2.1
    refine ⟨fun c => absurd c (nI_m1 (by omega)), fun _ => ?_⟩
    exact m_cut hC hR hI hjp (fun M1 hR1 hF1 => tail M1 hR1 hF1)
end MODEL3

section MOPS
variable {C : Nat → CP} {d k : Nat} {W : WS} {M : AM} {Q : RP}
theorem enb0 (o : Option Nat) : enb 0 o = en o := by
  cases o with
  | none => rfl
  | some p => show nI (0 + p) = nI p; rw [Nat.zero_add]
theorem MM.D {A : AH} {M : AM} (h : MM A M) : MD 0 0 0 A M := h.1.2.2
set_option maxRecDepth 20000 in
theorem m_add (hC : ClA C) {A : AH} {b l0 c0 : Nat} (hD : MD b l0 c0 A M) (hb0 : M.1 21 0 10 = nI b) (hI : Inv A) (hroom : b + hn A < 48) {kind key : Int32} (h : ∀ M', MR b l0 c0 (addj A kind key) M' → (∀ a u i, ¬ (a = 21 ∧ u = 0 ∧ i = 11) → ¬ (22 ≤ a ∧ a ≤ 27 ∧ u = 0 ∧ i = b + hn A) → M'.1 a u i = M.1 a u i) → M'.2 = M.2 → Q none M') : C (d + 1) n_X7_add [vr 21 0, vi (nI (b + hn A)), vi kind, vi key] M Q := by
  have cj : (nI (b + hn A)).toNatClampNeg = b + hn A := cl48 hroom
  have ij := in48 hroom
  refine hC.X7_add d _ M Q (fun P go => ?_)
  refine go [] 199 _ _ _ _ ⟨ij, ij, ij, ij, ij, ij, ?_⟩
  rw [cj]
  obtain ⟨c3, c4, c5, c6, j1, j2, j3⟩ := hD
  obtain ⟨f1, f2, f3, f4⟩ := hI.fresh (Nat.le_refl (hn A))
  have hne : ∀ p x, x ∈ hc A p → x ≠ hn A := fun p x hx e => by have := (kid_lt hI hx).1; omega
  refine h _ ⟨by simp [um_at]; exact hb0, by simp [um_at]; exact nI_1 _, by simp [um_at]; exact c3, by simp [um_at]; exact c4, by simp [um_at]; exact c5, hroom, fun x hx => ?_, fun p => ?_, fun p x hx => ?_⟩ (fun a u i q1 q2 => by
    rw [um_at, if_neg q1, um_at, if_neg (by omega), um_at, if_neg (by omega), um_at, if_neg (by omega), um_at, if_neg (by omega), um_at, if_neg (by omega), um_at, if_neg (by omega)]) rfl
  · have hx : x < hn A + 1 := hx
    show _ = va_up (hd A) (hn A) kind x ∧ _ = va_up (hk A) (hn A) key x ∧ _ = b2 (va_up (hs A) (hn A) true x) ∧ _ = enb b (hp A x) ∧ _ = b2 (hl A x)
    by_cases e : x = hn A
    · subst e
      rw [up_s, up_s, up_s, f1, f2]
      refine ⟨by simp [um_at], by simp [um_at], by simp [um_at]; rfl, by simp [um_at]; rfl, by simp [um_at]; rfl⟩
    · rw [up_n e, up_n e, up_n e]
      obtain ⟨k0, k1, k2, k3, k4⟩ := j1 x (by omega)
      refine ⟨by simp [um_at, e]; exact k0, by simp [um_at, e]; exact k1, by simp [um_at, e]; exact k2, by simp [um_at, e]; exact k3, by simp [um_at, e]; exact k4⟩
  · show (hc A p).Pairwise _
    refine List.Pairwise.imp_of_mem (fun {x y} hx hy hxy => ?_) (j2 p)
    have e1 := hne p x hx
    have e2 := hne p y hy
    simpa [um_at, e1, e2] using hxy
  · have hx : x ∈ hc A p := hx
    have e1 := hne p x hx
    show _ < ((l0 + lk A : Nat) : Int)
    have := j3 p x hx
    simpa [um_at, e1] using this
set_option maxRecDepth 20000 in
theorem m_put (hC : ClA C) (hW : MW W M) (hI : WI k W) {a b : Int32} (h : ∀ M', MW (p_put W a b).2 M' → FN M M' → Q (some (vi (p_put W a b).1)) M') : C (d + 2) n_X7_put [vr 21 0, vi a, vi b] M Q := by
  have h40 := hI.1.2.2.2.2.2.2.1
  refine hC.X7_put (d + 1) _ M Q (fun P go => ?_)
  refine go [] 99 _ _ _ _ ?_
  refine m_own hC hW.1 hW.2.1 (fun M1 hM1 hF1 _ => ?_)
  have hs0 := MW_same hW hM1.D hM1.2 hF1
  unfold p_put at h
  refine m_in hC ⟨fun c => ?_, fun c => ?_⟩
  · rw [b2_0 c, Bool.false_and] at h
    exact h M1 hs0.1 hs0.2
  · rw [b2_n0 c, Bool.true_and] at h
    refine m_in hC ⟨fun c2 => ?_, fun c2 => ?_⟩
    · rw [b2_n0 c2] at h
      refine ⟨fun c3 => ?_, fun c3 => ?_⟩ <;> rw [hM1.2] at c3
      · have hlt : hn W.1 < 40 := by
          rcases Nat.lt_or_ge (hn W.1) 40 with q | q
          · exact q
          · exact absurd (by rw [show hn W.1 = 40 by omega]; rfl) c3
        rw [decide_eq_true hlt] at h
        refine C_arg (As' := [vr 21 0, vi (nI (0 + hn W.1)), vi a, vi b]) (by rw [hM1.2, Nat.zero_add]) (m_add hC hM1.D hM1.1.1 hI.1 (by omega) (fun M2 hR2 hF2 h22 => ?_))
        have e0 : M2.1 21 0 0 = nI (hn W.1) := by rw [hF2 21 0 0 (by omega) (by omega)]; exact hM1.2
        have hD3 : MD 0 0 0 (addj W.1 a b) (um M2 21 0 0 (M2.1 21 0 0 + 1)) := MD_um hR2.D (fun i hi => by rw [um_at, if_neg (by omega)]) (fun x i h1 h2 => by rw [um_at, if_neg (by omega)])
        have e3 : (um M2 21 0 0 (M2.1 21 0 0 + 1)).1 21 0 0 = nI (hn (addj W.1 a b)) := by
          rw [um_at, if_pos ⟨rfl, rfl, rfl⟩, e0]; exact nI_1 _
        have hF3 : FX M (um M2 21 0 0 (M2.1 21 0 0 + 1)) := (hF1.tr (fun x u i q1 q2 => hF2 x u i (by omega) (by omega))).u0 (by omega)
        have := MW_heap hW hD3 e3 hF3
        have e4 : (um M2 21 0 0 (M2.1 21 0 0 + 1)).1 21 0 0 - 1 = nI (hn W.1) := by
          rw [um_at, if_pos ⟨rfl, rfl, rfl⟩, e0, nI_1, nI_pred]
        have hq := h _ this.1 this.2
        have hq : Q (some (vi (nI (hn W.1)))) (um M2 21 0 0 (M2.1 21 0 0 + 1)) := hq
        rw [← e4] at hq
        exact hq
      · have hge : ¬ hn W.1 < 40 := fun q => by
          have := nI_inj (a := hn W.1) (b := 40) (by omega) (by omega) c3
          omega
        rw [decide_eq_false hge] at h
        exact h M1 hs0.1 hs0.2
    · rw [b2_0 c2] at h
      exact h M1 hs0.1 hs0.2
theorem lowA_inv {A : AH} (hI : Inv A) {j : Nat} {y : Int32} (hy : KeyOk y) : Inv (lowA A j y) ∧ hn (lowA A j y) = hn A ∧ lk (lowA A j y) ≤ lk A + hn A := by
  unfold lowA settle
  split
  · exact ⟨inv_setk hI hy, rfl, by show lk A ≤ _; omega⟩
  · rename_i p hp1
    cases snb (setk A j y) j p
    · exact ⟨inv_setk hI hy, rfl, by show lk A ≤ _; omega⟩
    · have := sett_inv (A := setl (setk A j y) j) (hn (setl (setk A j y) j)) (inv_setl (A := setk A j y) (inv_setk hI hy) hp1)
      exact ⟨this.1, this.2.1, this.2.2.2.2.2⟩
set_option maxRecDepth 20000 in
theorem m_lower (hC : ClA C) (hW : MW W M) (hI : WI k W) (hk : k ≤ 512) {x y : Int32} (h : ∀ M', MW (p_lower W x y).2 M' → FN M M' → Q (some (vi (p_lower W x y).1)) M') : C (d + 6) n_X7_lower [vr 21 0, vi x, vi y] M Q := by
  have h40 := hI.1.2.2.2.2.2.2.1
  have hlk := hI.2.1
  refine hC.X7_lower (d + 5) _ M Q (fun P go => ?_)
  refine go [] 99 _ _ _ _ ?_
  unfold p_lower at h
  refine m_isJob hC hW.1 hW.2.1 (fun M1 hM1 hF1 _ => ?_)
  have hs0 := MW_same hW hM1.D hM1.2 hF1
  refine ⟨fun c => ?_, fun c => ?_⟩
  · have e1 := b2_n0 c
    rw [e1] at h
    obtain ⟨hx, hj⟩ := hasJ_ok hI.1 e1
    generalize jx x = j at hx hj h
    subst hx
    obtain ⟨bj, ij, cj, -, kk, ks, -, -⟩ := hM1.1.row hj
    rw [Nat.zero_add] at ij cj kk ks
    refine m_in hC ⟨fun c2 => ?_, fun c2 => ?_⟩
    · rw [b2_n0 c2] at h
      refine ⟨ij, fun c3 => ?_, fun c3 => ⟨ij, fun c4 => ?_, fun c4 => ?_⟩⟩ <;> rw [cj, ks] at c3
      · rw [b2_0 c3] at h
        exact h M1 hs0.1 hs0.2
      · rw [cj, kk] at c4
        rw [b2_n0 c3, decide_eq_true c4] at h
        have hy := btw_key (b2_n0 c2)
        refine C_arg (As' := [vr 21 0, vi (nI (0 + j)), vi y]) (by rw [Nat.zero_add]) (m_lowerTo hC hM1.1 hI.1 hj hy (by omega) (fun M2 hR2 hF2 => ?_))
        have hn2 := (lowA_inv hI.1 hy (j := j)).2.1
        have e0 : M2.1 21 0 0 = nI (hn (lowA W.1 j y)) := by rw [hF2.1 21 0 0 (by omega) (by omega), hn2]; exact hM1.2
        have := MW_heap hW hR2.D e0 (hF1.tr hF2.X)
        obtain ⟨-, -, -, -, -, -, -, kl⟩ := hR2.row (j := j) (by rw [hn2]; exact hj)
        rw [Nat.zero_add] at kl
        have hq : Q (some (vi (b2 (hl (lowA W.1 j y) j)))) M2 := h M2 this.1 this.2
        refine ⟨ij, fun c5 => ?_, fun c5 => ?_⟩ <;> rw [cj, kl] at c5
        · rw [b2_0 c5] at hq
          exact hq
        · rw [b2_n0 c5] at hq
          exact hq
      · rw [cj, kk] at c4
        rw [b2_n0 c3, decide_eq_false c4] at h
        exact h M1 hs0.1 hs0.2
    · rw [b2_0 c2] at h
      exact h M1 hs0.1 hs0.2
  · rw [b2_0 c] at h
    exact h M1 hs0.1 hs0.2
set_option maxRecDepth 20000 in
theorem m_take (hC : ClA C) (hW : MW W M) (hI : WI k W) (hk : k ≤ 512) (h : ∀ M', MW (p_take W).2 M' → FN M M' → Q (some (vi (p_take W).1)) M') : C (d + 6) n_X7_take [vr 21 0] M Q := by
  have h40 := hI.1.2.2.2.2.2.2.1
  have hlk := hI.2.1
  refine hC.X7_take (d + 5) _ M Q (fun P go => ?_)
  refine go [] 99 _ _ _ _ ?_
  unfold p_take at h
  refine m_own hC hW.1 hW.2.1 (fun M1 hM1 hF1 _ => ?_)
  have hs0 := MW_same hW hM1.D hM1.2 hF1
  refine m_soonest hC hM1.1 ?_
  rw [enb0]
  cases e : soonA W.1 with
  | none =>
    rw [e] at h
    exact ⟨fun c => absurd rfl c, fun _ => h M1 hs0.1 hs0.2⟩
  | some j =>
    rw [e] at h
    have hj := (sstU_lt _ e).1
    refine ⟨fun _ => ?_, fun c => absurd c (nI_m1 (by omega))⟩
    refine C_arg (As' := [vr 21 0, vi (nI (0 + j))]) (by rw [Nat.zero_add]; rfl) (m_remove hC hM1.1 hI.1 hj (by omega) (fun M2 hR2 hF2 => ?_))
    have ht := takeA_inv hI.1 j
    have e0 : M2.1 21 0 0 = nI (hn (takeA W.1 j)) := by rw [hF2.1 21 0 0 (by omega) (by omega), ht.2.1]; exact hM1.2
    have := MW_heap hW hR2.D e0 (hF1.tr hF2.X)
    exact h M2 this.1 this.2
set_option maxRecDepth 20000 in
theorem m_drop (hC : ClA C) (hW : MW W M) (hI : WI k W) (hk : k ≤ 512) {x : Int32} (h : ∀ M', MW (p_drop W x).2 M' → FN M M' → Q (some (vi (p_drop W x).1)) M') : C (d + 6) n_X7_drop [vr 21 0, vi x] M Q := by
  have h40 := hI.1.2.2.2.2.2.2.1
  have hlk := hI.2.1
  refine hC.X7_drop (d + 5) _ M Q (fun P go => ?_)
  refine go [] 99 _ _ _ _ ?_
  unfold p_drop at h
  refine m_isJob hC hW.1 hW.2.1 (fun M1 hM1 hF1 _ => ?_)
  have hs0 := MW_same hW hM1.D hM1.2 hF1
  refine ⟨fun c => ?_, fun c => ?_⟩
  · have e1 := b2_n0 c
    rw [e1] at h
    obtain ⟨hx, hj⟩ := hasJ_ok hI.1 e1
    generalize jx x = j at hx hj h
    subst hx
    obtain ⟨bj, ij, cj, -, -, ks, -, -⟩ := hM1.1.row hj
    rw [Nat.zero_add] at ij cj ks
    refine ⟨ij, fun c3 => ?_, fun c3 => ?_⟩ <;> rw [cj, ks] at c3
    · rw [b2_n0 c3] at h
      refine C_arg (As' := [vr 21 0, vi (nI (0 + j))]) (by rw [Nat.zero_add]) (m_remove hC hM1.1 hI.1 hj (by omega) (fun M2 hR2 hF2 => ?_))
      have ht := takeA_inv hI.1 j
      have e0 : M2.1 21 0 0 = nI (hn (takeA W.1 j)) := by rw [hF2.1 21 0 0 (by omega) (by omega), ht.2.1]; exact hM1.2
      have := MW_heap hW hR2.D e0 (hF1.tr hF2.X)
      exact m_standing hC hR2 (h M2 this.1 this.2)
    · rw [b2_0 c3] at h
      exact h M1 hs0.1 hs0.2
  · rw [b2_0 c] at h
    exact h M1 hs0.1 hs0.2
set_option maxRecDepth 20000 in
theorem m_join (hC : ClA C) (hW : MW W M) (hI : WI k W) (hk : k ≤ 512) (h : ∀ M', MW (p_join W).2 M' → FN M M' → Q (some (vi (p_join W).1)) M') : C (d + 5) n_X7_join [vr 21 0] M Q := by
  have h40 := hI.1.2.2.2.2.2.2.1
  have hlk := hI.2.1
  refine hC.X7_join (d + 4) _ M Q (fun P go => ?_)
  refine go [] 99 _ _ _ _ ?_
  refine m_own hC hW.1 hW.2.1 (fun M1 hM1 hF1 _ => ?_)
  refine m_joinAll hC hM1.1 hI.1 (nr_le _) (by omega) (fun M2 hR2 hF2 => ?_)
  have ht := joi_inv (hn W.1) hI.1
  have e0 : M2.1 21 0 0 = nI (hn (joinA W.1)) := by
    rw [hF2.1 21 0 0 (by omega) (by omega)]
    show _ = nI (hn (joi (hn W.1) W.1))
    rw [ht.2.1]; exact hM1.2
  have := MW_heap hW (A' := joinA W.1) hR2.D e0 (hF1.tr hF2.X)
  have e8 : M2.1 21 0 8 - M1.1 21 0 8 = nI (lk (joinA W.1)) - nI (lk W.1) := by
    rw [hR2.2.2.2.1, hM1.1.2.2.2.1, Nat.zero_add, Nat.zero_add]
    rfl
  have hq : Q (some (vi (nI (lk (joinA W.1)) - nI (lk W.1)))) M2 := h M2 this.1 this.2
  rw [← e8] at hq
  exact hq
set_option maxRecDepth 20000 in
theorem m_clear (hC : ClA C) (hW : MW W M) (h : ∀ M', MW (p_clear W).2 M' → FN M M' → Q (some (vi (p_clear W).1)) M') : C (d + 1) n_X7_clear [vr 21 0] M Q := by
  obtain ⟨c1, c2, c3, ⟨n1, n2, n3⟩, c5⟩ := hW
  refine hC.X7_clear d _ M Q (fun P go => ?_)
  have loop : ∀ f y (M1 : AM), y + f = 16 → (∀ a u i, ¬ (a = 21 ∧ u = 0 ∧ (i = 0 ∨ i = 7 ∨ i = 8 ∨ i = 9)) → ¬ (a = 28 ∧ u = 0) → M1.1 a u i = M.1 a u i) → M1.1 21 0 0 = 0 → M1.1 21 0 7 = 0 → M1.1 21 0 8 = 0 → M1.1 21 0 9 = 0 → (∀ j, j < y → M1.1 28 0 j = -1) → P 27 [some (vr 21 0), some (vi (nI (hn W.1))), some (vi (nI y))] [] M1 := by
    intro f
    induction f with
    | zero =>
      intro y M1 hy h1 e0 e7 e8 e9 hb
      have ey : y = 16 := by omega
      subst ey
      refine go [] 99 _ _ _ _ ⟨fun _ => ?_, fun c => absurd (nI_le (a := 16) (b := 16) (Nat.le_refl _) (by omega)) c⟩
      refine h M1 ⟨⟨e7, e8, e9, by show 0 + 0 ≤ 48; omega, fun j hj => absurd hj (Nat.not_lt_zero j), fun p => List.Pairwise.nil, fun p x hx => absurd hx List.not_mem_nil⟩, e0, hb, ⟨by rw [h1 21 0 13 (by omega) (by omega)]; exact n1, by rw [h1 21 0 14 (by omega) (by omega)]; exact n2, fun i hi => by rw [h1 29 0 i (by omega) (by omega), h1 30 0 i (by omega) (by omega), h1 31 0 i (by omega) (by omega)]; exact n3 i hi⟩, fun i hi => ?_⟩ (fun a u i ha => h1 a u i (by omega) (by omega))
      obtain ⟨i1, i2⟩ := c5 i hi
      have e33 : ∀ x, M1.1 33 0 x = M.1 33 0 x := fun x => h1 33 0 x (by omega) (by omega)
      refine ⟨by rw [h1 34 0 i (by omega) (by omega)]; exact i1, fun hk' => ?_⟩
      have := i2 hk'
      simp only [e33]
      exact this
    | succ f ih =>
      intro y M1 hy h1 e0 e7 e8 e9 hb
      have hy16 : y < 16 := by omega
      have cy : (nI y).toNatClampNeg = y := nI_clamp (by omega)
      have iy : vp_in (nI y) 16 := vp_in_nI hy16 (by omega)
      refine go [(27, 3)] 99 _ _ _ _ ⟨fun c => absurd c (nI_ge (b := 16) hy16 (by omega)), fun _ => ⟨iy, ?_⟩⟩
      rw [cy]
      have := ih (y + 1) (um M1 28 0 y (-1)) (by omega) (fun a u i q1 q2 => by rw [um_at, if_neg (by omega)]; exact h1 a u i q1 q2) (by simp [um_at]; exact e0) (by simp [um_at]; exact e7) (by simp [um_at]; exact e8) (by simp [um_at]; exact e9) (fun j hj => by
        rw [um_at]
        by_cases e : j = y
        · rw [if_pos ⟨rfl, rfl, e⟩]
        · rw [if_neg (by omega)]; exact hb j (by omega))
      rw [← nI_1] at this
      exact this
  have := loop 16 0 (um (um (um (um M 21 0 0 0) 21 0 7 0) 21 0 8 0) 21 0 9 0) (by omega) (fun a u i q1 q2 => by rw [um_at, if_neg (by omega), um_at, if_neg (by omega), um_at, if_neg (by omega), um_at, if_neg (by omega)]) (by simp [um_at]) (by simp [um_at]) (by simp [um_at]) (by simp [um_at]) (fun j hj => absurd hj (Nat.not_lt_zero j))
  rw [← c2] at this
  exact go [(27, 3)] 99 _ _ _ _ this
theorem pw3 {A : AH} : pw A 3 = isP A false := by
  funext x
  show (hs A x && (if (3 : Int32) = 3 then (hp A x).isNone else hl A x)) = (hs A x && (hp A x).isNone)
  rw [if_pos rfl]
theorem pw4 {A : AH} (hI : Inv A) {w : Int32} (hw : w ≠ 3) : pw A w = hl A := by
  funext x
  show (hs A x && (if w = 3 then (hp A x).isNone else hl A x)) = hl A x
  rw [if_neg hw]
  cases e : hl A x with
  | false => rw [Bool.and_false]
  | true => obtain ⟨p, -, -, -, q⟩ := loose_st hI e; rw [q]; rfl
theorem mw5 {A : AH} : ∀ j, mwU A 5 j = gmU A j
  | 0 => rfl
  | j + 1 => by
    unfold mwU gmU
    rw [mw5 j]
    have e : vw5 A 5 j = nI (rk A j) := rfl
    rw [e]
    congr 1
    by_cases c : gmU A j < nI (rk A j)
    · rw [if_pos c, if_neg (nle_lt c)]
    · rw [if_neg c, if_pos (le_toInt c)]
theorem mw8 {A : AH} : ∀ j, mwU A 8 j = lgU A 40 j
  | 0 => rfl
  | j + 1 => by
    unfold mwU lgU
    rw [mw8 j]
    have e : vw5 A 8 j = nI (dpF A 40 (hp A j)) + 1 := rfl
    rw [e]
    congr 1
    by_cases c : lgU A 40 j < nI (dpF A 40 (hp A j)) + 1
    · rw [if_pos c, if_neg (nle_lt c)]
    · rw [if_neg c, if_pos (le_toInt c)]
set_option maxRecDepth 20000 in
theorem m_told (hC : ClA C) (hW : MW W M) (hI : WI k W) {w : Int32} (h : ∀ M', MW W M' → FN M M' → Q (some (vi (p_told W w))) M') : C (d + 3) n_X7_told [vr 21 0, vi w] M Q := by
  refine hC.X7_told (d + 2) _ M Q (fun P go => ?_)
  refine go [] 99 _ _ _ _ ?_
  refine m_own hC hW.1 hW.2.1 (fun M1 hM1 hF1 _ => ?_)
  have hs0 := MW_same hW hM1.D hM1.2 hF1
  replace h := h M1 hs0.1 hs0.2
  unfold p_told at h
  refine ⟨fun e => ?_, fun n0 => ⟨fun e => ?_, fun n1 => ⟨fun e => ?_, fun n2 => ⟨fun e => ?_, fun n3 => ⟨fun e => ?_, fun n4 => ⟨fun e => ?_, fun n5 => ⟨fun e => ?_, fun n6 => ⟨fun e => ?_, fun n7 => ⟨fun e => ?_, fun n8 => ⟨fun e => ?_, fun n9 => ⟨fun e => ?_, fun n10 => ?_⟩⟩⟩⟩⟩⟩⟩⟩⟩⟩⟩
  · subst e
    replace h : Q (some (vi (nI (hn W.1)))) M1 := h
    rw [← hM1.2] at h
    exact h
  · subst e; exact m_standing hC hM1.1 h
  · subst e
    refine m_soonest hC hM1.1 ?_
    rw [enb0]
    exact h
  · subst e
    refine m_many hC hM1 hI.1 ?_
    rw [if_neg (by decide), pw3]
    exact h
  · subst e
    refine m_many hC hM1 hI.1 ?_
    rw [if_neg (by decide), pw4 hI.1 (by decide)]
    exact h
  · subst e
    refine m_many hC hM1 hI.1 ?_
    rw [if_pos (by decide), mw5]
    exact h
  · subst e
    replace h : Q (some (vi (nI (lk W.1)))) M1 := h
    have e8 := hM1.1.2.2.2.1
    rw [Nat.zero_add] at e8
    rw [← e8] at h
    exact h
  · subst e
    replace h : Q (some (vi (nI (ct W.1)))) M1 := h
    have e9 := hM1.1.2.2.2.2.1
    rw [Nat.zero_add] at e9
    rw [← e9] at h
    exact h
  · subst e
    refine m_many hC hM1 hI.1 ?_
    rw [if_pos (by decide), mw8]
    exact h
  · subst e
    replace h : Q (some (vi (nI W.2.2.1.1))) M1 := h
    rw [← hs0.1.2.2.2.1.1] at h
    exact h
  · subst e
    replace h : Q (some (vi (nI W.2.2.1.2.1))) M1 := h
    rw [← hs0.1.2.2.2.1.2.1] at h
    exact h
  · rw [if_neg n0, if_neg n1, if_neg n2, if_neg n3, if_neg n4, if_neg n5, if_neg n6, if_neg n7, if_neg n8, if_neg n9, if_neg n10] at h
    exact h
theorem frD_find (p : Nat → Bool) (n : Nat) : frD p n n = (List.range n).find? p := by
  cases e : frD p n n with
  | none => exact (fi_none (fun x hx => frD_none n (Nat.le_refl _) e x (by omega) hx)).symm
  | some x =>
    obtain ⟨-, a2, a3, a4⟩ := frD_some n (Nat.le_refl _) e
    exact (fi_some n a2 a3 (fun z hz => a4 z (by omega) hz)).symm
set_option maxRecDepth 20000 in
theorem m_loose (hC : ClA C) (hW : MW W M) (hI : WI k W) {r : Int32} (h : ∀ M', MW W M' → FN M M' → Q (some (vi (p_loose W r))) M') : C (d + 3) n_X7_loose [vr 21 0, vi r] M Q := by
  refine hC.X7_loose (d + 2) _ M Q (fun P go => ?_)
  refine go [] 99 _ _ _ _ ?_
  refine m_own hC hW.1 hW.2.1 (fun M1 hM1 hF1 _ => ?_)
  have hs0 := MW_same hW hM1.D hM1.2 hF1
  replace h := h M1 hs0.1 hs0.2
  unfold p_loose at h
  refine ⟨fun c => ?_, fun c => ?_⟩
  · rw [if_pos c] at h
    refine m_ofRank (b := 0) (m := 0) hC hM1.1 hI.1 true (Nat.zero_le _) ?_
    rw [enb0]
    have e : ofR W.1 true r 0 = lOf W.1 r := by
      unfold ofR lOf
      rw [Nat.sub_zero, frD_find]
      rfl
    rw [e]
    exact h
  · rw [if_neg c] at h
    exact h
end MOPS

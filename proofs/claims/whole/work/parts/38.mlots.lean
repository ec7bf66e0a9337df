/-! THE LOTS: the reference's side -/
section MLOTS
variable {C : Nat → CP} {d k : Nat} {W : WS} {A : AH} {M : AM} {Q : RP} {x : Nat}
set_option maxRecDepth 20000 in
theorem m_drawn (hC : ClA C) (h2 : M.2 1 = lN x) (hx : x < 2147483647) {b : Nat} (hb0 : 0 < b) (hb : b < 2 ^ 31) (h : Q (some (vi (nI (nx x % b)))) (ul M 1 (lN (nx x)))) : C (d + 1) n_X7_drawn [vr 21 0, vi (nI b)] M Q := by
  refine hC.X7_drawn d _ M Q (fun P go => ?_)
  refine go [] 99 _ _ _ _ ⟨by decide, ?_⟩
  have e1 : M.2 1 * 16807 - M.2 1 * 16807 / 2147483647 * 2147483647 = lN (nx x) := by rw [h2]; exact nx_l hx
  obtain ⟨b1, b2'⟩ := by_l (y := nx x) (b := b) (nx_lt x) hb0 hb
  have key : ∀ v : Int64, v = lN (nx x) → Q (some (vi ((ul M 1 v).2 1 - (ul M 1 v).2 1 / (nI b).toInt64 * (nI b).toInt64).toInt32)) (ul M 1 v) := by
    intro v hv
    subst hv
    rw [ul_at, b2']
    exact h
  exact ⟨b1, key _ e1⟩
set_option maxRecDepth 20000 in
theorem m_standingAt (hC : ClA C) (hR : MR 0 0 0 A M) {k j : Nat} (hk1 : k < 2 ^ 31) (he : sAt A k = some j) (h : Q (some (vi (nI j))) M) : C (d + 1) n_X7_standingAt [vr 21 0, vi (nI k)] M Q := by
  obtain ⟨hj, hs1, hc1⟩ := sAt_ok he
  have h48 := hR.2.2.2.2.2.1
  refine hC.X7_standingAt d _ M Q (fun P go => ?_)
  have mono : ∀ y, y ≤ j → cU (hs A) y ≤ k := by
    intro y hy
    have : ∀ f y, y + f = j → cU (hs A) y ≤ cU (hs A) j := by
      intro f
      induction f with
      | zero => intro y e; rw [show y = j by omega]; exact Nat.le_refl _
      | succ f ih =>
        intro y e
        have := ih (y + 1) (by omega)
        rw [cU_s] at this
        omega
    have := this (j - y) y (by omega)
    omega
  have loop : ∀ f y, y + f = j → P 7 [some (vr 21 0), some (vi (nI k)), some (vi (nI (k - cU (hs A) y))), some (vi (nI y))] [] M := by
    intro f
    induction f with
    | zero =>
      intro y hy
      have ey : y = j := by omega
      subst ey
      obtain ⟨-, ij, cj, -, -, ks, -, -⟩ := hR.row hj
      rw [Nat.zero_add] at ij cj ks
      have e0 : k - cU (hs A) y = 0 := by omega
      rw [e0]
      refine go [(7, 4)] 99 _ _ _ _ ⟨ij, fun c => ?_, fun _ => ⟨fun _ => h, fun c => absurd (Int32.le_refl _) c⟩⟩
      rw [cj, ks, hs1] at c
      exact absurd c (by decide)
    | succ f ih =>
      intro y hy
      have hyn : y < hn A := by omega
      obtain ⟨-, ij, cj, -, -, ks, -, -⟩ := hR.row hyn
      rw [Nat.zero_add] at ij cj ks
      have nxt := ih (y + 1) (by omega)
      have hm := mono (y + 1) (by omega)
      rw [cU_s] at hm
      rw [← nI_1 y, cU_s] at nxt
      cases es : hs A y with
      | false =>
        rw [es] at nxt ks hm
        have e0 : nI (k - cU (hs A) y) - 0 = nI (k - (cU (hs A) y + 0)) := by
          rw [show (0 : Int32) = nI 0 from rfl, pk_sub (Nat.zero_le _)]; rfl
        have nxt : P 7 [some (vr 21 0), some (vi (nI k)), some (vi (nI (k - (cU (hs A) y + 0)))), some (vi (nI y + 1))] [] M := nxt
        rw [← e0] at nxt
        refine go [(7, 4)] 99 _ _ _ _ ⟨ij, fun _ => ⟨ij, fun _ => nxt, fun c => ?_⟩, fun c => ?_⟩ <;> rw [cj, ks] at c <;> exact absurd rfl c
      | true =>
        rw [es] at nxt ks hm
        have hm : cU (hs A) y + 1 ≤ k := hm
        have e0 : nI (k - cU (hs A) y) - 1 = nI (k - (cU (hs A) y + 1)) := by
          rw [show (1 : Int32) = nI 1 from rfl, pk_sub (by omega)]
          exact congrArg nI (by omega)
        have nxt : P 7 [some (vr 21 0), some (vi (nI k)), some (vi (nI (k - (cU (hs A) y + 1)))), some (vi (nI y + 1))] [] M := nxt
        rw [← e0] at nxt
        refine go [(7, 4)] 99 _ _ _ _ ⟨ij, fun c => ?_, fun _ => ⟨fun c => ?_, fun _ => ⟨ij, fun c => ?_, fun _ => nxt⟩⟩⟩
        · rw [cj, ks] at c; exact absurd c (by decide)
        · have := (nI_le0 (by omega)).mp c
          omega
        · rw [cj, ks] at c; exact absurd c (by decide)
  have e10 := hR.1
  have := loop j 0 (by omega)
  have key : ∀ v : Int32, v = nI 0 → P 7 [some (vr 21 0), some (vi (nI k)), some (vi (nI k)), some (vi v)] [] M := by
    intro v hv
    subst hv
    exact this
  exact go [(7, 4)] 99 _ _ _ _ (key _ e10)
theorem sub_toInt {x : Int32} {b : Nat} (hx : KeyOk x) (hb : b < 100) : (x - nI b).toInt = x.toInt - b := by
  unfold KeyOk at hx
  rw [Int32.toInt_sub, nI_toInt (by omega), Int.bmod_def]
  split <;> omega
theorem low_key {x : Int32} {b : Nat} (hx : KeyOk x) (hb : b < 100) : btw (x - nI b) (-9999) 9999 = !decide (x - nI b < -9999) := by
  have e := sub_toInt hx hb
  unfold KeyOk at hx
  unfold btw
  have e1 : (9999 : Int32).toInt = 9999 := by decide
  have e2 : (-9999 : Int32).toInt = -9999 := by decide
  by_cases q : x - nI b < -9999
  · rw [decide_eq_true q]
    rw [Int32.lt_iff_toInt_lt] at q
    rw [decide_eq_false (by rw [Int32.le_iff_toInt_le]; omega)]
    rfl
  · rw [decide_eq_false q]
    rw [Int32.lt_iff_toInt_lt] at q
    rw [decide_eq_true (by rw [Int32.le_iff_toInt_le]; omega), decide_eq_true (by rw [Int32.le_iff_toInt_le]; omega)]
    rfl
def ML (A : AH) (x : Nat) (M : AM) : Prop := MD 0 0 0 A M ∧ M.1 21 0 0 = nI (hn A) ∧ M.2 1 = lN x
set_option maxRecDepth 20000 in
theorem m_lot (hC : ClA C) (hM : ML A x M) (hx : x < 2147483647) (hI : Inv A) (hlk : lk A + 1000 < 2 ^ 30) (h : ∀ M', ML (lot1 (A, x)).1 (lot1 (A, x)).2 M' → FX M M' → Q none M') : C (d + 6) n_X7_lot [vr 21 0] M Q := by
  obtain ⟨hD, hn0, h2⟩ := hM
  have h40 := hI.2.2.2.2.2.2.1
  have hle := cU_le (hs A) (hn A)
  refine hC.X7_lot (d + 5) _ M Q (fun P go => ?_)
  refine go [(56, 2)] 99 _ _ _ _ ?_
  refine m_own hC hD hn0 (fun M1 hM1 hF1 e21 => ?_)
  rw [← e21] at h2
  refine m_drawn (b := 4) hC h2 hx (by omega) (by omega) ?_
  have hR2 : MR 0 0 0 A (ul M1 1 (lN (nx x))) := hM1.1
  have hn2 : (ul M1 1 (lN (nx x))).1 21 0 0 = nI (hn A) := hM1.2
  have h22 : (ul M1 1 (lN (nx x))).2 1 = lN (nx x) := ul_at _ 1 _
  have hF2 : FX M (ul M1 1 (lN (nx x))) := hF1
  generalize ul M1 1 (lN (nx x)) = M2 at hR2 hn2 h22 hF2
  have h4 : nx x % 4 < 4 := Nat.mod_lt _ (by omega)
  unfold lot1 at h
  replace h : ∀ M', ML (if nx x % 4 < 2 then putL A (nx x) else if nx x % 4 = 2 then lowL A (nx x) else takL A (nx x)).1 (if nx x % 4 < 2 then putL A (nx x) else if nx x % 4 = 2 then lowL A (nx x) else takL A (nx x)).2 M' → FX M M' → Q none M' := h
  generalize hw : nx x % 4 = w at h h4
  have hl2 := nI_leI (a := 2) (b := w) (by omega) (by omega)
  -- ends
  have t119 : ∀ M3, w ≠ 3 → Q none M3 → P 119 [some (vr 21 0), some (vi (nI w))] [] M3 := fun M3 hw3 hq =>
    go [] 99 _ _ _ _ ⟨fun _ => hq, fun c => absurd (nI_inj (a := w) (b := 3) (by omega) (by omega) c) hw3⟩
  have t56 : ∀ M3, w < 2 → Q none M3 → P 56 [some (vr 21 0), some (vi (nI w))] [] M3 := fun M3 hw3 hq =>
    go [(119, 2)] 99 _ _ _ _ ⟨fun _ => t119 M3 (by omega) hq, fun c => absurd (nI_inj (a := w) (b := 2) (by omega) (by omega) c) (by omega)⟩
  have t3 : w = 3 → P 119 [some (vr 21 0), some (vi (nI w))] [] M2 := by
    intro hw3
    subst hw3
    have h : ∀ M', ML (takL A (nx x)).1 (takL A (nx x)).2 M' → FX M M' → Q none M' := h
    unfold takL at h
    refine go [] 99 _ _ _ _ ⟨fun c => absurd rfl c, fun _ => ?_⟩
    refine m_standing hC hR2 ?_
    cases e : soonA A with
    | none =>
      rw [e] at h
      have e0 : cU (hs A) (hn A) = 0 := sstU_none _ e
      rw [e0]
      exact ⟨fun _ => h M2 ⟨hR2.2.2, hn2, h22⟩ hF2, fun c => absurd (Int32.le_refl _) c⟩
    | some j =>
      rw [e] at h
      have hj := sstU_lt _ e
      have h0 := cU_pos hj.2 _ hj.1
      refine ⟨fun c => absurd h0 ((nI_le0 (by omega)).mp c), fun _ => ?_⟩
      refine m_soonest hC hR2 ?_
      rw [e]
      refine m_remove hC hR2 hI hj.1 (by omega) (fun M3 hR3 hF3 => ?_)
      have ht := takeA_inv hI j
      exact h M3 ⟨hR3.2.2, by rw [hF3.1 21 0 0 (by omega) (by omega), hn2]; exact congrArg nI ht.2.1.symm, by rw [hF3.2]; exact h22⟩ (hF2.tr hF3.X)
  have t2 : w = 2 → P 56 [some (vr 21 0), some (vi (nI w))] [] M2 := by
    intro hw2
    subst hw2
    have h : ∀ M', ML (lowL A (nx x)).1 (lowL A (nx x)).2 M' → FX M M' → Q none M' := h
    unfold lowL at h
    have hx1 := nx_lt x
    generalize nx x = x1 at h h22 hx1
    refine go [(119, 2)] 99 _ _ _ _ ⟨fun c => absurd rfl c, fun _ => ?_⟩
    refine m_standing hC hR2 ?_
    have hmm := fun k => @sAt_ex A k
    generalize hcc : cU (hs A) (hn A) = c at h hle hmm
    refine ⟨fun c1 => ?_, fun c1 => ?_⟩
    · rw [if_neg ((nI_le0 (by omega)).mp c1)] at h
      exact t119 M2 (by omega) (h M2 ⟨hR2.2.2, hn2, h22⟩ hF2)
    · have hc0 : 0 < c := by
        rcases Nat.lt_or_ge 0 c with q | q
        · exact q
        · exact absurd ((nI_le0 (by omega)).mpr (by omega)) c1
      rw [if_pos hc0] at h
      refine m_standing hC hR2 ?_
      rw [hcc]
      have hm : nx x1 % c < c := Nat.mod_lt _ hc0
      obtain ⟨j, ej⟩ := hmm _ hm
      have hj := (sAt_ok ej).1
      refine m_drawn (b := c) hC h22 hx1 hc0 (by omega) ?_
      have hR3 : MR 0 0 0 A (ul M2 1 (lN (nx x1))) := hR2
      refine m_standingAt hC hR3 (by omega) ej ?_
      refine m_drawn (b := 100) hC (ul_at M2 1 _) (nx_lt _) (by omega) (by omega) ?_
      have hR4 : MR 0 0 0 A (ul (ul M2 1 (lN (nx x1))) 1 (lN (nx (nx x1)))) := hR2
      have h24 : (ul (ul M2 1 (lN (nx x1))) 1 (lN (nx (nx x1)))).2 1 = lN (nx (nx x1)) := ul_at _ 1 _
      have hn4 : (ul (ul M2 1 (lN (nx x1))) 1 (lN (nx (nx x1)))).1 21 0 0 = nI (hn A) := hn2
      have hF4 : FX M (ul (ul M2 1 (lN (nx x1))) 1 (lN (nx (nx x1)))) := hF2
      generalize ul (ul M2 1 (lN (nx x1))) 1 (lN (nx (nx x1))) = M4 at hR4 h24 hn4 hF4
      have hb100 : nx (nx x1) % 100 < 100 := Nat.mod_lt _ (by omega)
      rw [ej] at h
      generalize nx (nx x1) % 100 = b at h hb100
      replace h : ∀ M', ML (if 0 < b then cond (btw (hk A j - nI b) (-9999) 9999) (lowA A j (hk A j - nI b)) A else A) (nx (nx x1)) M' → FX M M' → Q none M' := h
      refine ⟨fun q => ?_, fun q => ?_⟩
      · have q' := (nI_le0 (by omega)).mp q
        rw [if_neg q'] at h
        exact t119 M4 (by omega) (h M4 ⟨hR4.2.2, hn4, h24⟩ hF4)
      · have hb0 : 0 < b := by
          rcases Nat.lt_or_ge 0 b with q2 | q2
          · exact q2
          · exact absurd ((nI_le0 (by omega)).mpr (by omega)) q
        rw [if_pos hb0] at h
        obtain ⟨-, ij, cj, -, kk, -, -, -⟩ := hR4.row hj
        rw [Nat.zero_add] at ij cj kk
        have lkk := low_key (hI.2.2.2.2.2.2.2 j hj).1 hb100
        refine ⟨ij, fun c3 => ?_, fun c3 => ⟨ij, ?_⟩⟩ <;> rw [cj, kk] at c3
        · rw [decide_eq_true c3] at lkk
          rw [lkk] at h
          exact t119 M4 (by omega) (h M4 ⟨hR4.2.2, hn4, h24⟩ hF4)
        · rw [decide_eq_false c3] at lkk
          have hy := btw_key lkk
          rw [lkk] at h
          refine C_arg (As' := [vr 21 0, vi (nI (0 + j)), vi (hk A j - nI b)]) (by rw [cj, kk, Nat.zero_add]) (m_lowerTo hC hR4 hI hj hy (by omega) (fun M5 hR5 hF5 => ?_))
          have hn5 := (lowA_inv hI hy (j := j)).2.1
          have e0 : M5.1 21 0 0 = nI (hn (lowA A j (hk A j - nI b))) := by rw [hF5.1 21 0 0 (by omega) (by omega), hn5]; exact hn4
          exact t119 M5 (by omega) (h M5 ⟨hR5.2.2, e0, by rw [hF5.2]; exact h24⟩ (hF4.tr hF5.X))
  refine ⟨fun c => ?_, fun c => ⟨fun c2 => ?_, fun c2 => ?_⟩⟩
  · have q1 := hl2.mp c
    rcases (show w = 2 ∨ w = 3 by omega) with q | q
    · exact t2 q
    · have := t3 q
      exact go [(119, 2)] 99 _ _ _ _ ⟨fun _ => this, fun c => absurd (nI_inj (a := w) (b := 2) (by omega) (by omega) c) (by omega)⟩
  all_goals
    have hw2 : w < 2 := by
      rcases Nat.lt_or_ge w 2 with q | q
      · exact q
      · exact absurd (hl2.mpr q) c
    rw [if_pos hw2] at h
    unfold putL at h
    rw [hn2] at c2
  · have hge : ¬ hn A < 40 := fun q => nI_ge (a := hn A) (b := 40) q (by omega) c2
    rw [if_neg hge] at h
    exact t56 M2 hw2 (h M2 ⟨hR2.2.2, hn2, h22⟩ hF2)
  · have hlt : hn A < 40 := by
      rcases Nat.lt_or_ge (hn A) 40 with q | q
      · exact q
      · exact absurd (by rw [show hn A = 40 by omega]; exact Int32.le_refl _) c2
    rw [if_pos hlt] at h
    have hx1 := nx_lt x
    generalize nx x = x1 at h h22 hx1
    refine m_drawn (b := 2) hC h22 hx1 (by omega) (by omega) ?_
    refine m_drawn (b := 1000) hC (ul_at M2 1 _) (nx_lt _) (by omega) (by omega) ?_
    have hR4 : MR 0 0 0 A (ul (ul M2 1 (lN (nx x1))) 1 (lN (nx (nx x1)))) := hR2
    have h24 : (ul (ul M2 1 (lN (nx x1))) 1 (lN (nx (nx x1)))).2 1 = lN (nx (nx x1)) := ul_at _ 1 _
    have hn3 : (ul M2 1 (lN (nx x1))).1 21 0 0 = nI (hn A) := hn2
    have hn4 : (ul (ul M2 1 (lN (nx x1))) 1 (lN (nx (nx x1)))).1 21 0 0 = nI (hn A) := hn2
    have hF4 : FX M (ul (ul M2 1 (lN (nx x1))) 1 (lN (nx (nx x1)))) := hF2
    generalize ul (ul M2 1 (lN (nx x1))) 1 (lN (nx (nx x1))) = M4 at hR4 h24 hn4 hF4
    generalize nI (nx x1 % 2) = a at h
    generalize nI (nx (nx x1) % 1000) = b at h
    refine C_arg (As' := [vr 21 0, vi (nI (0 + hn A)), vi a, vi b]) (by rw [hn3, Nat.zero_add]) (m_add hC hR4.2.2 hR4.1 hI (by omega) (fun M5 hR5 hF5 h25 => ?_))
    have e0 : M5.1 21 0 0 = nI (hn A) := by rw [hF5 21 0 0 (by omega) (by omega)]; exact hn4
    have hD6 : MD 0 0 0 (addj A a b) (um M5 21 0 0 (M5.1 21 0 0 + 1)) := MD_um hR5.2.2 (fun i hi => by rw [um_at, if_neg (by omega)]) (fun x i h1 h2 => by rw [um_at, if_neg (by omega)])
    have e3 : (um M5 21 0 0 (M5.1 21 0 0 + 1)).1 21 0 0 = nI (hn (addj A a b)) := by
      rw [um_at, if_pos ⟨rfl, rfl, rfl⟩, e0]; exact nI_1 _
    have hF6 : FX M (um M5 21 0 0 (M5.1 21 0 0 + 1)) := (hF4.tr (fun x u i q1 q2 => hF5 x u i (by omega) (by omega))).u0 (by omega)
    exact t56 _ hw2 (h _ ⟨hD6, e3, by show M5.2 1 = _; rw [h25]; exact h24⟩ hF6)
set_option maxRecDepth 20000 in
theorem m_drift (hC : ClA C) (hW : MW W M) (hI : WI k W) (hk : k ≤ 512) {n s : Int32} (h : ∀ M', MW (p_drift W n s).2 M' → FN M M' → Q (some (vi (p_drift W n s).1)) M') : C (d + 7) n_X7_drift [vr 21 0, vi n, vi s] M Q := by
  have hlk := hI.2.1
  refine hC.X7_drift (d + 6) _ M Q (fun P go => ?_)
  refine go [(31, 4)] 99 _ _ _ _ ?_
  unfold p_drift at h
  refine m_in hC ⟨fun c => ?_, fun c => ?_⟩
  · rw [b2_0 c, Bool.false_and] at h
    exact h M hW (fun _ _ _ _ => rfl)
  · have e1 := b2_n0 c
    rw [e1, Bool.true_and] at h
    refine m_in hC ⟨fun c2 => ?_, fun c2 => ?_⟩
    · have e2 := b2_n0 c2
      rw [e2] at h
      obtain ⟨hn1, hn2, hn3⟩ := btw_nat (lo := 1) (hi := 40) (by omega) (by omega) e1
      obtain ⟨hs1, hs2, hs3⟩ := btw_nat (lo := 1) (hi := 999999) (by omega) (by omega) e2
      replace h : ∀ M', MW (wA W (lotsN (jx n) (W.1, jx s)).1) M' → FN M M' → Q (some (vi (nI (cU (hs (lotsN (jx n) (W.1, jx s)).1) (hn (lotsN (jx n) (W.1, jx s)).1))))) M' := h
      generalize jx n = m at hn1 hn2 hn3 h
      generalize jx s = y at hs1 hs2 hs3 h
      subst hn1
      subst hs1
      have loop : ∀ f i (M1 : AM), i + f = m → ML (lotsN i (W.1, y)).1 (lotsN i (W.1, y)).2 M1 → (lotsN i (W.1, y)).2 < 2147483647 → FX M M1 → P 31 [some (vr 21 0), some (vi (nI m)), some (vi (nI y)), some (vi (nI i))] [] M1 := by
        intro f
        induction f with
        | zero =>
          intro i M1 hi hL hx1 hf
          have ei : i = m := by omega
          subst ei
          refine go [] 99 _ _ _ _ ⟨fun _ => ?_, fun c => absurd (nI_le (Nat.le_refl _) (by omega)) c⟩
          refine m_own hC hL.1 hL.2.1 (fun M2 hM2 hF2 _ => ?_)
          refine m_standing hC hM2.1 ?_
          have := MW_heap hW hM2.D hM2.2 (hf.tr hF2)
          exact h M2 this.1 this.2
        | succ f ih =>
          intro i M1 hi hL hx1 hf
          have hin : i < m := by omega
          refine go [(31, 4)] 99 _ _ _ _ ⟨fun c => absurd c (nI_ge hin (by omega)), fun _ => ?_⟩
          have hI1 := lotsN_inv i (s := (W.1, y)) hI.1
          have hI1b : lk (lotsN i (W.1, y)).1 ≤ lk W.1 + 80 * i := hI1.2
          refine m_lot hC hL hx1 hI1.1 (by omega) (fun M2 hL2 hf2 => ?_)
          have es : lotsN (i + 1) (W.1, y) = lot1 ((lotsN i (W.1, y)).1, (lotsN i (W.1, y)).2) := lotsN_s i _
          have hx2 := (lot1_inv (s := ((lotsN i (W.1, y)).1, (lotsN i (W.1, y)).2)) hI1.1).2.2
          rw [← es] at hL2 hx2
          have := ih (i + 1) M2 (by omega) hL2 hx2 (hf.tr hf2)
          rw [← nI_1] at this
          exact this
      have st := loop m 0 (ul M 1 (lN y)) (by omega) ⟨hW.1, hW.2.1, ul_at _ 1 _⟩ (by show y < _; omega) (fun _ _ _ _ _ => rfl)
      rw [← nI_l (by omega)] at st
      exact st
    · rw [b2_0 c2] at h
      exact h M hW (fun _ _ _ _ => rfl)
end MLOTS

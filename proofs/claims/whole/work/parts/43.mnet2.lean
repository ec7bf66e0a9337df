/-! THE NET: the reference's answers -/
theorem or_add {a b : Int32} (h : a.toBitVec &&& b.toBitVec = 0#32) : a ||| b = a + b := Int32.toBitVec_inj.mp (by
  rw [Int32.toBitVec_or, Int32.toBitVec_add]; exact (BitVec.add_eq_or_of_and_eq_zero _ _ h).symm)
abbrev shr (r : Nat) : Int32 := (1 : Int32) <<< (nI r &&& 31)
theorem sbits : ∀ r : Fin 14, (shr r.1).toBitVec = BitVec.twoPow 32 r.1 := by decide
theorem rd_bit {f : Nat → Option Nat} (h : ∀ x r, f x = some r → r < 14) : ∀ x i, (rdU f x).toBitVec.getLsbD i = true → ∃ y, y < x ∧ f y = some i
  | 0, i, hb => by
    exfalso
    have e : (rdU f 0).toBitVec = 0#32 := rfl
    rw [e, BitVec.getLsbD_zero] at hb
    cases hb
  | x + 1, i, hb => by
    unfold rdU at hb
    cases e : f x with
    | none =>
      rw [e] at hb
      obtain ⟨y, a, b⟩ := rd_bit h x i hb
      exact ⟨y, by omega, b⟩
    | some r =>
      rw [e] at hb
      replace hb : (rdU f x ||| shr r).toBitVec.getLsbD i = true := hb
      rw [Int32.toBitVec_or, BitVec.getLsbD_or, Bool.or_eq_true] at hb
      rcases hb with q | q
      · obtain ⟨y, a, b⟩ := rd_bit h x i q
        exact ⟨y, by omega, b⟩
      · rw [sbits ⟨r, h x r e⟩, BitVec.getLsbD_twoPow] at q
        simp at q
        exact ⟨x, by omega, by rw [e, q.2]⟩
theorem rd_add {f : Nat → Option Nat} (h : ∀ x r, f x = some r → r < 14) (hd : ∀ x y r, f x = some r → f y = some r → x = y) {x r : Nat} (e : f x = some r) : rdU f x ||| shr r = rdU f x + shr r := by
  apply or_add
  rw [sbits ⟨r, h x r e⟩]
  apply BitVec.eq_of_getLsbD_eq
  intro i hi
  rw [BitVec.getLsbD_and, BitVec.getLsbD_twoPow, BitVec.getLsbD_zero]
  cases hb : (rdU f x).toBitVec.getLsbD i with
  | false => rfl
  | true =>
    obtain ⟨y, a, b⟩ := rd_bit h x i hb
    have : r ≠ i := fun q => by
      subst q
      have := hd y x r b e
      omega
    simp [this]
section MNET2
variable {C : Nat → CP} {d k : Nat} {W : WS} {A : AH} {M : AM} {Q : RP} {T : NT} {s : NG} {B : Nat}
set_option maxRecDepth 20000 in
theorem m_hanging (hC : ClA C) (hM : MLaid T s M) (hN : NW T M) (hT : NI T) (hG : GI T B s) {mk : Bool} (h : Q (some (vi (cond mk (rdU s.2.1 T.1) (wtU T s.2.1 T.1)))) M) : C (d + 1) n_X7_hanging [vr 21 0, vi (b2 mk)] M Q := by
  have h8 := hT.1
  have h14 := hT.2.1
  have hlt : ∀ x r, s.2.1 x = some r → r < 14 := fun x r e => by have := (hG.2.2.2.1 x r e).1; omega
  refine hC.X7_hanging d _ M Q (fun P go => ?_)
  have loop : ∀ f x, x + f = T.1 → P 4 [some (vr 21 0), some (vi (b2 mk)), some (vi (cond mk (rdU s.2.1 x) (wtU T s.2.1 x))), some (vi (nI x))] [] M := by
    intro f
    induction f with
    | zero =>
      intro x hx
      have ex : x = T.1 := by omega
      subst ex
      exact go [] 99 _ _ _ _ ⟨fun _ => h, fun c => absurd (by rw [hN.1]; exact nI_le (Nat.le_refl _) (by omega)) c⟩
    | succ f ih =>
      intro x hx
      have hxT : x < T.1 := by omega
      have nxt := ih (x + 1) (by omega)
      rw [← nI_1] at nxt
      unfold rdU wtU at nxt
      have ix : vp_in (nI x) 8 := vp_in_nI (by omega) (by omega)
      have cx : (nI x).toNatClampNeg = x := nI_clamp (by omega)
      have eh := hM.1 x hxT
      cases e : s.2.1 x with
      | none =>
        rw [e] at nxt eh
        replace nxt : P 4 [some (vr 21 0), some (vi (b2 mk)), some (vi (cond mk (rdU s.2.1 x) (wtU T s.2.1 x))), some (vi (nI x + 1))] [] M := nxt
        rw [← Int32.add_zero (cond mk (rdU s.2.1 x) (wtU T s.2.1 x))] at nxt
        refine go [(4, 4)] 99 _ _ _ _ ⟨fun c => absurd (by rw [hN.1] at c; exact c) (nI_ge hxT (by omega)), fun _ => ⟨ix, fun c => ?_, fun c => nxt⟩⟩
        rw [cx, eh] at c
        exact absurd rfl c
      | some r =>
        have hr := (hG.2.2.2.1 x r e).1
        have er := rd_add hlt hG.2.2.2.2 e
        rw [e] at nxt eh
        have ir : vp_in (nI r) 14 := vp_in_nI (by omega) (by omega)
        have cr : (nI r).toNatClampNeg = r := nI_clamp (by omega)
        have ew := (hN.2.2 r hr).2.2
        refine go [(4, 4)] 99 _ _ _ _ ⟨fun c => absurd (by rw [hN.1] at c; exact c) (nI_ge hxT (by omega)), fun _ => ⟨ix, fun c => ⟨fun c2 => ⟨ix, ?_⟩, fun c2 => ⟨ix, ?_⟩⟩, fun c => ?_⟩⟩
        · have e0 := b2_0 c2
          subst e0
          replace nxt : P 4 [some (vr 21 0), some (vi (b2 false)), some (vi (wtU T s.2.1 x + T.2.2.2.2 r)), some (vi (nI x + 1))] [] M := nxt
          have key : ∀ v : Int32, v = nI r → vp_in v 14 ∧ P 4 [some (vr 21 0), some (vi (b2 false)), some (vi (wtU T s.2.1 x + M.1 31 0 v.toNatClampNeg)), some (vi (nI x + 1))] [] M := by
            intro v hv
            subst hv
            rw [cr, ew]
            exact ⟨ir, nxt⟩
          exact key _ (by rw [cx]; exact eh)
        · have e0 := b2_n0 c2
          subst e0
          replace nxt : P 4 [some (vr 21 0), some (vi (b2 true)), some (vi (rdU s.2.1 x ||| shr r)), some (vi (nI x + 1))] [] M := nxt
          rw [er] at nxt
          have key : ∀ v : Int32, v = nI r → P 4 [some (vr 21 0), some (vi (b2 true)), some (vi (rdU s.2.1 x + ((1 : Int32) <<< (v &&& 31)))), some (vi (nI x + 1))] [] M := by
            intro v hv
            subst hv
            exact nxt
          exact key _ (by rw [cx]; exact eh)
        · rw [cx, eh] at c
          exact absurd c (nI_m1 (by omega))
  have st := loop T.1 0 (by omega)
  have e0 : cond mk (rdU s.2.1 0) (wtU T s.2.1 0) = 0 := by cases mk <;> rfl
  rw [e0] at st
  exact go [(4, 4)] 99 _ _ _ _ st
set_option maxRecDepth 20000 in
theorem m_tree (hC : ClA C) (hW : MW W M) (hI : WI k W) (hk5 : k ≤ 512) {a w : Int32} (h : ∀ M', MW W M' → FN M M' → Q (some (vi (p_tree W a w))) M') : C (d + 8) n_X7_tree [vr 21 0, vi a, vi w] M Q := by
  refine hC.X7_tree (d + 7) _ M Q (fun P go => ?_)
  refine go [(45, 3)] 99 _ _ _ _ ?_
  unfold p_tree at h
  have hT := hI.2.2.1
  refine m_isPlace hC hW.2.2.2.1 hT ⟨fun c => ?_, fun c => ?_⟩
  · have e1 := b2_n0 c
    rw [e1] at h
    obtain ⟨ha, haT⟩ := hasP_ok hT e1
    generalize jx a = p at ha haT h
    subst ha
    refine m_in hC ⟨fun c2 => ?_, fun c2 => ?_⟩
    · have eb := b2_n0 c2
      rw [eb] at h
      obtain ⟨b1, -, b3⟩ := btw_nat (lo := 0) (hi := 4) (by omega) (by omega) eb
      have hG := grown_GI hT false p
      refine m_lay (far := false) hC hW hI hk5 haT (fun M1 hw1 hw2 hL => ?_)
      replace h := h M1 hw1 hw2
      have t45 : ∀ (mk : Bool) (y : Int32), y = b2 mk → Q (some (vi (cond mk (rdU (grown W.2.2.1 false p).2.1 W.2.2.1.1) (wtU W.2.2.1 (grown W.2.2.1 false p).2.1 W.2.2.1.1)))) M1 → P 45 [some (vr 21 0), some (vi (nI p)), some (vi w)] [vi y, vr 21 0] M1 := by
        intro mk y hy hq
        subst hy
        refine go [] 99 _ _ _ _ ?_
        exact m_hanging hC hL hw1.2.2.2.1 hT hG hq
      obtain ⟨-, l19, l20, l21, -⟩ := hL
      rcases (show jx w = 0 ∨ jx w = 1 ∨ jx w = 2 ∨ jx w = 3 ∨ jx w = 4 by omega) with q | q | q | q | q <;> rw [q] at b1 <;> subst b1
      · exact ⟨fun c => absurd c (by decide), fun _ => ⟨fun _ => t45 false 0 rfl h, fun c => absurd c (by decide)⟩⟩
      · exact ⟨fun c => absurd c (by decide), fun _ => ⟨fun c => absurd rfl c, fun _ => t45 true 1 rfl h⟩⟩
      · replace h : Q (some (vi (nI (lk (grown W.2.2.1 false p).1)))) M1 := h
        rw [← l20] at h
        exact ⟨fun _ => ⟨fun c => absurd rfl c, fun _ => h⟩, fun c => absurd (by decide) c⟩
      · replace h : Q (some (vi (nI (ct (grown W.2.2.1 false p).1)))) M1 := h
        rw [← l21] at h
        exact ⟨fun _ => ⟨fun _ => ⟨fun c => absurd rfl c, fun _ => h⟩, fun c => absurd c (by decide)⟩, fun c => absurd (by decide) c⟩
      · replace h : Q (some (vi (nI (grown W.2.2.1 false p).2.2))) M1 := h
        rw [← l19] at h
        exact ⟨fun _ => ⟨fun _ => ⟨fun _ => h, fun c => absurd c (by decide)⟩, fun c => absurd c (by decide)⟩, fun c => absurd (by decide) c⟩
    · rw [b2_0 c2] at h
      exact h M hW (fun _ _ _ _ => rfl)
  · rw [b2_0 c] at h
    exact h M hW (fun _ _ _ _ => rfl)
set_option maxRecDepth 20000 in
theorem m_way (hC : ClA C) (hW : MW W M) (hI : WI k W) (hk5 : k ≤ 512) {a b : Int32} (h : ∀ M', MW W M' → FN M M' → Q (some (vi (p_way W a b))) M') : C (d + 8) n_X7_way [vr 21 0, vi a, vi b] M Q := by
  refine hC.X7_way (d + 7) _ M Q (fun P go => ?_)
  refine go [] 99 _ _ _ _ ?_
  unfold p_way at h
  have hT := hI.2.2.1
  have h8 := hT.1
  refine m_isPlace hC hW.2.2.2.1 hT ⟨fun c => ?_, fun c => ?_⟩
  · rw [b2_0 c, Bool.false_and] at h
    exact h M hW (fun _ _ _ _ => rfl)
  · have e1 := b2_n0 c
    rw [e1, Bool.true_and] at h
    obtain ⟨ha, haT⟩ := hasP_ok hT e1
    generalize jx a = p at ha haT h
    subst ha
    refine m_isPlace hC hW.2.2.2.1 hT ⟨fun c2 => ?_, fun c2 => ?_⟩
    · have e2 := b2_n0 c2
      rw [e2] at h
      obtain ⟨hb, hbT⟩ := hasP_ok hT e2
      generalize jx b = q at hb hbT h
      subst hb
      refine m_lay (far := true) hC hW hI hk5 haT (fun M1 hw1 hw2 hL => ?_)
      replace h : Q (some (vi (if hk (grown W.2.2.1 true p).1 q < 9999 then hk (grown W.2.2.1 true p).1 q else -1))) M1 := h M1 hw1 hw2
      have eq := hL.2.2.2.2 q hbT
      rw [← eq] at h
      have i40 : vp_in (40 + nI q) 48 := by rw [n40]; exact in48 (by omega)
      have c40 : (40 + nI q).toNatClampNeg = 40 + q := by rw [n40]; exact cl48 (by omega)
      rw [← c40] at h
      refine ⟨i40, fun c3 => ?_, fun c3 => ⟨i40, ?_⟩⟩
      · rw [if_neg (fun z => by rw [Int32.le_iff_toInt_le] at c3; rw [Int32.lt_iff_toInt_lt] at z; omega)] at h
        exact h
      · rw [if_pos (by rw [Int32.le_iff_toInt_le] at c3; rw [Int32.lt_iff_toInt_lt]; omega)] at h
        exact h
    · rw [b2_0 c2] at h
      exact h M hW (fun _ _ _ _ => rfl)
set_option maxRecDepth 20000 in
theorem m_ways (hC : ClA C) (hW : MW W M) (hI : WI k W) (hk5 : k ≤ 512) {a w : Int32} (h : ∀ M', MW W M' → FN M M' → Q (some (vi (p_ways W a w))) M') : C (d + 8) n_X7_ways [vr 21 0, vi a, vi w] M Q := by
  refine hC.X7_ways (d + 7) _ M Q (fun P go => ?_)
  refine go [(67, 5)] 99 _ _ _ _ ?_
  unfold p_ways at h
  have hT := hI.2.2.1
  have h8 := hT.1
  refine m_isPlace hC hW.2.2.2.1 hT ⟨fun c => ?_, fun c => ?_⟩
  · have e1 := b2_n0 c
    rw [e1] at h
    obtain ⟨ha, haT⟩ := hasP_ok hT e1
    generalize jx a = p at ha haT h
    subst ha
    refine m_in hC ⟨fun c2 => ?_, fun c2 => ?_⟩
    · have eb := b2_n0 c2
      rw [eb] at h
      obtain ⟨b1, -, b3⟩ := btw_nat (lo := 0) (hi := 3) (by omega) (by omega) eb
      refine m_lay (far := true) hC hW hI hk5 haT (fun M1 hw1 hw2 hL => ?_)
      replace h := h M1 hw1 hw2
      obtain ⟨-, l19, l20, l21, l23⟩ := hL
      have hN1 := hw1.2.2.2.1.1
      have loop : ∀ f x, x + f = W.2.2.1.1 → Q (some (vi (nI (cU (fun x => decide (hk (grown W.2.2.1 true p).1 x < 9999)) W.2.2.1.1)))) M1 → P 67 [some (vr 21 0), some (vi (nI p)), some (vi w), some (vi (nI (cU (fun x => decide (hk (grown W.2.2.1 true p).1 x < 9999)) x))), some (vi (nI x))] [] M1 := by
        intro f
        induction f with
        | zero =>
          intro x hx hq
          subst hx
          exact go [] 99 _ _ _ _ ⟨fun _ => hq, fun c => absurd (by rw [hN1]; exact nI_le (Nat.le_refl _) (by omega)) c⟩
        | succ f ih =>
          intro x hx hq
          have nxt := ih (x + 1) (by omega) hq
          rw [← nI_1, cU_s, nI_c] at nxt
          have i40 : vp_in (40 + nI x) 48 := by rw [n40]; exact in48 (by omega)
          have c40 : (40 + nI x).toNatClampNeg = 40 + x := by rw [n40]; exact cl48 (by omega)
          refine go [(67, 5)] 99 _ _ _ _ ⟨fun c => absurd (by rw [hN1] at c; exact c) (nI_ge (by omega) (by omega)), fun _ => ⟨i40, fun c => ?_, fun c => ?_⟩⟩ <;> rw [c40, l23 x (by omega)] at c
          · rw [decide_eq_false (fun z => by rw [Int32.le_iff_toInt_le] at c; rw [Int32.lt_iff_toInt_lt] at z; omega)] at nxt
            exact nxt
          · rw [decide_eq_true (by rw [Int32.le_iff_toInt_le] at c; rw [Int32.lt_iff_toInt_lt]; omega)] at nxt
            exact nxt
      rcases (show jx w = 0 ∨ jx w = 1 ∨ jx w = 2 ∨ jx w = 3 by omega) with q | q | q | q <;> rw [q] at b1 <;> subst b1
      · replace h : Q (some (vi (nI (lk (grown W.2.2.1 true p).1)))) M1 := h
        rw [← l20] at h
        exact ⟨fun c => absurd c (by decide), fun _ => ⟨fun c => absurd rfl c, fun _ => h⟩⟩
      · replace h : Q (some (vi (nI (ct (grown W.2.2.1 true p).1)))) M1 := h
        rw [← l21] at h
        exact ⟨fun c => absurd c (by decide), fun _ => ⟨fun _ => ⟨fun c => absurd rfl c, fun _ => h⟩, fun c => absurd c (by decide)⟩⟩
      · replace h : Q (some (vi (nI (grown W.2.2.1 true p).2.2))) M1 := h
        rw [← l19] at h
        exact ⟨fun c => absurd c (by decide), fun _ => ⟨fun _ => ⟨fun _ => h, fun c => absurd c (by decide)⟩, fun c => absurd c (by decide)⟩⟩
      · exact ⟨fun _ => loop W.2.2.1.1 0 (by omega) h, fun c => absurd (by decide) c⟩
    · rw [b2_0 c2] at h
      exact h M hW (fun _ _ _ _ => rfl)
  · rw [b2_0 c] at h
    exact h M hW (fun _ _ _ _ => rfl)
end MNET2

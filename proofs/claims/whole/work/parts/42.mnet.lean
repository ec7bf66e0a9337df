/-! THE NET: the reference's side -/
def MNet (T : NT) (l0 c0 : Nat) (s : NG) (M : AM) : Prop := MR 40 l0 c0 s.1 M ∧ (∀ x, x < T.1 → M.1 32 0 x = en (s.2.1 x)) ∧ M.1 21 0 19 = nI s.2.2 ∧ NW T M
def FY (M M' : AM) : Prop := ∀ a u i, ¬ (a = 21 ∧ u = 0 ∧ (i = 7 ∨ i = 8 ∨ i = 9 ∨ i = 10 ∨ i = 11 ∨ i = 19 ∨ i = 20 ∨ i = 21)) → ¬ (22 ≤ a ∧ a ≤ 27 ∧ u = 0 ∧ 40 ≤ i) → ¬ (a = 32 ∧ u = 0) → M'.1 a u i = M.1 a u i
theorem FY.rf {M : AM} : FY M M := fun _ _ _ _ _ _ => rfl
theorem FY.tr {M M1 M2 : AM} (h : FY M M1) (h' : FY M1 M2) : FY M M2 := fun a u i q1 q2 q3 => (h' a u i q1 q2 q3).trans (h a u i q1 q2 q3)
theorem FY_M {n : Nat} {M M' : AM} (h : FM 40 n M M') : FY M M' := fun a u i q1 q2 _ => h.1 a u i (by omega) (by omega)
theorem NW_FY {T : NT} {M M' : AM} (h : NW T M) (hF : FY M M') : NW T M' := by
  obtain ⟨n1, n2, n3⟩ := h
  refine ⟨by rw [hF 21 0 13 (by omega) (by omega) (by omega)]; exact n1, by rw [hF 21 0 14 (by omega) (by omega) (by omega)]; exact n2, fun i hi => ?_⟩
  rw [hF 29 0 i (by omega) (by omega) (by omega), hF 30 0 i (by omega) (by omega) (by omega), hF 31 0 i (by omega) (by omega) (by omega)]
  exact n3 i hi
theorem MR_fr {b l0 c0 : Nat} {A : AH} {M M' : AM} (h : MR b l0 c0 A M) (h0 : ∀ i, 7 ≤ i → i ≤ 11 → M'.1 21 0 i = M.1 21 0 i) (h1 : ∀ a i, 22 ≤ a → a ≤ 27 → M'.1 a 0 i = M.1 a 0 i) : MR b l0 c0 A M' :=
  ⟨by rw [h0 10 (by omega) (by omega)]; exact h.1, by rw [h0 11 (by omega) (by omega)]; exact h.2.1, MD_um h.2.2 (fun i hi => h0 i (by omega) (by omega)) h1⟩
section MNET
variable {C : Nat → CP} {d k : Nat} {W : WS} {A : AH} {M : AM} {Q : RP} {T : NT} {s : NG} {B l0 c0 : Nat}
theorem n40 (o : Nat) : 40 + nI o = nI (40 + o) := nI_add 40 o
set_option maxRecDepth 20000 in
theorem m_goFrom (hC : ClA C) (hM : MNet T l0 c0 s M) (hT : NI T) (hG : GI T B s) (hB : l0 + B + 1000 < 2 ^ 30) {a : Nat} {far : Bool} (haT : a < T.1) (ha : hs s.1 a = false) (h : ∀ M', MNet T l0 c0 (spr T a (vOf far s.1 a) s T.2.1) M' → FY M M' → Q none M') : C (d + 6) n_X7_goFrom [vr 21 0, vi (nI a), vi (b2 far)] M Q := by
  have h14 := hT.2.1
  have h8 := hT.1
  have hv : KeyOk (vOf far s.1 a) := vOf_ok hG.1 (by rw [hG.2.1]; exact haT)
  have hvk : far = true → vOf far s.1 a = hk s.1 a := fun e => by subst e; rfl
  have hv0 : far = false → vOf far s.1 a = 0 := fun e => by subst e; rfl
  generalize vOf far s.1 a = v at h hv hvk hv0
  refine hC.X7_goFrom (d + 5) _ M Q (fun P go => ?_)
  have loop : ∀ f r (M1 : AM), r + f = T.2.1 → MNet T l0 c0 (spr T a v s r) M1 → FY M M1 → P 2 [some (vr 21 0), some (vi (nI a)), some (vi (b2 far)), some (vi (nI r))] [] M1 := by
    intro f
    induction f with
    | zero =>
      intro r M1 hr hN hF
      have er : r = T.2.1 := by omega
      subst er
      exact go [] 99 _ _ _ _ ⟨fun _ => h M1 hN hF, fun c => absurd (by rw [hN.2.2.2.2.1]; exact nI_le (Nat.le_refl _) (by omega)) c⟩
    | succ f ih =>
      intro r M1 hr hN hF
      have hrT : r < T.2.1 := by omega
      obtain ⟨hG1, hs1, hk1⟩ := spr_inv hT hG hv ha r (by omega)
      have nxt := fun M2 => ih (r + 1) M2 (by omega)
      rw [← nI_1] at nxt
      have es : spr T a v s (r + 1) = spr1 T a v (spr T a v s r) r := rfl
      rw [es] at nxt
      clear ih es
      generalize spr T a v s r = s1 at hN hG1 nxt hk1
      have hN0 := hN
      obtain ⟨hR, hh, hl7, hNC⟩ := hN
      have ir : vp_in (nI r) 14 := vp_in_nI (by omega) (by omega)
      have cr : (nI r).toNatClampNeg = r := nI_clamp (by omega)
      obtain ⟨m1, m2, ew⟩ := hNC.2.2 r hrT
      obtain ⟨t1, t2, -, -⟩ := hT.2.2 r hrT
      have hlkb : lk s1.1 ≤ B + 8 * r := hG1.2.2.1
      have t49 : P 49 [some (vr 21 0), some (vi (nI a)), some (vi (b2 far)), some (vi (nI r))] [vi (en (acr T r a))] M1 := by
        unfold spr1 at nxt
        cases e : acr T r a with
        | none =>
          rw [e] at nxt
          exact go [(2, 4)] 99 _ _ _ _ ⟨fun _ => nxt M1 hN0 hF, fun c => absurd rfl c⟩
        | some o =>
          rw [e] at nxt
          obtain ⟨o1, o2, o3, o4⟩ := acr_ok hT hrT e
          have hon : o < hn s1.1 := by rw [hG1.2.1]; exact o1
          have han : a < hn s1.1 := by rw [hG1.2.1]; exact haT
          replace nxt : ∀ M2, MNet T l0 c0 (cond (hs s1.1 o && decide (v + T.2.2.2.2 r < hk s1.1 o)) (lowA s1.1 o (v + T.2.2.2.2 r), va_up s1.2.1 o (some r), s1.2.2 + 1) s1) M2 → FY M M2 → P 2 [some (vr 21 0), some (vi (nI a)), some (vi (b2 far)), some (vi (nI r + 1))] [] M2 := nxt
          obtain ⟨-, io, co, -, kk, ks, -, -⟩ := hR.row hon
          obtain ⟨-, ia, ca, -, ka, -, -, -⟩ := hR.row han
          have io' : vp_in (40 + nI o) 48 := by rw [n40]; exact io
          have ia' : vp_in (40 + nI a) 48 := by rw [n40]; exact ia
          have co' : (40 + nI o).toNatClampNeg = 40 + o := by rw [n40]; exact co
          have ca' : (40 + nI a).toNatClampNeg = 40 + a := by rw [n40]; exact ca
          have t93 : hs s1.1 o = true → ∀ y w : Int32, y = v → w = T.2.2.2.2 r → P 93 [some (vr 21 0), some (vi (nI a)), some (vi (b2 far)), some (vi (nI r)), some (vi (nI o))] [vi y, vi w] M1 := by
            intro hso y w hy hw
            subst hw
            subst hy
            rw [hso, Bool.true_and] at nxt
            have ec : T.2.2.2.2 r + y = y + T.2.2.2.2 r := Int32.add_comm _ _
            have key : ∀ z : Int32, z = y + T.2.2.2.2 r → vp_in (40 + nI o) 48 ∧ (M1.1 23 0 (40 + nI o).toNatClampNeg ≤ z → P 2 [some (vr 21 0), some (vi (nI a)), some (vi (b2 far)), some (vi (nI r + 1))] [] M1) ∧ (¬ M1.1 23 0 (40 + nI o).toNatClampNeg ≤ z → (9999 ≤ z → P 2 [some (vr 21 0), some (vi (nI a)), some (vi (b2 far)), some (vi (nI r + 1))] [] M1) ∧ (¬ 9999 ≤ z → vp_in (nI o) 8 ∧ C (d + 5) n_X7_lowerTo [vr 21 0, vi (40 + nI o), vi z] (um (um M1 32 0 (nI o).toNatClampNeg (nI r)) 21 0 19 ((um M1 32 0 (nI o).toNatClampNeg (nI r)).1 21 0 19 + 1)) (fun r' M' => P 2 [some (vr 21 0), some (vi (nI a)), some (vi (b2 far)), some (vi (nI r + 1))] (r'.toList ++ []) M'))) := by
              intro z hz
              subst hz
              refine ⟨io', fun c => ?_, fun c => ?_⟩ <;> rw [co', kk] at c
              · have : ¬ y + T.2.2.2.2 r < hk s1.1 o := fun q => by
                  rw [Int32.le_iff_toInt_le] at c
                  rw [Int32.lt_iff_toInt_lt] at q
                  omega
                rw [decide_eq_false this] at nxt
                exact nxt M1 hN0 hF
              · have hlt : y + T.2.2.2.2 r < hk s1.1 o := by
                  rw [Int32.le_iff_toInt_le] at c
                  rw [Int32.lt_iff_toInt_lt]
                  omega
                obtain ⟨hy, hy9⟩ := key_v hT hG1.1 hrT hon hv hlt
                rw [decide_eq_true hlt] at nxt
                refine ⟨fun c2 => absurd c2 hy9, fun _ => ⟨vp_in_nI (by omega) (by omega), ?_⟩⟩
                have co8 : (nI o).toNatClampNeg = o := nI_clamp (by omega)
                have e7 : (um M1 32 0 o (nI r)).1 21 0 19 + 1 = nI (s1.2.2 + 1) := by
                  rw [um_at, if_neg (by omega), hl7]; exact nI_1 _
                rw [co8, e7, n40]
                have hF2 : FY M1 (um (um M1 32 0 o (nI r)) 21 0 19 (nI (s1.2.2 + 1))) := fun x u i q1 q2 q3 => by rw [um_at, if_neg (by omega), um_at, if_neg (by omega)]
                have hR2 : MR 40 l0 c0 s1.1 (um (um M1 32 0 o (nI r)) 21 0 19 (nI (s1.2.2 + 1))) := MR_fr hR (fun i q1 q2 => by rw [um_at, if_neg (by omega), um_at, if_neg (by omega)]) (fun x i q1 q2 => by rw [um_at, if_neg (by omega), um_at, if_neg (by omega)])
                refine m_lowerTo hC hR2 hG1.1 hon hy (by omega) (fun M3 hR3 hF3 => ?_)
                have hF4 := hF2.tr (FY_M hF3)
                refine nxt M3 ⟨hR3, fun x hx => ?_, ?_, NW_FY hNC hF4⟩ (hF.tr hF4)
                · show _ = en (va_up s1.2.1 o (some r) x)
                  rw [hF3.1 32 0 x (by omega) (by omega), um_at, if_neg (by omega), um_at]
                  by_cases ex : x = o
                  · rw [if_pos ⟨rfl, rfl, ex⟩, ex, up_s]; rfl
                  · rw [if_neg (fun q => ex q.2.2), up_n ex]
                    exact hh x hx
                · rw [hF3.1 21 0 19 (by omega) (by omega), um_at, if_pos ⟨rfl, rfl, rfl⟩]; rfl
            exact go [(2, 4)] 99 _ _ _ _ (key _ ec)
          refine go [(2, 4), (93, 5)] 99 _ _ _ _ ⟨fun c => absurd c (nI_m1 (by omega)), fun _ => ⟨io', fun c => ?_, fun c => ⟨ir, fun c2 => ?_, fun c2 => ⟨ia', ?_⟩⟩⟩⟩
          · have c : b2 (hs s1.1 o) = 0 := by rw [← ks, ← co']; exact c
            rw [b2_0 c, Bool.false_and] at nxt
            exact nxt M1 hN0 hF
          · have c : ¬ b2 (hs s1.1 o) = 0 := by rw [← ks, ← co']; exact c
            exact t93 (b2_n0 c) 0 (M1.1 31 0 (nI r).toNatClampNeg) (hv0 (b2_0 c2)).symm (by rw [cr]; exact ew)
          · have c : ¬ b2 (hs s1.1 o) = 0 := by rw [← ks, ← co']; exact c
            exact t93 (b2_n0 c) (M1.1 23 0 (40 + nI a).toNatClampNeg) (M1.1 31 0 (nI r).toNatClampNeg) (by rw [ca', ka, hvk (b2_n0 c2)]; exact hk1) (by rw [cr]; exact ew)
      unfold acr at t49
      refine go [(49, 4)] 99 _ _ _ _ ⟨fun c => absurd (by rw [hNC.2.1] at c; exact c) (nI_ge hrT (by omega)), fun _ => ⟨ir, fun c => ⟨ir, fun c2 => ?_, fun c2 => ⟨ir, ?_⟩⟩, fun c => ⟨ir, ?_⟩⟩⟩ <;> rw [cr, m1] at c
      · rw [cr, m2] at c2
        rw [if_neg (fun e => c (congrArg nI e)), if_neg (fun e => c2 (congrArg nI e))] at t49
        exact t49
      · rw [cr, m2] at c2
        rw [if_neg (fun e => c (congrArg nI e)), if_pos (nI_inj (by omega) (by omega) c2)] at t49
        rw [cr, m1]
        exact t49
      · rw [if_pos (nI_inj (by omega) (by omega) c)] at t49
        rw [cr, m2]
        exact t49
  exact go [(2, 4)] 99 _ _ _ _ (loop T.2.1 0 M (by omega) hM FY.rf)
set_option maxRecDepth 20000 in
theorem C_mem {C : Nat → CP} {d y : Nat} {As : List AV} {M M' : AM} {Q : RP} (h : M = M') (k : C d y As M' Q) : C d y As M Q := by rw [h]; exact k
set_option maxRecDepth 20000 in
theorem m_own2 (hC : ClA C) (hD : MD 0 0 0 A M) (hn' : M.1 21 0 0 = nI (hn A)) (h : ∀ M', MM A M' → (∀ a u i, ¬ (a = 21 ∧ u = 0 ∧ (i = 10 ∨ i = 11)) → M'.1 a u i = M.1 a u i) → M'.2 = M.2 → Q none M') : C (d + 1) n_X7_own [vr 21 0] M Q := by
  refine hC.X7_own d _ M Q (fun P go => ?_)
  refine go [] 99 _ _ _ _ ?_
  refine h _ ⟨⟨by simp [um_at]; rfl, by simp [um_at]; exact hn', MD_um hD (fun i hi => by rcases hi with e | e | e <;> subst e <;> simp [um_at]) (fun a i h1 h2 => by rw [um_at, if_neg (by omega), um_at, if_neg (by omega)])⟩, by simp [um_at]; exact hn'⟩ (fun a u i q => by rw [um_at, if_neg (by omega), um_at, if_neg (by omega)]) rfl
/-- what a laying leaves -/
def MLaid (T : NT) (s : NG) (M : AM) : Prop := (∀ x, x < T.1 → M.1 32 0 x = en (s.2.1 x)) ∧ M.1 21 0 19 = nI s.2.2 ∧ M.1 21 0 20 = nI (lk s.1) ∧ M.1 21 0 21 = nI (ct s.1) ∧ ∀ x, x < T.1 → M.1 23 0 (40 + x) = hk s.1 x
set_option maxRecDepth 20000 in
theorem m_lay (hC : ClA C) (hW : MW W M) (hI : WI k W) (hk5 : k ≤ 512) {a : Nat} {far : Bool} (haT : a < W.2.2.1.1) (h : ∀ M', MW W M' → FN M M' → MLaid W.2.2.1 (grown W.2.2.1 far a) M' → Q none M') : C (d + 7) n_X7_lay [vr 21 0, vi (nI a), vi (b2 far)] M Q := by
  have hlk := hI.2.1
  have hT := hI.2.2.1
  have h8 := hT.1
  have h40 := hI.1.2.2.2.2.2.2.1
  have hW0 := hW
  obtain ⟨hD, hn0, -, hNW, -⟩ := hW
  have f7 : M.1 21 0 7 = nI (lk W.1) := by have := hD.1; rwa [Nat.zero_add] at this
  have f8 : M.1 21 0 8 = nI (lk W.1) := by have := hD.2.1; rwa [Nat.zero_add] at this
  have f9 : M.1 21 0 9 = nI (ct W.1) := by have := hD.2.2.1; rwa [Nat.zero_add] at this
  -- the end
  have fin : ∀ (M1 M2 : AM), FY M M1 → (∀ x u i, ¬ (x = 21 ∧ u = 0 ∧ (i = 7 ∨ i = 8 ∨ i = 9 ∨ i = 20 ∨ i = 21)) → M2.1 x u i = M1.1 x u i) → M2.1 21 0 7 = nI (lk W.1) → M2.1 21 0 8 = nI (lk W.1) → M2.1 21 0 9 = nI (ct W.1) → MD 0 0 0 W.1 M2 ∧ M2.1 21 0 0 = nI (hn W.1) ∧ ∀ M3, FX M2 M3 → MD 0 0 0 W.1 M3 → M3.1 21 0 0 = nI (hn W.1) → MW W M3 ∧ FN M M3 := by
    intro M1 M2 hF e g7 g8 g9
    have hrow : ∀ x i, 22 ≤ x → x ≤ 27 → i < 40 → M2.1 x 0 i = M.1 x 0 i := fun x i q1 q2 q3 => by rw [e x 0 i (by omega), hF x 0 i (by omega) (by omega) (by omega)]
    have hoth : ∀ x u i, ¬ (x = 21 ∧ u = 0 ∧ (i = 7 ∨ i = 8 ∨ i = 9 ∨ i = 10 ∨ i = 11 ∨ i = 19 ∨ i = 20 ∨ i = 21)) → ¬ (22 ≤ x ∧ x ≤ 27) → ¬ (x = 32 ∧ u = 0) → M2.1 x u i = M.1 x u i := fun x u i q1 q2 q3 => by rw [e x u i (by omega), hF x u i (by omega) (by omega) (by omega)]
    refine ⟨?_, by rw [hoth 21 0 0 (by omega) (by omega) (by omega)]; exact hn0, fun M3 hX hD3 hn3 => ?_⟩
    · obtain ⟨-, -, -, d4, j1, j2, j3⟩ := hD
      refine ⟨by rw [Nat.zero_add]; exact g7, by rw [Nat.zero_add]; exact g8, by rw [Nat.zero_add]; exact g9, d4, fun j hj => ?_, fun p => ?_, fun p x hx => ?_⟩
      · show M2.1 22 0 (0 + j) = _ ∧ M2.1 23 0 (0 + j) = _ ∧ M2.1 24 0 (0 + j) = _ ∧ M2.1 25 0 (0 + j) = _ ∧ M2.1 26 0 (0 + j) = _
        rw [hrow 22 _ (by omega) (by omega) (by omega), hrow 23 _ (by omega) (by omega) (by omega), hrow 24 _ (by omega) (by omega) (by omega), hrow 25 _ (by omega) (by omega) (by omega), hrow 26 _ (by omega) (by omega) (by omega)]
        exact j1 j hj
      · refine List.Pairwise.imp_of_mem (fun {y z} hy hz hyz => ?_) (j2 p)
        have l1 := (kid_lt hI.1 hy).1
        have l2 := (kid_lt hI.1 hz).1
        show (M2.1 27 0 (0 + y)).toInt < (M2.1 27 0 (0 + z)).toInt
        rw [hrow 27 _ (by omega) (by omega) (by omega), hrow 27 _ (by omega) (by omega) (by omega)]
        exact hyz
      · have l1 := (kid_lt hI.1 hx).1
        show (M2.1 27 0 (0 + x)).toInt < _
        rw [hrow 27 _ (by omega) (by omega) (by omega)]
        exact j3 p x hx
    · obtain ⟨-, -, c3, ⟨n1, n2, n3⟩, c5⟩ := hW0
      have ho3 : ∀ x u i, ¬ (x = 21 ∧ u = 0 ∧ (i = 0 ∨ i = 7 ∨ i = 8 ∨ i = 9 ∨ i = 10 ∨ i = 11 ∨ i = 19 ∨ i = 20 ∨ i = 21)) → ¬ (22 ≤ x ∧ x ≤ 27) → ¬ (x = 32 ∧ u = 0) → M3.1 x u i = M.1 x u i := fun x u i q1 q2 q3 => by rw [hX x u i (by omega) (by omega), hoth x u i (by omega) (by omega) (by omega)]
      refine ⟨⟨hD3, hn3, fun j hj => by rw [ho3 28 0 j (by omega) (by omega) (by omega)]; exact c3 j hj, ⟨by rw [ho3 21 0 13 (by omega) (by omega) (by omega)]; exact n1, by rw [ho3 21 0 14 (by omega) (by omega) (by omega)]; exact n2, fun i hi => by rw [ho3 29 0 i (by omega) (by omega) (by omega), ho3 30 0 i (by omega) (by omega) (by omega), ho3 31 0 i (by omega) (by omega) (by omega)]; exact n3 i hi⟩, fun i hi => ?_⟩, fun x u i hx => ho3 x u i (by omega) (by omega) (by omega)⟩
      have e33 : ∀ x, M3.1 33 0 x = M.1 33 0 x := fun x => ho3 33 0 x (by omega) (by omega) (by omega)
      have := c5 i hi
      unfold IW at this ⊢
      simp only [e33, ho3 34 0 i (by omega) (by omega) (by omega)]
      exact this
  generalize hT0 : W.2.2.1 = T at *
  generalize hl0 : lk W.1 = l0 at *
  generalize hc0 : ct W.1 = c0 at *
  refine hC.X7_lay (d + 6) _ M Q (fun P go => ?_)
  have loop2 : ∀ f c (s : NG) (M1 : AM), c + f = T.1 → cU (hs s.1) T.1 = f → grw T far f s = grown T far a → GI T (128 * c) s → (c = 0 → ∀ j, soonA s.1 = some j → hk s.1 j < 9999) → MNet T l0 c0 s M1 → FY M M1 → P 86 [some (vr 21 0), some (vi (nI a)), some (vi (b2 far)), some (vi (nI l0)), some (vi (nI c0)), some (vi (nI l0)), some (vi (nI c)), some (vi (enb 40 (soonA s.1)))] [] M1 := by
    have last : ∀ (c : Nat) (s : NG) (M1 : AM), s = grown T far a → GI T (128 * c) s → soonA s.1 = none → MNet T l0 c0 s M1 → FY M M1 → P 86 [some (vr 21 0), some (vi (nI a)), some (vi (b2 far)), some (vi (nI l0)), some (vi (nI c0)), some (vi (nI l0)), some (vi (nI c)), some (vi (enb 40 (soonA s.1)))] [] M1 := by
      intro c s M1 hsg hG he hM hF
      rw [he]
      refine go [] 99 _ _ _ _ ⟨fun _ => ?_, fun q => absurd rfl q⟩
      obtain ⟨hR, hh, h19, hN1⟩ := hM
      have g8 := hR.2.2.2.1
      have g9 := hR.2.2.2.2.1
      have e8 : nI (l0 + lk s.1) - nI l0 = nI (lk s.1) := by rw [pk_sub (by omega)]; exact congrArg nI (by omega)
      have e9 : nI (c0 + ct s.1) - nI c0 = nI (ct s.1) := by rw [pk_sub (by omega)]; exact congrArg nI (by omega)
      generalize hM2 : um (um (um (um (um M1 21 0 20 (M1.1 21 0 8 - nI l0)) 21 0 21 ((um M1 21 0 20 (M1.1 21 0 8 - nI l0)).1 21 0 9 - nI c0)) 21 0 8 (nI l0)) 21 0 9 (nI c0)) 21 0 7 (nI l0) = M2
      have eM2 : ∀ x u i, ¬ (x = 21 ∧ u = 0 ∧ (i = 7 ∨ i = 8 ∨ i = 9 ∨ i = 20 ∨ i = 21)) → M2.1 x u i = M1.1 x u i := fun x u i q => by
        rw [← hM2, um_at, if_neg (by omega), um_at, if_neg (by omega), um_at, if_neg (by omega), um_at, if_neg (by omega), um_at, if_neg (by omega)]
      have e20 : M2.1 21 0 20 = nI (lk s.1) := by rw [← hM2]; simp [um_at]; rw [g8]; exact e8
      have e21 : M2.1 21 0 21 = nI (ct s.1) := by rw [← hM2]; simp [um_at]; rw [g9]; exact e9
      obtain ⟨r1, r2, r3⟩ := fin M1 M2 hF eM2 (by rw [← hM2]; simp [um_at]) (by rw [← hM2]; simp [um_at]) (by rw [← hM2]; simp [um_at])
      refine C_mem hM2 (m_own2 hC (M := M2) r1 r2 (fun M3 hM3 hX _ => ?_))
      obtain ⟨w1, w2⟩ := r3 M3 (fun x u i q1 q2 => hX x u i (by omega)) hM3.D hM3.2
      refine h M3 w1 w2 ?_
      rw [← hsg]
      refine ⟨fun x hx => ?_, ?_, ?_, ?_, fun x hx => ?_⟩
      · rw [hX 32 0 x (by omega), eM2 32 0 x (by omega)]; exact hh x hx
      · rw [hX 21 0 19 (by omega), eM2 21 0 19 (by omega)]; exact h19
      · rw [hX 21 0 20 (by omega)]; exact e20
      · rw [hX 21 0 21 (by omega)]; exact e21
      · rw [hX 23 0 _ (by omega), eM2 23 0 _ (by omega)]
        exact (hR.row (j := x) (by rw [hG.2.1]; exact hx)).2.2.2.2.1
    intro f
    induction f with
    | zero =>
      intro c s M1 hc hcu hg hG h0 hM hF
      have he : soonA s.1 = none := by
        cases e : soonA s.1 with
        | none => rfl
        | some j =>
          have hj := sstU_lt _ e
          rw [hG.2.1] at hj
          have := cU_pos hj.2 _ hj.1
          omega
      exact last c s M1 hg hG he hM hF
    | succ f ih =>
      intro c s M1 hc hcu hg hG h0 hM hF
      unfold grw at hg
      cases e : soonA s.1 with
      | none =>
        rw [e] at hg
        have := last c s M1 hg hG e hM hF
        rw [e] at this
        exact this
      | some j =>
        rw [e] at hg
        have hg : grw T far f (stp T far s j) = grown T far a := hg
        have hj := sstU_lt _ e
        have hjT : j < T.1 := by have := hj.1; rw [hG.2.1] at this; exact this
        obtain ⟨hG2, hs2⟩ := stp_GI hT hG (far := far) hjT
        have hcu2 : cU (hs (stp T far s j).1) T.1 = f := by
          rw [hs2]
          have := cU_up hj.2 T.1 hjT
          omega
        rw [show 128 * c + 128 = 128 * (c + 1) by omega] at hG2
        have nxt : ∀ M2, MNet T l0 c0 (stp T far s j) M2 → FY M M2 → P 86 [some (vr 21 0), some (vi (nI a)), some (vi (b2 far)), some (vi (nI l0)), some (vi (nI c0)), some (vi (nI l0)), some (vi (nI c + 1)), some (vi (enb 40 (soonA (stp T far s j).1)))] [] M2 := fun M2 q1 q2 => by
          have := ih (c + 1) _ M2 (by omega) hcu2 hg hG2 (fun q => absurd q (by omega)) q1 q2
          rw [← nI_1 c] at this
          exact this
        obtain ⟨hR, hh, h19, hN1⟩ := hM
        have hlks : lk s.1 ≤ 128 * c := hG.2.2.1
        obtain ⟨tG, tS, tK⟩ := tak_GI hT hG j
        have hj2 : j < hn (takeA s.1 j) := by rw [tG.2.1]; exact hjT
        have g40 : nI (40 + j) - 40 = nI j := by
          rw [show (40 : Int32) = nI 40 from rfl, pk_sub (by omega)]
          exact congrArg nI (by omega)
        refine go [(86, 8), (126, 7), (116, 8)] 99 _ _ _ _ ⟨fun q => absurd q (nI_m1 (by omega)), fun _ => ?_⟩
        refine m_remove hC hR hG.1 hj.1 (by omega) (fun M2 hR2 hF2 => ?_)
        have hM2 : MNet T l0 c0 (takeA s.1 j, s.2) M2 := ⟨hR2, fun x hx => by rw [hF2.1 32 0 x (by omega) (by omega)]; exact hh x hx, by rw [hF2.1 21 0 19 (by omega) (by omega)]; exact h19, NW_FY hN1 (FY_M hF2)⟩
        have t126 : ∀ M3, MNet T l0 c0 (stp T far s j) M3 → FY M M3 → P 126 [some (vr 21 0), some (vi (nI a)), some (vi (b2 far)), some (vi (nI l0)), some (vi (nI c0)), some (vi (nI l0)), some (vi (nI c))] [] M3 := by
          intro M3 hM3 hF3
          refine go [(86, 8)] 99 _ _ _ _ ?_
          refine m_soonest hC hM3.1 ?_
          exact nxt M3 hM3 hF3
        have t116 : hk s.1 j < 9999 → P 116 [some (vr 21 0), some (vi (nI a)), some (vi (b2 far)), some (vi (nI l0)), some (vi (nI c0)), some (vi (nI l0)), some (vi (nI c)), some (vi (nI (40 + j)))] [] M2 := by
          intro q
          have ev : vOf far (takeA s.1 j) j = vOf far s.1 j := by unfold vOf; rw [tK]
          unfold stp at t126
          rw [if_pos q, ← ev] at t126
          refine go [(126, 7)] 99 _ _ _ _ ?_
          refine C_arg (As' := [vr 21 0, vi (nI j), vi (b2 far)]) (by rw [g40]) (m_goFrom (s := (takeA s.1 j, s.2)) hC hM2 hT tG (by omega) hjT (by show hs (takeA s.1 j) j = false; rw [tS, up_s]) (fun M3 hM3 hF3 => ?_))
          exact t126 M3 hM3 (hF.tr ((FY_M hF2).tr hF3))
        obtain ⟨-, ij, cj, -, kk, -, -, -⟩ := hR2.row hj2
        rw [tK] at kk
        refine ⟨fun q => ?_, fun q => ⟨ij, fun q2 => ?_, fun q2 => ?_⟩⟩
        · have : c = 0 := nI_inj (a := c) (b := 0) (by omega) (by omega) q
          exact t116 (h0 this j e)
        · have q3 : ¬ hk s.1 j < 9999 := fun w => by
            have q2 : 9999 ≤ hk s.1 j := by rw [← kk, ← cj]; exact q2
            rw [Int32.le_iff_toInt_le] at q2
            rw [Int32.lt_iff_toInt_lt] at w
            omega
          unfold stp at t126
          rw [if_neg q3] at t126
          exact t126 M2 hM2 (hF.tr (FY_M hF2))
        · have q3 : hk s.1 j < 9999 := by
            have q2 : ¬ 9999 ≤ hk s.1 j := fun w => q2 (by rw [← kk, ← cj] at w; exact w)
            rw [Int32.le_iff_toInt_le] at q2
            rw [Int32.lt_iff_toInt_lt]
            omega
          exact t116 q3
  have start : ∀ M1, MNet T l0 c0 (beg a T.1, fun _ => none, 0) M1 → FY M M1 → P 77 [some (vr 21 0), some (vi (nI a)), some (vi (b2 far)), some (vi (nI l0)), some (vi (nI c0)), some (vi (nI l0))] [] M1 := by
    intro M1 hM1 hF1
    obtain ⟨b1, b2', b3, b4, b5⟩ := beg_ok a T.1 h8
    refine go [(86, 8)] 99 _ _ _ _ ?_
    refine m_soonest hC hM1.1 ?_
    refine loop2 T.1 0 (beg a T.1, fun _ => none, 0) M1 (by omega) ?_ rfl (beg_GI hT a) (fun _ j hj => ?_) hM1 hF1
    · have : ∀ n, n ≤ T.1 → cU (hs (beg a T.1)) n = n := by
        intro n
        induction n with
        | zero => intro _; rfl
        | succ n ih => intro hn'; rw [cU_s, ih (by omega), (b5 n (by omega)).1]; rfl
      exact this T.1 (Nat.le_refl _)
    · have hj : sstU (beg a T.1) (hn (beg a T.1)) = some j := hj
      have := sst_min _ hj a (by rw [b2']; exact haT) (b5 a haT).1
      rw [(b5 a haT).2, if_pos rfl] at this
      show hk (beg a T.1) j < 9999
      rw [Int32.le_iff_toInt_le] at this
      rw [Int32.lt_iff_toInt_lt]
      have e0 : (0 : Int32).toInt = 0 := by decide
      have e9 : (9999 : Int32).toInt = 9999 := by decide
      omega
  have loop1 : ∀ f i (M1 : AM), i + f = T.1 → MD 40 l0 c0 (beg a i) M1 → M1.1 21 0 10 = nI 40 → (0 < i → M1.1 21 0 11 = nI (40 + i)) → M1.1 21 0 19 = nI 0 → (∀ x, x < i → M1.1 32 0 x = -1) → FY M M1 → P 31 [some (vr 21 0), some (vi (nI a)), some (vi (b2 far)), some (vi (nI l0)), some (vi (nI c0)), some (vi (nI l0)), some (vi (nI i))] [] M1 := by
    intro f
    induction f with
    | zero =>
      intro i M1 hi hD1 h10 h11 h19 hh hF
      have ei : i = T.1 := by omega
      subst ei
      have b2' := (beg_ok a T.1 h8).2.1
      refine go [(77, 6)] 99 _ _ _ _ ⟨fun _ => ?_, fun q => absurd (by rw [(NW_FY hNW hF).1]; exact nI_le (Nat.le_refl _) (by omega)) q⟩
      exact start M1 ⟨⟨h10, by show _ = nI (40 + hn (beg a T.1)); rw [b2']; exact h11 (by omega), hD1⟩, hh, h19, NW_FY hNW hF⟩ hF
    | succ f ih =>
      intro i M1 hi hD1 h10 h11 h19 hh hF
      have hiT : i < T.1 := by omega
      obtain ⟨b1, b2', -, -, -⟩ := beg_ok a i (by omega)
      have ii : vp_in (nI i) 8 := vp_in_nI (by omega) (by omega)
      have ci : (nI i).toNatClampNeg = i := nI_clamp (by omega)
      have hD2 : MD 40 l0 c0 (beg a i) (um M1 32 0 (nI i).toNatClampNeg (-1)) := MD_um hD1 (fun x _ => by rw [um_at, if_neg (by omega)]) (fun x y _ _ => by rw [um_at, if_neg (by omega)])
      have nxt : ∀ (v : Int32) M2, v = (if i = a then 0 else 9999) → MR 40 l0 c0 (addj (beg a i) 0 v) M2 → (∀ x u y, ¬ (x = 21 ∧ u = 0 ∧ y = 11) → ¬ (22 ≤ x ∧ x ≤ 27 ∧ u = 0 ∧ y = 40 + hn (beg a i)) → M2.1 x u y = (um M1 32 0 (nI i).toNatClampNeg (-1)).1 x u y) → P 31 [some (vr 21 0), some (vi (nI a)), some (vi (b2 far)), some (vi (nI l0)), some (vi (nI c0)), some (vi (nI l0)), some (vi (nI i + 1))] [] M2 := by
        intro v M2 hv hR2 hF2
        subst hv
        rw [b2', ci] at hF2
        have := ih (i + 1) M2 (by omega) hR2.2.2 hR2.1 (fun _ => by
          have := hR2.2.1
          have e : hn (addj (beg a i) 0 (if i = a then 0 else 9999)) = i + 1 := by show hn (beg a i) + 1 = _; omega
          rw [e] at this
          exact this) (by rw [hF2 21 0 19 (by omega) (by omega), um_at, if_neg (by omega)]; exact h19) (fun x hx => by
            rw [hF2 32 0 x (by omega) (by omega), um_at]
            by_cases ex : x = i
            · rw [if_pos ⟨rfl, rfl, ex⟩]
            · rw [if_neg (fun q => ex q.2.2)]; exact hh x (by omega)) (hF.tr (fun x u y q1 q2 q3 => by rw [hF2 x u y (by omega) (by omega), um_at, if_neg (by omega)]))
        rw [← nI_1] at this
        exact this
      have ea : ∀ v : Int32, [vr 21 0, vi (40 + nI i), vi 0, vi v] = [vr 21 0, vi (nI (40 + hn (beg a i))), vi 0, vi v] := fun v => by rw [b2', n40]
      refine go [(31, 7)] 99 _ _ _ _ ⟨fun q => absurd (by rw [(NW_FY hNW hF).1] at q; exact q) (nI_ge hiT (by omega)), fun _ => ⟨ii, fun q => ?_, fun q => ?_⟩⟩
      · refine C_arg (ea 9999) (m_add hC hD2 (by rw [um_at, if_neg (by omega)]; exact h10) b1 (by omega) (fun M2 hR2 hF2 _ => ?_))
        exact nxt 9999 M2 (by rw [if_neg (fun w => q (congrArg nI w))]) hR2 hF2
      · refine C_arg (ea 0) (m_add hC hD2 (by rw [um_at, if_neg (by omega)]; exact h10) b1 (by omega) (fun M2 hR2 hF2 _ => ?_))
        exact nxt 0 M2 (by rw [if_pos (nI_inj (by omega) (by omega) q)]) hR2 hF2
  have key : ∀ x8 x9 x7 : Int32, x8 = nI l0 → x9 = nI c0 → x7 = nI l0 → P 31 [some (vr 21 0), some (vi (nI a)), some (vi (b2 far)), some (vi x8), some (vi x9), some (vi x7), some (vi 0)] [] (um (um M 21 0 10 40) 21 0 19 0) := by
    intro x8 x9 x7 q8 q9 q7
    subst q8
    subst q9
    subst q7
    refine loop1 T.1 0 _ (by omega) ⟨?_, ?_, ?_, ?_, fun j hj => absurd hj (Nat.not_lt_zero j), fun p => List.Pairwise.nil, fun p x hx => absurd (show x ∈ ([] : List Nat) from hx) List.not_mem_nil⟩ ?_ (fun q => absurd q (by omega)) ?_ (fun x hx => absurd hx (Nat.not_lt_zero x)) (fun x u i q1 q2 q3 => by rw [um_at, if_neg (by omega), um_at, if_neg (by omega)])
    · simp [um_at]; exact f7
    · simp [um_at]; exact f8
    · simp [um_at]; exact f9
    · show 40 + 0 ≤ 48; omega
    · simp [um_at]; rfl
    · simp [um_at]; rfl
  exact go [(31, 7)] 99 _ _ _ _ (key _ _ _ f8 f9 f7)
end MNET

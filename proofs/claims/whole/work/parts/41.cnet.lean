/-! THE NET: the class's side -/
def CN (T : NT) (s : NG) (M : AM) : Prop := CR 3 s.1 M ∧ (∀ x, x < 8 → M.1 17 0 x = en (s.2.1 x)) ∧ M.1 13 0 7 = nI s.2.2 ∧ NC T M
def FT (M M' : AM) : Prop := ∀ a u i, ¬ (1 ≤ a ∧ a ≤ 10 ∧ u = 3) → ¬ (a = 17 ∧ u = 0) → ¬ (a = 13 ∧ u = 0 ∧ i = 7) → M'.1 a u i = M.1 a u i
theorem FT.rf {M : AM} : FT M M := fun _ _ _ _ _ _ => rfl
theorem FT.tr {M M1 M2 : AM} (h : FT M M1) (h' : FT M1 M2) : FT M M2 := fun a u i q1 q2 q3 => (h' a u i q1 q2 q3).trans (h a u i q1 q2 q3)
theorem FT_H {M M' : AM} (h : FH 3 M M') : FT M M' := fun a u i q1 _ _ => h.1 a u i (by omega)
theorem NC_FT {T : NT} {M M' : AM} (h : NC T M) (hF : FT M M') : NC T M' := by
  obtain ⟨n1, n2, n3⟩ := h
  refine ⟨by rw [hF 13 0 5 (by omega) (by omega) (by omega)]; exact n1, by rw [hF 13 0 6 (by omega) (by omega) (by omega)]; exact n2, fun i hi => ?_⟩
  rw [hF 14 0 i (by omega) (by omega) (by omega), hF 15 0 i (by omega) (by omega) (by omega), hF 16 0 i (by omega) (by omega) (by omega)]
  exact n3 i hi
theorem CW_FT {W : WS} {M M' : AM} (h : CW W M) (hF : FT M M') (h3 : M'.1 1 3 0 = nI (rm 3)) : CW W M' ∧ FC M M' := by
  obtain ⟨c1, c2, c3, c4, c5⟩ := h
  have hF0 : ∀ t, t < 3 → ∀ a i, 1 ≤ a → a ≤ 12 → M'.1 a t i = M.1 a t i := fun t ht a i _ _ => hF a t i (by omega) (by omega) (by omega)
  have hCR : ∀ t A, t < 3 → CR t A M → CR t A M' := by
    intro t A ht hR
    exact hR.fr (fun i _ _ => hF0 t ht 1 i (by omega) (by omega)) (fun a i _ _ => hF0 t ht a i (by omega) (by omega))
  refine ⟨⟨hCR 0 _ (by omega) c1, fun j hj => by rw [hF0 0 (by omega) 12 j (by omega) (by omega)]; exact c2 j hj, NC_FT c3 hF, fun i hi => ?_, h3⟩, fun a u i ha => hF a u i (by omega) (by omega) (by omega)⟩
  obtain ⟨i1, i2, i3⟩ := c4 i hi
  refine ⟨by rw [hF 20 i 2 (by omega) (by omega) (by omega)]; exact i1, by rw [hF0 (i + 1) (by omega) 1 0 (by omega) (by omega)]; exact i2, fun hk' => ?_⟩
  obtain ⟨g1, g2⟩ := i3 hk'
  exact ⟨hCR (i + 1) _ (by omega) g1, fun j hj => by rw [hF0 (i + 1) (by omega) 12 j (by omega) (by omega)]; exact g2 j hj⟩
section CNET
variable {C : Nat → CP} {d k : Nat} {W : WS} {A : AH} {M : AM} {Q : RP} {T : NT} {s : NG} {B : Nat}
theorem nI_ne {a b : Nat} (ha : a < 2 ^ 31) (hb : b < 2 ^ 31) (h : ¬ a = b) : ¬ nI a = nI b := fun e => h (nI_inj ha hb e)
set_option maxRecDepth 20000 in
theorem c_acrossFrom (hC : ClA C) (hN : NC T M) (hT : NI T) {r a : Nat} (hr : r < T.2.1) (ha : a < T.1) (h : Q (some (vi (en (acr T r a)))) M) : C (d + 1) n_X5_acrossFrom [vr 13 0, vi (nI r), vi (nI a)] M Q := by
  have h14 := hT.2.1
  have h8 := hT.1
  obtain ⟨t1, t2, -, -⟩ := hT.2.2 r hr
  obtain ⟨n1, n2, -⟩ := hN.2.2 r hr
  have ir : vp_in (nI r) 14 := vp_in_nI (by omega) (by omega)
  have cr : (nI r).toNatClampNeg = r := nI_clamp (by omega)
  refine hC.X5_acrossFrom d _ M Q (fun P go => ?_)
  unfold acr at h
  refine go [] 99 _ _ _ _ ⟨ir, fun c => ⟨ir, fun c2 => ?_, fun c2 => ⟨ir, ?_⟩⟩, fun c => ⟨ir, ?_⟩⟩ <;> rw [cr, n1] at c
  · rw [cr, n2] at c2
    rw [if_neg (fun e => c (congrArg nI e)), if_neg (fun e => c2 (congrArg nI e))] at h
    exact h
  · rw [cr, n2] at c2
    rw [if_neg (fun e => c (congrArg nI e)), if_pos (nI_inj (by omega) (by omega) c2)] at h
    rw [cr, n1]
    exact h
  · rw [if_pos (nI_inj (by omega) (by omega) c)] at h
    rw [cr, n2]
    exact h
set_option maxRecDepth 20000 in
theorem c_isReached (hC : ClA C) (hR : CR 3 A M) {j : Nat} (hj : j < hn A) (h : Q (some (vi (b2 (decide (hk A j < 9999))))) M) : C (d + 2) n_X5_isReached [vr 13 0, vi (nI j)] M Q := by
  refine hC.X5_isReached (d + 1) _ M Q (fun P go => ?_)
  refine go [] 99 _ _ _ _ ?_
  refine c_keyOf hC hR hj ⟨fun c => ?_, fun c => ?_⟩
  · have : ¬ hk A j < 9999 := fun q => by
      rw [Int32.le_iff_toInt_le] at c
      rw [Int32.lt_iff_toInt_lt] at q
      omega
    rw [decide_eq_false this] at h
    exact ⟨rfl, h⟩
  · have : hk A j < 9999 := by
      rw [Int32.le_iff_toInt_le] at c
      rw [Int32.lt_iff_toInt_lt]
      omega
    rw [decide_eq_true this] at h
    exact ⟨rfl, h⟩
set_option maxRecDepth 20000 in
theorem c_spread (hC : ClA C) (hM : CN T s M) (hT : NI T) (hG : GI T B s) {a : Nat} {v : Int32} (haT : a < T.1) (ha : hs s.1 a = false) (hv : KeyOk v) (h : ∀ M', CN T (spr T a v s T.2.1) M' → FT M M' → Q none M') : C (d + 5) n_X5_spread [vr 13 0, vi (nI a), vi v] M Q := by
  have h14 := hT.2.1
  have h8 := hT.1
  refine hC.X5_spread (d + 4) _ M Q (fun P go => ?_)
  have loop : ∀ f r (M1 : AM), r + f = T.2.1 → CN T (spr T a v s r) M1 → FT M M1 → P 2 [some (vr 13 0), some (vi (nI a)), some (vi v), some (vi (nI r))] [] M1 := by
    intro f
    induction f with
    | zero =>
      intro r M1 hr hN hF
      have er : r = T.2.1 := by omega
      subst er
      exact go [] 99 _ _ _ _ ⟨fun _ => h M1 hN hF, fun c => absurd (by rw [hN.2.2.2.2.1]; exact nI_le (Nat.le_refl _) (by omega)) c⟩
    | succ f ih =>
      intro r M1 hr hN hF
      have hrT : r < T.2.1 := by omega
      obtain ⟨hG1, hs1, -⟩ := spr_inv hT hG hv ha r (by omega)
      have nxt := fun M2 => ih (r + 1) M2 (by omega)
      rw [← nI_1] at nxt
      have es : spr T a v s (r + 1) = spr1 T a v (spr T a v s r) r := rfl
      rw [es] at nxt
      rw [← hs1] at ha
      clear ih es
      generalize spr T a v s r = s1 at hN hG1 nxt ha
      obtain ⟨hR, hh, hl7, hNC⟩ := hN
      have ir : vp_in (nI r) 14 := vp_in_nI (by omega) (by omega)
      have cr : (nI r).toNatClampNeg = r := nI_clamp (by omega)
      have ew := (hNC.2.2 r hrT).2.2
      refine go [(2, 4)] 99 _ _ _ _ ⟨fun c => absurd (by rw [hNC.2.1] at c; exact c) (nI_ge hrT (by omega)), fun _ => ?_⟩
      refine c_acrossFrom hC hNC hT hrT haT ⟨ir, ?_⟩
      unfold spr1 at nxt
      cases e : acr T r a with
      | none =>
        rw [e] at nxt
        exact ⟨fun _ => nxt M1 ⟨hR, hh, hl7, hNC⟩ hF, fun c => absurd rfl c⟩
      | some o =>
        rw [e] at nxt
        obtain ⟨o1, o2, o3, o4⟩ := acr_ok hT hrT e
        have hon : o < hn s1.1 := by rw [hG1.2.1]; exact o1
        refine ⟨fun c => absurd c (nI_m1 (by omega)), fun _ => ?_⟩
        replace nxt : ∀ M2, CN T (cond (hs s1.1 o && decide (v + T.2.2.2.2 r < hk s1.1 o)) (lowA s1.1 o (v + T.2.2.2.2 r), va_up s1.2.1 o (some r), s1.2.2 + 1) s1) M2 → FT M M2 → P 2 [some (vr 13 0), some (vi (nI a)), some (vi v), some (vi (nI r + 1))] [] M2 := nxt
        refine c_isStanding hC hR hon ⟨fun c => ?_, fun c => ?_⟩
        · rw [b2_0 c, Bool.false_and] at nxt
          exact nxt M1 ⟨hR, hh, hl7, hNC⟩ hF
        · rw [b2_n0 c, Bool.true_and] at nxt
          refine c_keyOf hC hR hon ⟨fun c2 => ?_, fun c2 => ?_⟩ <;> rw [cr, ew] at c2
          · have : ¬ v + T.2.2.2.2 r < hk s1.1 o := fun q => by
              rw [Int32.le_iff_toInt_le] at c2
              rw [Int32.lt_iff_toInt_lt] at q
              omega
            rw [decide_eq_false this] at nxt
            exact nxt M1 ⟨hR, hh, hl7, hNC⟩ hF
          · have hlt : v + T.2.2.2.2 r < hk s1.1 o := by
              rw [Int32.le_iff_toInt_le] at c2
              rw [Int32.lt_iff_toInt_lt]
              omega
            rw [decide_eq_true hlt] at nxt
            have hy := (key_v hT hG1.1 hrT hon hv hlt).1
            refine C_arg (As' := [vr 1 3, vi (nI o), vi (v + T.2.2.2.2 r)]) (by rw [cr, ew]; rfl) (c_lowerTo hC hR hG1.1 hon hy (fun M2 hR2 hF2 => ?_))
            have io : vp_in (nI o) 8 := vp_in_nI (by omega) (by omega)
            have co : (nI o).toNatClampNeg = o := nI_clamp (by omega)
            refine ⟨io, ?_⟩
            show P 2 [some (vr 13 0), some (vi (nI a)), some (vi v), some (vi (nI r + 1))] [] (um (um M2 17 0 (nI o).toNatClampNeg (nI r)) 13 0 7 ((um M2 17 0 (nI o).toNatClampNeg (nI r)).1 13 0 7 + 1))
            rw [co]
            have e7 : (um M2 17 0 o (nI r)).1 13 0 7 + 1 = nI (s1.2.2 + 1) := by
              rw [um_at, if_neg (by omega), hF2.1 13 0 7 (by omega), hl7]; exact nI_1 _
            rw [e7]
            have hF3 : FT M2 (um (um M2 17 0 o (nI r)) 13 0 7 (nI (s1.2.2 + 1))) := fun x u i q1 q2 q3 => by rw [um_at, if_neg (by omega), um_at, if_neg (by omega)]
            refine nxt _ ⟨?_, fun x hx => ?_, ?_, ?_⟩ (hF.tr ((FT_H hF2).tr hF3))
            · exact hR2.fr (fun i _ _ => by rw [um_at, if_neg (by omega), um_at, if_neg (by omega)]) (fun x i _ _ => by rw [um_at, if_neg (by omega), um_at, if_neg (by omega)])
            · show _ = en (va_up s1.2.1 o (some r) x)
              rw [um_at, if_neg (by omega), um_at]
              by_cases ex : x = o
              · rw [if_pos ⟨rfl, rfl, ex⟩, ex, up_s]; rfl
              · rw [if_neg (fun q => ex q.2.2), up_n ex, hF2.1 17 0 x (by omega)]
                exact hh x hx
            · rw [um_at, if_pos ⟨rfl, rfl, rfl⟩]; rfl
            · exact NC_FT hNC ((FT_H hF2).tr hF3)
  exact go [(2, 4)] 99 _ _ _ _ (loop T.2.1 0 M (by omega) hM FT.rf)
set_option maxRecDepth 20000 in
theorem c_begin5 (hC : ClA C) (hr : M.1 1 3 0 = nI (rm 3)) (hN : NC T M) (hT : NI T) {a : Nat} (haT : a < T.1) (h : ∀ M', CN T (beg a T.1, fun _ => none, 0) M' → FT M M' → Q none M') : C (d + 3) n_X5_begin [vr 13 0, vi (nI a)] M Q := by
  have h8 := hT.1
  refine hC.X5_begin (d + 2) _ M Q (fun P go => ?_)
  have loop : ∀ f i (M1 : AM), i + f = T.1 → CN T (beg a i, fun _ => none, 0) M1 → FT M M1 → P 22 [some (vr 13 0), some (vi (nI a)), some (vi (nI i))] [] M1 := by
    intro f
    induction f with
    | zero =>
      intro i M1 hi hM hF
      have ei : i = T.1 := by omega
      subst ei
      exact go [] 99 _ _ _ _ ⟨fun _ => h M1 hM hF, fun c => absurd (by rw [hM.2.2.2.1]; exact nI_le (Nat.le_refl _) (by omega)) c⟩
    | succ f ih =>
      intro i M1 hi hM hF
      have hiT : i < T.1 := by omega
      obtain ⟨b1, b2', -, -, -⟩ := beg_ok a i (by omega)
      obtain ⟨hR, hh, hl7, hNC⟩ := hM
      have hroom : hn (beg a i) < rm 3 := by rw [b2']; show i < 8; omega
      have nxt : ∀ (v : Int32) M2, v = (if i = a then 0 else 9999) → CR 3 (addj (beg a i) 0 v) M2 → FH 3 M1 M2 → P 22 [some (vr 13 0), some (vi (nI a)), some (vi (nI i + 1))] [] M2 := by
        intro v M2 hv hR2 hF2
        subst hv
        have := ih (i + 1) M2 (by omega) ⟨hR2, fun x hx => by rw [hF2.1 17 0 x (by omega)]; exact hh x hx, by rw [hF2.1 13 0 7 (by omega)]; exact hl7, NC_FT hNC (FT_H hF2)⟩ (hF.tr (FT_H hF2))
        rw [← nI_1] at this
        exact this
      refine go [(22, 3)] 99 _ _ _ _ ⟨fun c => absurd (by rw [hNC.1] at c; exact c) (nI_ge hiT (by omega)), fun _ => ⟨fun c => ?_, fun c => ?_⟩⟩
      · refine c_add hC hR b1 hroom (fun M2 hR2 hF2 => ?_)
        exact nxt 9999 M2 (by rw [if_neg (fun e => c (congrArg nI e))]) hR2 hF2
      · refine c_add hC hR b1 hroom (fun M2 hR2 hF2 => ?_)
        exact nxt 0 M2 (by rw [if_pos (nI_inj (by omega) (by omega) c)]) hR2 hF2
  refine go [(22, 3)] 99 _ _ _ _ ?_
  refine c_empty hC (t := 3) (by rw [um_at, if_neg (by omega)]; exact hr) (fun M1 hR1 hF1 => ?_)
  refine c_fill17 hC (fun M2 hF2 => ?_)
  have e17 : ∀ x u i, ¬ (x = 17 ∧ u = 0) → M2.1 x u i = M1.1 x u i := fun x u i q => by rw [hF2.1 x u i, if_neg (by omega)]
  have hFT : FT M M2 := fun x u i q1 q2 q3 => by
    rw [e17 x u i q2, hF1.1 x u i (by omega), um_at, if_neg (by omega)]
  refine loop T.1 0 M2 (by omega) ⟨hR1.fr (fun i _ _ => e17 1 3 i (by omega)) (fun x i _ _ => e17 x 3 i (by omega)), fun x hx => ?_, ?_, NC_FT hN hFT⟩ hFT
  · rw [hF2.1 17 0 x, if_pos ⟨rfl, rfl, hx⟩]; rfl
  · rw [e17 13 0 7 (by omega), hF1.1 13 0 7 (by omega), um_at, if_pos ⟨rfl, rfl, rfl⟩]; rfl
set_option maxRecDepth 20000 in
theorem c_grow (hC : ClA C) (hr : M.1 1 3 0 = nI (rm 3)) (hN : NC T M) (hT : NI T) {a : Nat} (haT : a < T.1) {far : Bool} (h : ∀ M', CN T (grown T far a) M' → FT M M' → Q none M') : C (d + 6) n_X5_grow [vr 13 0, vi (nI a), vi (b2 far)] M Q := by
  have h8 := hT.1
  refine hC.X5_grow (d + 5) _ M Q (fun P go => ?_)
  have loop : ∀ f i (B : Nat) (s : NG) (M1 : AM), i + f = T.1 → grw T far f s = grown T far a → GI T B s → CN T s M1 → FT M M1 → P 7 [some (vr 13 0), some (vi (nI a)), some (vi (b2 far)), some (vi (nI i))] [] M1 := by
    intro f
    induction f with
    | zero =>
      intro i B s M1 hi hg hG hM hF
      have ei : i = T.1 := by omega
      subst ei
      refine go [] 99 _ _ _ _ ⟨fun _ => ?_, fun c => absurd (by rw [hM.2.2.2.1]; exact nI_le (Nat.le_refl _) (by omega)) c⟩
      have hg : s = grown T far a := hg
      rw [hg] at hM
      exact h M1 hM hF
    | succ f ih =>
      intro i B s M1 hi hg hG hM hF
      have hiT : i < T.1 := by omega
      obtain ⟨hR, hh, hl7, hNC⟩ := hM
      refine go [(7, 4)] 99 _ _ _ _ ⟨fun c => absurd (by rw [hNC.1] at c; exact c) (nI_ge hiT (by omega)), fun _ => ?_⟩
      refine c_soonest hC hR ?_
      unfold grw at hg
      cases e : soonA s.1 with
      | none =>
        rw [e] at hg
        have hg : s = grown T far a := hg
        refine ⟨fun c => absurd rfl c, fun _ => ?_⟩
        rw [hg] at hR hh hl7
        exact h M1 ⟨hR, hh, hl7, hNC⟩ hF
      | some j =>
        rw [e] at hg
        have hj := (sstU_lt _ e).1
        have hjT : j < T.1 := by rw [hG.2.1] at hj; exact hj
        have hg : grw T far f (stp T far s j) = grown T far a := hg
        obtain ⟨hG2, -⟩ := stp_GI hT hG (far := far) hjT
        have nxt : ∀ M2, CN T (stp T far s j) M2 → FT M M2 → P 7 [some (vr 13 0), some (vi (nI a)), some (vi (b2 far)), some (vi (nI i + 1))] [] M2 := fun M2 q1 q2 => by
          have := ih (i + 1) _ _ M2 (by omega) hg hG2 q1 q2
          rw [← nI_1] at this
          exact this
        refine ⟨fun _ => ?_, fun c => absurd c (nI_m1 (by omega))⟩
        refine c_takeOut hC hR hG.1 hj (fun M2 hR2 hF2 => ?_)
        obtain ⟨tG, tS, tK⟩ := tak_GI hT hG j
        have hj2 : j < hn (takeA s.1 j) := by rw [tG.2.1]; exact hjT
        have hM2 : CN T (takeA s.1 j, s.2) M2 := ⟨hR2, fun x hx => by rw [hF2.1 17 0 x (by omega)]; exact hh x hx, by rw [hF2.1 13 0 7 (by omega)]; exact hl7, NC_FT hNC (FT_H hF2)⟩
        unfold stp at nxt
        refine c_isReached hC hR2 hj2 ⟨fun c => ?_, fun c => ?_⟩
        · have q := of_decide_eq_false (b2_0 c)
          rw [tK] at q
          rw [if_neg q] at nxt
          exact nxt M2 hM2 (hF.tr (FT_H hF2))
        · have q := of_decide_eq_true (b2_n0 c)
          rw [tK] at q
          rw [if_pos q] at nxt
          refine ⟨fun c3 => ?_, fun c3 => ?_⟩
          · have ev : vOf far s.1 j = 0 := by unfold vOf; rw [b2_0 c3]; rfl
            rw [ev] at nxt
            refine c_spread (v := 0) hC hM2 hT tG hjT (by rw [tS, up_s]) (by unfold KeyOk; decide) (fun M3 hM3 hF3 => ?_)
            exact nxt M3 hM3 (hF.tr ((FT_H hF2).tr hF3))
          · have ev : vOf far s.1 j = hk (takeA s.1 j) j := by unfold vOf; rw [b2_n0 c3, tK]; rfl
            rw [ev] at nxt
            refine c_keyOf hC hR2 hj2 ?_
            refine c_spread (v := hk (takeA s.1 j) j) hC hM2 hT tG hjT (by rw [tS, up_s]) (tG.1.2.2.2.2.2.2.2 j hj2).1 (fun M3 hM3 hF3 => ?_)
            exact nxt M3 hM3 (hF.tr ((FT_H hF2).tr hF3))
  refine go [(7, 4)] 99 _ _ _ _ ?_
  refine c_begin5 hC hr hN hT haT (fun M1 hM1 hF1 => ?_)
  exact loop T.1 0 0 _ M1 (by omega) rfl (beg_GI hT a) hM1 hF1
/-- the weight of the roads that hang, their marks, and the places reached -/
def wtU (T : NT) (f : Nat → Option Nat) : Nat → Int32
  | 0 => 0
  | x + 1 => match f x with
    | none => wtU T f x
    | some r => wtU T f x + T.2.2.2.2 r
def rdU (f : Nat → Option Nat) : Nat → Int32
  | 0 => 0
  | x + 1 => match f x with
    | none => rdU f x
    | some r => rdU f x ||| ((1 : Int32) <<< (nI r &&& 31))
noncomputable def p_tree (W : WS) (a w : Int32) : Int32 := cond (hasP W.2.2.1 a) (cond (btw w 0 4) (if w = 0 then wtU W.2.2.1 (grown W.2.2.1 false (jx a)).2.1 W.2.2.1.1 else if w = 1 then rdU (grown W.2.2.1 false (jx a)).2.1 W.2.2.1.1 else if w = 2 then nI (lk (grown W.2.2.1 false (jx a)).1) else if w = 3 then nI (ct (grown W.2.2.1 false (jx a)).1) else nI (grown W.2.2.1 false (jx a)).2.2) (-1000000002)) (-1000000001)
noncomputable def p_way (W : WS) (a b : Int32) : Int32 := cond (hasP W.2.2.1 a && hasP W.2.2.1 b) (if hk (grown W.2.2.1 true (jx a)).1 (jx b) < 9999 then hk (grown W.2.2.1 true (jx a)).1 (jx b) else -1) (-1000000001)
noncomputable def p_ways (W : WS) (a w : Int32) : Int32 := cond (hasP W.2.2.1 a) (cond (btw w 0 3) (if w = 0 then nI (lk (grown W.2.2.1 true (jx a)).1) else if w = 1 then nI (ct (grown W.2.2.1 true (jx a)).1) else if w = 2 then nI (grown W.2.2.1 true (jx a)).2.2 else nI (cU (fun x => decide (hk (grown W.2.2.1 true (jx a)).1 x < 9999)) W.2.2.1.1)) (-1000000002)) (-1000000001)
theorem grown_GI (hT : NI T) (far : Bool) (a : Nat) : GI T 1024 (grown T far a) := by
  have h8 := hT.1
  obtain ⟨g1, g2, g3, g4⟩ := grw_GI hT (far := far) T.1 (beg_GI hT a)
  exact ⟨g1, g2, by show lk (grw T far T.1 (beg a T.1, fun _ => none, 0)).1 ≤ _; omega, g4⟩
set_option maxRecDepth 20000 in
theorem c_weightOfTree (hC : ClA C) (hM : CN T s M) (hT : NI T) (hG : GI T B s) (h : Q (some (vi (wtU T s.2.1 T.1))) M) : C (d + 1) n_X5_weightOfTree [vr 13 0] M Q := by
  have h8 := hT.1
  have h14 := hT.2.1
  refine hC.X5_weightOfTree d _ M Q (fun P go => ?_)
  have loop : ∀ f x, x + f = T.1 → P 4 [some (vr 13 0), some (vi (wtU T s.2.1 x)), some (vi (nI x))] [] M := by
    intro f
    induction f with
    | zero =>
      intro x hx
      have ex : x = T.1 := by omega
      subst ex
      exact go [] 99 _ _ _ _ ⟨fun _ => h, fun c => absurd (by rw [hM.2.2.2.1]; exact nI_le (Nat.le_refl _) (by omega)) c⟩
    | succ f ih =>
      intro x hx
      have hxT : x < T.1 := by omega
      have nxt := ih (x + 1) (by omega)
      rw [← nI_1] at nxt
      unfold wtU at nxt
      have ix : vp_in (nI x) 8 := vp_in_nI (by omega) (by omega)
      have cx : (nI x).toNatClampNeg = x := nI_clamp (by omega)
      have eh := hM.2.1 x (by omega)
      refine go [(4, 3)] 99 _ _ _ _ ⟨fun c => absurd (by rw [hM.2.2.2.1] at c; exact c) (nI_ge hxT (by omega)), fun _ => ⟨ix, fun c => ?_, fun c => ⟨ix, ?_⟩⟩⟩ <;> rw [cx, eh] at *
      · cases e : s.2.1 x with
        | none => rw [e] at nxt; exact nxt
        | some r =>
          rw [e] at c
          exact absurd c (nI_m1 (by have := (hG.2.2.2.1 x r e).1; omega))
      · cases e : s.2.1 x with
        | none => rw [e] at c; exact absurd rfl c
        | some r =>
          rw [e] at nxt
          have hr := (hG.2.2.2.1 x r e).1
          have ir : vp_in (nI r) 14 := vp_in_nI (by omega) (by omega)
          have cr : (nI r).toNatClampNeg = r := nI_clamp (by omega)
          have ew := (hM.2.2.2.2.2 r hr).2.2
          refine ⟨ir, ?_⟩
          replace nxt : P 4 [some (vr 13 0), some (vi (wtU T s.2.1 x + T.2.2.2.2 r)), some (vi (nI x + 1))] [] M := nxt
          rw [← ew, ← cr] at nxt
          exact nxt
  exact go [(4, 3)] 99 _ _ _ _ (loop T.1 0 (by omega))
set_option maxRecDepth 20000 in
theorem c_roadsOfTree (hC : ClA C) (hM : CN T s M) (hT : NI T) (hG : GI T B s) (h : Q (some (vi (rdU s.2.1 T.1))) M) : C (d + 1) n_X5_roadsOfTree [vr 13 0] M Q := by
  have h8 := hT.1
  have h14 := hT.2.1
  refine hC.X5_roadsOfTree d _ M Q (fun P go => ?_)
  have loop : ∀ f x, x + f = T.1 → P 4 [some (vr 13 0), some (vi (rdU s.2.1 x)), some (vi (nI x))] [] M := by
    intro f
    induction f with
    | zero =>
      intro x hx
      have ex : x = T.1 := by omega
      subst ex
      exact go [] 99 _ _ _ _ ⟨fun _ => h, fun c => absurd (by rw [hM.2.2.2.1]; exact nI_le (Nat.le_refl _) (by omega)) c⟩
    | succ f ih =>
      intro x hx
      have hxT : x < T.1 := by omega
      have nxt := ih (x + 1) (by omega)
      rw [← nI_1] at nxt
      unfold rdU at nxt
      have ix : vp_in (nI x) 8 := vp_in_nI (by omega) (by omega)
      have cx : (nI x).toNatClampNeg = x := nI_clamp (by omega)
      have eh := hM.2.1 x (by omega)
      refine go [(4, 3)] 99 _ _ _ _ ⟨fun c => absurd (by rw [hM.2.2.2.1] at c; exact c) (nI_ge hxT (by omega)), fun _ => ⟨ix, fun c => ?_, fun c => ⟨ix, ?_⟩⟩⟩ <;> rw [cx, eh] at *
      · cases e : s.2.1 x with
        | none => rw [e] at nxt; exact nxt
        | some r =>
          rw [e] at c
          exact absurd c (nI_m1 (by have := (hG.2.2.2.1 x r e).1; omega))
      · cases e : s.2.1 x with
        | none => rw [e] at c; exact absurd rfl c
        | some r =>
          rw [e] at nxt
          exact nxt
  exact go [(4, 3)] 99 _ _ _ _ (loop T.1 0 (by omega))
set_option maxRecDepth 20000 in
theorem c_reachedCount (hC : ClA C) (hM : CN T s M) (hT : NI T) (hG : GI T B s) (h : Q (some (vi (nI (cU (fun x => decide (hk s.1 x < 9999)) T.1)))) M) : C (d + 3) n_X5_reachedCount [vr 13 0] M Q := by
  have h8 := hT.1
  refine hC.X5_reachedCount (d + 2) _ M Q (fun P go => ?_)
  have loop : ∀ f x, x + f = T.1 → P 4 [some (vr 13 0), some (vi (nI (cU (fun x => decide (hk s.1 x < 9999)) x))), some (vi (nI x))] [] M := by
    intro f
    induction f with
    | zero =>
      intro x hx
      have ex : x = T.1 := by omega
      subst ex
      exact go [] 99 _ _ _ _ ⟨fun _ => h, fun c => absurd (by rw [hM.2.2.2.1]; exact nI_le (Nat.le_refl _) (by omega)) c⟩
    | succ f ih =>
      intro x hx
      have hxT : x < T.1 := by omega
      have nxt := ih (x + 1) (by omega)
      rw [← nI_1, cU_s] at nxt
      refine go [(4, 3)] 99 _ _ _ _ ⟨fun c => absurd (by rw [hM.2.2.2.1] at c; exact c) (nI_ge hxT (by omega)), fun _ => ?_⟩
      refine c_isReached hC hM.1 (by rw [hG.2.1]; exact hxT) ⟨fun c => ?_, fun c => ?_⟩
      · rw [b2_0 c] at nxt
        exact nxt
      · rw [b2_n0 c] at nxt
        replace nxt : P 4 [some (vr 13 0), some (vi (nI (cU (fun x => decide (hk s.1 x < 9999)) x + 1))), some (vi (nI x + 1))] [] M := nxt
        rw [← nI_1 (cU _ x)] at nxt
        exact nxt
  exact go [(4, 3)] 99 _ _ _ _ (loop T.1 0 (by omega))
set_option maxRecDepth 20000 in
theorem c_links5 (hC : ClA C) (hR : CR 3 A M) (h : Q (some (vi (nI (lk A)))) M) : C (d + 2) n_X5_links [vr 13 0] M Q := by
  refine hC.X5_links (d + 1) _ M Q (fun P go => ?_)
  refine go [] 99 _ _ _ _ ?_
  exact c_links hC hR h
set_option maxRecDepth 20000 in
theorem c_cuts5 (hC : ClA C) (hR : CR 3 A M) (h : Q (some (vi (nI (ct A)))) M) : C (d + 2) n_X5_cuts [vr 13 0] M Q := by
  refine hC.X5_cuts (d + 1) _ M Q (fun P go => ?_)
  refine go [] 99 _ _ _ _ ?_
  exact c_cuts hC hR h
set_option maxRecDepth 20000 in
theorem c_lowerings (hC : ClA C) {v : Int32} (h7 : M.1 13 0 7 = v) (h : Q (some (vi v)) M) : C (d + 1) n_X5_lowerings [vr 13 0] M Q := by
  refine hC.X5_lowerings d _ M Q (fun P go => ?_)
  rw [← h7] at h
  exact go [] 99 _ _ _ _ h
set_option maxRecDepth 20000 in
theorem c_distanceTo (hC : ClA C) (hR : CR 3 A M) {j : Nat} (hj : j < hn A) (h : Q (some (vi (if hk A j < 9999 then hk A j else -1))) M) : C (d + 3) n_X5_distanceTo [vr 13 0, vi (nI j)] M Q := by
  refine hC.X5_distanceTo (d + 2) _ M Q (fun P go => ?_)
  refine go [] 99 _ _ _ _ ?_
  refine c_isReached hC hR hj ⟨fun c => ?_, fun c => ?_⟩
  · rw [if_neg (of_decide_eq_false (b2_0 c))] at h
    exact h
  · rw [if_pos (of_decide_eq_true (b2_n0 c))] at h
    exact c_keyOf hC hR hj h
set_option maxRecDepth 20000 in
theorem c_tree (hC : ClA C) (hW : CW W M) (hI : WI k W) {a w : Int32} (h : ∀ M', CW W M' → FC M M' → Q (some (vi (p_tree W a w))) M') : C (d + 7) n_X6_tree [vr 0 0, vi a, vi w] M Q := by
  refine hC.X6_tree (d + 6) _ M Q (fun P go => ?_)
  refine go [] 99 _ _ _ _ ?_
  unfold p_tree at h
  have hT := hI.2.2.1
  have hN := hW.2.2.1
  refine c_hasPlace hC hN ⟨fun c => ?_, fun c => ?_⟩
  · have e1 := b2_n0 c
    rw [e1] at h
    obtain ⟨ha, haT⟩ := hasP_ok hT e1
    generalize jx a = p at ha haT h
    subst ha
    refine c_between hC ⟨fun c2 => ?_, fun c2 => ?_⟩
    · rw [b2_n0 c2] at h
      have hG := grown_GI hT false p
      refine c_grow (far := false) hC hW.2.2.2.2 hN hT haT (fun M1 hM1 hF1 => ?_)
      have hw := CW_FT hW hF1 hM1.1.1
      replace h := h M1 hw.1 hw.2
      refine ⟨fun e => ?_, fun n0 => ⟨fun e => ?_, fun n1 => ⟨fun e => ?_, fun n2 => ⟨fun e => ?_, fun n3 => ?_⟩⟩⟩⟩
      · subst e; exact c_weightOfTree hC hM1 hT hG h
      · subst e; exact c_roadsOfTree hC hM1 hT hG h
      · subst e; exact c_links5 hC hM1.1 h
      · subst e; exact c_cuts5 hC hM1.1 h
      · replace h : Q (some (vi (if w = 0 then _ else if w = 1 then _ else if w = 2 then _ else if w = 3 then _ else _))) M1 := h
        rw [if_neg n0, if_neg n1, if_neg n2, if_neg n3] at h
        exact c_lowerings hC hM1.2.2.1 h
    · rw [b2_0 c2] at h
      exact h M hW (fun _ _ _ _ => rfl)
  · rw [b2_0 c] at h
    exact h M hW (fun _ _ _ _ => rfl)
set_option maxRecDepth 20000 in
theorem c_way (hC : ClA C) (hW : CW W M) (hI : WI k W) {a b : Int32} (h : ∀ M', CW W M' → FC M M' → Q (some (vi (p_way W a b))) M') : C (d + 7) n_X6_way [vr 0 0, vi a, vi b] M Q := by
  refine hC.X6_way (d + 6) _ M Q (fun P go => ?_)
  refine go [] 99 _ _ _ _ ?_
  unfold p_way at h
  have hT := hI.2.2.1
  have hN := hW.2.2.1
  refine c_hasPlace hC hN ⟨fun c => ?_, fun c => ?_⟩
  · rw [b2_0 c, Bool.false_and] at h
    exact h M hW (fun _ _ _ _ => rfl)
  · have e1 := b2_n0 c
    rw [e1, Bool.true_and] at h
    obtain ⟨ha, haT⟩ := hasP_ok hT e1
    generalize jx a = p at ha haT h
    subst ha
    refine c_hasPlace hC hN ⟨fun c2 => ?_, fun c2 => ?_⟩
    · have e2 := b2_n0 c2
      rw [e2] at h
      obtain ⟨hb, hbT⟩ := hasP_ok hT e2
      generalize jx b = q at hb hbT h
      subst hb
      have hG := grown_GI hT true p
      refine c_grow (far := true) hC hW.2.2.2.2 hN hT haT (fun M1 hM1 hF1 => ?_)
      have hw := CW_FT hW hF1 hM1.1.1
      exact c_distanceTo hC hM1.1 (by rw [hG.2.1]; exact hbT) (h M1 hw.1 hw.2)
    · rw [b2_0 c2] at h
      exact h M hW (fun _ _ _ _ => rfl)
set_option maxRecDepth 20000 in
theorem c_ways (hC : ClA C) (hW : CW W M) (hI : WI k W) {a w : Int32} (h : ∀ M', CW W M' → FC M M' → Q (some (vi (p_ways W a w))) M') : C (d + 7) n_X6_ways [vr 0 0, vi a, vi w] M Q := by
  refine hC.X6_ways (d + 6) _ M Q (fun P go => ?_)
  refine go [] 99 _ _ _ _ ?_
  unfold p_ways at h
  have hT := hI.2.2.1
  have hN := hW.2.2.1
  refine c_hasPlace hC hN ⟨fun c => ?_, fun c => ?_⟩
  · have e1 := b2_n0 c
    rw [e1] at h
    obtain ⟨ha, haT⟩ := hasP_ok hT e1
    generalize jx a = p at ha haT h
    subst ha
    refine c_between hC ⟨fun c2 => ?_, fun c2 => ?_⟩
    · rw [b2_n0 c2] at h
      have hG := grown_GI hT true p
      refine c_grow (far := true) hC hW.2.2.2.2 hN hT haT (fun M1 hM1 hF1 => ?_)
      have hw := CW_FT hW hF1 hM1.1.1
      replace h := h M1 hw.1 hw.2
      refine ⟨fun e => ?_, fun n0 => ⟨fun e => ?_, fun n1 => ⟨fun e => ?_, fun n2 => ?_⟩⟩⟩
      · subst e; exact c_links5 hC hM1.1 h
      · subst e; exact c_cuts5 hC hM1.1 h
      · subst e; exact c_lowerings hC hM1.2.2.1 h
      · replace h : Q (some (vi (if w = 0 then _ else if w = 1 then _ else if w = 2 then _ else _))) M1 := h
        rw [if_neg n0, if_neg n1, if_neg n2] at h
        exact c_reachedCount hC hM1 hT hG h
    · rw [b2_0 c2] at h
      exact h M hW (fun _ _ _ _ => rfl)
  · rw [b2_0 c] at h
    exact h M hW (fun _ _ _ _ => rfl)
end CNET

section HEAP2
variable {C : Nat → CP} {d t : Nat} {A : AH} {M : AM} {Q : RP}
def btw (x lo hi : Int32) : Bool := decide (lo ≤ x) && decide (x ≤ hi)
set_option maxRecDepth 20000 in
theorem c_between (hC : ClA C) {x lo hi : Int32} (h : Q (some (vi (b2 (btw x lo hi)))) M) : C (d + 1) n_X6_between [vi x, vi lo, vi hi] M Q := by
  refine hC.X6_between d _ M Q (fun P go => ?_)
  unfold btw at h
  refine go [] 99 _ _ _ _ ⟨fun c => ?_, fun c => ⟨fun c2 => ?_, fun c2 => ?_⟩⟩
  · rw [decide_eq_false (nle_lt c), Bool.false_and] at h
    exact ⟨rfl, h⟩
  · rw [decide_eq_false (nle_lt c2), Bool.and_false] at h
    exact ⟨rfl, h⟩
  · rw [decide_eq_true (le_toInt c), decide_eq_true (le_toInt c2)] at h
    exact ⟨rfl, h⟩
set_option maxRecDepth 20000 in
theorem c_isKey (hC : ClA C) {x : Int32} (h : Q (some (vi (b2 (btw x (-9999) 9999)))) M) : C (d + 2) n_X6_isKey [vi x] M Q := by
  refine hC.X6_isKey (d + 1) _ M Q (fun P go => ?_)
  refine go [] 99 _ _ _ _ ?_
  exact c_between hC ⟨bz_b2 _, h⟩
set_option maxRecDepth 20000 in
theorem c_flag (hC : ClA C) {b : Bool} (h : Q (some (vi (b2 b))) M) : C (d + 1) n_X6_flag [vi (b2 b)] M Q := by
  refine hC.X6_flag d _ M Q (fun P go => ?_)
  refine go [] 99 _ _ _ _ ⟨fun c => ?_, fun c => ?_⟩
  · rw [b2_0 c] at h; exact h
  · rw [b2_n0 c] at h; exact h
theorem btw_key {x : Int32} (h : btw x (-9999) 9999 = true) : KeyOk x := by
  unfold btw at h
  simp only [Bool.and_eq_true, decide_eq_true_eq, Int32.le_iff_toInt_le] at h
  have e1 : (-9999 : Int32).toInt = -9999 := by decide
  have e2 : (9999 : Int32).toInt = 9999 := by decide
  exact ⟨by omega, by omega⟩
theorem key_btw {x : Int32} (h : KeyOk x) : btw x (-9999) 9999 = true := by
  unfold btw
  have e1 : (-9999 : Int32).toInt = -9999 := by decide
  have e2 : (9999 : Int32).toInt = 9999 := by decide
  simp only [Bool.and_eq_true, decide_eq_true_eq, Int32.le_iff_toInt_le]
  obtain ⟨h1, h2⟩ := h
  omega
/-- a job of that number -/
def hasJ (A : AH) (x : Int32) : Bool := decide (¬ x < 0) && decide (¬ nI (hn A) ≤ x)
abbrev jx (x : Int32) : Nat := x.toNatClampNeg
theorem hasJ_ok (hI : Inv A) {x : Int32} (h : hasJ A x = true) : x = nI (jx x) ∧ jx x < hn A := by
  unfold hasJ at h
  simp only [Bool.and_eq_true, decide_eq_true_eq] at h
  obtain ⟨j, hj, rfl⟩ := nI_of h.1
  have := hI.2.2.2.2.2.2.1
  have hlt : j < hn A := by
    rcases Nat.lt_or_ge j (hn A) with q | q
    · exact q
    · exact absurd (nI_le q hj) h.2
  have e : jx (nI j) = j := nI_clamp hj
  rw [e]
  exact ⟨rfl, hlt⟩
set_option maxRecDepth 20000 in
theorem c_has (hC : ClA C) (hR : CR t A M) {x : Int32} (h : Q (some (vi (b2 (hasJ A x)))) M) : C (d + 1) n_X2_has [vr 1 t, vi x] M Q := by
  have e10 := hR.2.2.1
  refine hC.X2_has d _ M Q (fun P go => ?_)
  unfold hasJ at h
  refine go [] 99 _ _ _ _ ⟨fun c => ?_, fun c => ⟨fun c2 => ?_, fun c2 => ?_⟩⟩
  · rw [decide_eq_false (show ¬ ¬ x < 0 from fun q => q c), Bool.false_and] at h
    exact ⟨rfl, h⟩
  · rw [e10] at c2
    rw [decide_eq_false (show ¬ ¬ nI (hn A) ≤ x from fun q => q c2), Bool.and_false] at h
    exact ⟨rfl, h⟩
  · rw [e10] at c2
    rw [decide_eq_true c, decide_eq_true c2] at h
    exact ⟨rfl, h⟩
set_option maxRecDepth 20000 in
theorem c_hasRoom (hC : ClA C) (hR : CR t A M) (h : Q (some (vi (b2 (decide (hn A < rm t))))) M) : C (d + 1) n_X2_hasRoom [vr 1 t] M Q := by
  have e10 := hR.2.2.1
  have e0 := hR.1
  have hn1 := hR.2.1
  have hrm := rm_le t
  refine hC.X2_hasRoom d _ M Q (fun P go => ?_)
  refine go [] 99 _ _ _ _ ⟨fun c => ?_, fun c => ?_⟩ <;> rw [e0, e10] at c
  · have : ¬ hn A < rm t := fun q => absurd c (nI_ge q (by omega))
    rw [decide_eq_false this] at h
    exact ⟨rfl, h⟩
  · have : hn A < rm t := by
      rcases Nat.lt_or_ge (hn A) (rm t) with q | q
      · exact q
      · exact absurd (nI_le q (by omega)) c
    rw [decide_eq_true this] at h
    exact ⟨rfl, h⟩
set_option maxRecDepth 20000 in
theorem c_count (hC : ClA C) (hR : CR t A M) (h : Q (some (vi (nI (hn A)))) M) : C (d + 1) n_X2_count [vr 1 t] M Q := by
  refine hC.X2_count d _ M Q (fun P go => ?_)
  rw [← hR.2.2.1] at h
  exact go [] 99 _ _ _ _ h
set_option maxRecDepth 20000 in
theorem c_links (hC : ClA C) (hR : CR t A M) (h : Q (some (vi (nI (lk A)))) M) : C (d + 1) n_X2_links [vr 1 t] M Q := by
  refine hC.X2_links d _ M Q (fun P go => ?_)
  rw [← hR.2.2.2.1] at h
  exact go [] 99 _ _ _ _ h
set_option maxRecDepth 20000 in
theorem c_cuts (hC : ClA C) (hR : CR t A M) (h : Q (some (vi (nI (ct A)))) M) : C (d + 1) n_X2_cuts [vr 1 t] M Q := by
  refine hC.X2_cuts d _ M Q (fun P go => ?_)
  rw [← hR.2.2.2.2.1] at h
  exact go [] 99 _ _ _ _ h
set_option maxRecDepth 20000 in
theorem c_kindOf (hC : ClA C) (hR : CR t A M) {j : Nat} (hj : j < hn A) (h : Q (some (vi (hd A j))) M) : C (d + 1) n_X2_kindOf [vr 1 t, vi (nI j)] M Q := by
  obtain ⟨ij, e2, -⟩ := hR.row hj
  refine hC.X2_kindOf d _ M Q (fun P go => ?_)
  rw [← e2] at h
  exact go [] 99 _ _ _ _ ⟨ij, h⟩
set_option maxRecDepth 20000 in
theorem c_keyOf (hC : ClA C) (hR : CR t A M) {j : Nat} (hj : j < hn A) (h : Q (some (vi (hk A j))) M) : C (d + 1) n_X2_keyOf [vr 1 t, vi (nI j)] M Q := by
  obtain ⟨ij, -, e3, -⟩ := hR.row hj
  refine hC.X2_keyOf d _ M Q (fun P go => ?_)
  rw [← e3] at h
  exact go [] 99 _ _ _ _ ⟨ij, h⟩
set_option maxRecDepth 20000 in
theorem c_aboveOf (hC : ClA C) (hR : CR t A M) {j : Nat} (hj : j < hn A) (h : Q (some (vi (en (hp A j)))) M) : C (d + 1) n_X2_aboveOf [vr 1 t, vi (nI j)] M Q := by
  obtain ⟨ij, -, -, e4, -⟩ := hR.row hj
  refine hC.X2_aboveOf d _ M Q (fun P go => ?_)
  rw [← e4] at h
  exact go [] 99 _ _ _ _ ⟨ij, h⟩
set_option maxRecDepth 20000 in
theorem c_rankOf (hC : ClA C) (hR : CR t A M) {j : Nat} (hj : j < hn A) (h : Q (some (vi (nI (rk A j)))) M) : C (d + 1) n_X2_rankOf [vr 1 t, vi (nI j)] M Q := by
  obtain ⟨ij, -, -, -, e5, -⟩ := hR.row hj
  refine hC.X2_rankOf d _ M Q (fun P go => ?_)
  rw [← e5] at h
  exact go [] 99 _ _ _ _ ⟨ij, h⟩
set_option maxRecDepth 20000 in
theorem c_isStanding (hC : ClA C) (hR : CR t A M) {j : Nat} (hj : j < hn A) (h : Q (some (vi (b2 (hs A j)))) M) : C (d + 1) n_X2_isStanding [vr 1 t, vi (nI j)] M Q := by
  obtain ⟨ij, -, -, -, -, e8, -⟩ := hR.row hj
  refine hC.X2_isStanding d _ M Q (fun P go => ?_)
  rw [← e8] at h
  exact go [] 99 _ _ _ _ ⟨ij, by rw [e8]; exact bz_b2 _, h⟩
set_option maxRecDepth 20000 in
theorem c_isLoose (hC : ClA C) (hR : CR t A M) {j : Nat} (hj : j < hn A) (h : Q (some (vi (b2 (hl A j)))) M) : C (d + 1) n_X2_isLoose [vr 1 t, vi (nI j)] M Q := by
  obtain ⟨ij, -, -, -, -, -, e9, -⟩ := hR.row hj
  refine hC.X2_isLoose d _ M Q (fun P go => ?_)
  rw [← e9] at h
  exact go [] 99 _ _ _ _ ⟨ij, by rw [e9]; exact bz_b2 _, h⟩
set_option maxRecDepth 20000 in
theorem c_empty (hC : ClA C) (hr : M.1 1 t 0 = nI (rm t)) (h : ∀ M', CR t emp M' → FH t M M' → Q none M') : C (d + 1) n_X2_empty [vr 1 t] M Q := by
  refine hC.X2_empty d _ M Q (fun P go => ?_)
  refine go [] 99 _ _ _ _ ?_
  refine h _ ⟨by simp [um_at]; exact hr, Nat.zero_le _, by simp [um_at]; rfl, by simp [um_at]; rfl, by simp [um_at]; rfl, fun j hj => absurd hj (Nat.not_lt_zero j)⟩ (((FH.rf.um (by omega) (by omega)).um (by omega) (by omega)).um (by omega) (by omega))
set_option maxRecDepth 20000 in
theorem c_add (hC : ClA C) (hR : CR t A M) (hI : Inv A) {kind key : Int32} (hroom : hn A < rm t) (h : ∀ M', CR t (addj A kind key) M' → FH t M M' → Q (some (vi (nI (hn A)))) M') : C (d + 2) n_X2_add [vr 1 t, vi kind, vi key] M Q := by
  have hrm := rm_le t
  obtain ⟨c1, c2, c3, c4, c5, c6⟩ := hR
  have hR : CR t A M := ⟨c1, c2, c3, c4, c5, c6⟩
  refine hC.X2_add (d + 1) _ M Q (fun P go => ?_)
  refine go [] 199 _ _ _ _ ?_
  refine c_hasRoom hC hR ?_
  rw [decide_eq_true hroom]
  refine ⟨fun _ => ?_, fun c => absurd c (by decide)⟩
  have ij : vp_in (M.1 1 t 10) (rm t) := by rw [c3]; exact inR hroom
  refine ⟨ij, ij, ij, ij, ij, ij, ij, ?_⟩
  have cj : (M.1 1 t 10).toNatClampNeg = hn A := by rw [c3]; exact cl40 (by omega)
  rw [cj, c3]
  obtain ⟨f1, f2, f3, f4⟩ := hI.fresh (Nat.le_refl (hn A))
  refine h _ ⟨by simp [um_at]; exact c1, hroom, by simp [um_at]; exact nI_1 _, by simp [um_at]; exact c4, by simp [um_at]; exact c5, fun x hx => ?_⟩ ((((((((FH.rf.um (by omega) (by omega)).um (by omega) (by omega)).um (by omega) (by omega)).um (by omega) (by omega)).um (by omega) (by omega)).um (by omega) (by omega)).um (by omega) (by omega)).um (by omega) (by omega))
  have hx : x < hn A + 1 := hx
  show _ = va_up (hd A) (hn A) kind x ∧ _ = va_up (CLooseHeapLaw_law_r4325_51c37f.hk A) (hn A) key x ∧ _ = en (hp A x) ∧ _ = nI (hc A x).length ∧ _ = b2 (va_up (hs A) (hn A) true x) ∧ _ = b2 (hl A x) ∧ CH _ _ (hc A x)
  by_cases e : x = hn A
  · subst e
    rw [up_s, up_s, up_s, f1, f2, f3]
    refine ⟨by simp [um_at], by simp [um_at], by simp [um_at]; rfl, by simp [um_at]; rfl, by simp [um_at]; rfl, by simp [um_at]; rfl, ?_⟩
    show _ = (-1 : Int32)
    simp [um_at]
  · rw [up_n e, up_n e, up_n e]
    obtain ⟨k2, k3, k4, k5, k8, k9, k6⟩ := c6 x (by omega)
    refine ⟨by simp [um_at, e]; exact k2, by simp [um_at, e]; exact k3, by simp [um_at, e]; exact k4, by simp [um_at, e]; exact k5, by simp [um_at, e]; exact k8, by simp [um_at, e]; exact k9, ?_⟩
    refine CH_congr (nx := M.1 7 t) _ _ (fun y _ => by simp [um_at]) ?_
    simp [um_at, e]
    exact k6
set_option maxRecDepth 20000 in
theorem c_copyFrom (hC : ClA C) {u : Nat} (hut : u ≠ t) (hR : CR u A M) (hI : Inv A) (hr : M.1 1 t 0 = nI (rm t)) (hle : hn A ≤ rm t) (h : ∀ M', CR t A M' → FH t M M' → Q none M') : C (d + 1) n_X2_copyFrom [vr 1 t, vr 1 u] M Q := by
  have hrm := rm_le t
  have hru := rm_le u
  have hn1 := hR.2.1
  refine hC.X2_copyFrom d _ M Q (fun P go => ?_)
  have loop : ∀ k j (M1 : AM), j + k = hn A → FH t M M1 → M1.1 1 t 0 = nI (rm t) → M1.1 1 t 10 = nI (hn A) → M1.1 1 t 11 = nI (lk A) → M1.1 1 t 12 = nI (ct A) → (∀ a x, 2 ≤ a → a ≤ 9 → x < j → M1.1 a t x = M.1 a u x) → P 35 [some (vr 1 t), some (vr 1 u), some (vi (nI (hn A))), some (vi (nI j))] [] M1 := by
    intro k
    induction k with
    | zero =>
      intro j M1 hj hF e0 e10 e11 e12 hrow
      have ej : j = hn A := by omega
      subst ej
      refine go [] 99 _ _ _ _ ⟨fun _ => ?_, fun c => absurd (nI_le (Nat.le_refl _) (by omega)) c⟩
      refine h M1 ⟨e0, hle, e10, e11, e12, fun x hx => ?_⟩ hF
      obtain ⟨k2, k3, k4, k5, k8, k9, k6⟩ := hR.2.2.2.2.2 x hx
      rw [hrow 2 x (by omega) (by omega) hx, hrow 3 x (by omega) (by omega) hx, hrow 4 x (by omega) (by omega) hx, hrow 5 x (by omega) (by omega) hx, hrow 8 x (by omega) (by omega) hx, hrow 9 x (by omega) (by omega) hx, hrow 6 x (by omega) (by omega) hx]
      exact ⟨k2, k3, k4, k5, k8, k9, CH_congr _ _ (fun y hy => hrow 7 y (by omega) (by omega) (kid_lt hI hy).1) k6⟩
    | succ k ih =>
      intro j M1 hj hF e0 e10 e11 e12 hrow
      have hjn : j < hn A := by omega
      have cj : (nI j).toNatClampNeg = j := nI_clamp (by omega)
      have it : vp_in (nI j) (rm t) := inR (by omega)
      have iu : vp_in (nI j) (rm u) := inR (by omega)
      obtain ⟨k2, k3, k4, k5, k8, k9, k6⟩ := hR.2.2.2.2.2 j hjn
      have hu1 : ∀ a, M1.1 a u j = M.1 a u j := fun a => hF.1 a u j (Or.inr (Or.inr hut))
      have key : ∀ M2, FH t M M2 → M2.1 1 t 0 = nI (rm t) → M2.1 1 t 10 = nI (hn A) → M2.1 1 t 11 = nI (lk A) → M2.1 1 t 12 = nI (ct A) → (∀ a x, 2 ≤ a → a ≤ 9 → x < j + 1 → M2.1 a t x = M.1 a u x) → P 35 [some (vr 1 t), some (vr 1 u), some (vi (nI (hn A))), some (vi (nI j + 1))] [] M2 := fun M2 g1 g2 g3 g4 g5 g6 => by
        have := ih (j + 1) M2 (by omega) g1 g2 g3 g4 g5 g6
        rw [← nI_1] at this
        exact this
      refine go [(35, 4)] 199 _ _ _ _ ⟨fun c => absurd c (nI_ge hjn (by omega)), fun _ => ⟨iu, it, iu, it, iu, it, iu, it, iu, it, iu, it, iu, it, iu, it, ?_⟩⟩
      rw [cj]
      refine key _ ((((((((hF.um (by omega) (by omega)).um (by omega) (by omega)).um (by omega) (by omega)).um (by omega) (by omega)).um (by omega) (by omega)).um (by omega) (by omega)).um (by omega) (by omega)).um (by omega) (by omega)) (by simp [um_at]; exact e0) (by simp [um_at]; exact e10) (by simp [um_at]; exact e11) (by simp [um_at]; exact e12) (fun a x h1 h2 hx => ?_)
      by_cases ex : x = j
      · subst ex
        have ha : a = 2 ∨ a = 3 ∨ a = 4 ∨ a = 5 ∨ a = 6 ∨ a = 7 ∨ a = 8 ∨ a = 9 := by omega
        rcases ha with e | e | e | e | e | e | e | e <;> subst e <;> simp [um_at, hu1, hut]
        · rw [k8]; exact bz_b2 _
        · rw [k9]; exact bz_b2 _
      · simp [um_at, ex]
        exact hrow a x h1 h2 (by omega)
  have e1 : (if M.1 1 t 0 < M.1 1 u 10 then M.1 1 t 0 else M.1 1 u 10) = nI (hn A) := by
    rw [hr, hR.2.2.1, if_neg (nI_nlt hle (by omega))]
  have e11 : M.1 1 u 11 = nI (lk A) := hR.2.2.2.1
  have e12 : M.1 1 u 12 = nI (ct A) := hR.2.2.2.2.1
  have key0 : ∀ (v : Int32), v = nI (hn A) → P 35 [some (vr 1 t), some (vr 1 u), some (vi v), some (vi 0)] [] (um (um (um M 1 t 10 v) 1 t 11 ((um M 1 t 10 v).1 1 u 11)) 1 t 12 ((um (um M 1 t 10 v) 1 t 11 ((um M 1 t 10 v).1 1 u 11)).1 1 u 12)) := by
    intro v hv
    subst hv
    refine loop (hn A) 0 _ (by omega) (((FH.rf.um (by omega) (by omega)).um (by omega) (by omega)).um (by omega) (by omega)) ?_ ?_ ?_ ?_ (fun a x h1 h2 hx => absurd hx (Nat.not_lt_zero x))
    · simp [um_at]; exact hr
    · simp [um_at]
    · simp [um_at, hut]; exact e11
    · simp [um_at, hut]; exact e12
  exact go [(35, 4)] 199 _ _ _ _ (key0 _ e1)
end HEAP2

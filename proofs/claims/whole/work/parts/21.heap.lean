/-! THE CLASS'S HEAP: how its rows hold a pure heap, and what its methods do to it -/
def en : Option Nat → Int32
  | none => -1
  | some p => nI p
def b2 (b : Bool) : Int32 := cond b 1 0
def CH (nx : Nat → Int32) : Int32 → List Nat → Prop
  | h, [] => h = -1
  | h, x :: r => h = nI x ∧ CH nx (nx x) r
def CR (t : Nat) (A : AH) (M : AM) : Prop :=
  M.1 1 t 0 = nI (rm t) ∧ hn A ≤ rm t ∧ M.1 1 t 10 = nI (hn A) ∧ M.1 1 t 11 = nI (lk A) ∧ M.1 1 t 12 = nI (ct A) ∧
  ∀ j, j < hn A → M.1 2 t j = hd A j ∧ M.1 3 t j = hk A j ∧ M.1 4 t j = en (hp A j) ∧ M.1 5 t j = nI (rk A j) ∧ M.1 8 t j = b2 (hs A j) ∧ M.1 9 t j = b2 (hl A j) ∧ CH (M.1 7 t) (M.1 6 t j) (hc A j)
/-- only cells of the heap t have changed -/
def FH (t : Nat) (M M' : AM) : Prop := (∀ a u i, (a = 0 ∨ 10 < a ∨ u ≠ t) → M'.1 a u i = M.1 a u i) ∧ M'.2 = M.2
theorem FH.rf {t : Nat} {M : AM} : FH t M M := ⟨fun _ _ _ _ => rfl, rfl⟩
theorem FH.tr {t : Nat} {M M1 M2 : AM} (h : FH t M M1) (h' : FH t M1 M2) : FH t M M2 := ⟨fun a u i q => (h'.1 a u i q).trans (h.1 a u i q), h'.2.trans h.2⟩
theorem um_at {M : AM} {a t i a' t' i' : Nat} {v : Int32} : (um M a t i v).1 a' t' i' = if a' = a ∧ t' = t ∧ i' = i then v else M.1 a' t' i' := rfl
theorem um_2 {M : AM} {a t i : Nat} {v : Int32} : (um M a t i v).2 = M.2 := rfl
theorem FH.um {t : Nat} {M M1 : AM} (h : FH t M M1) {a i : Nat} {v : Int32} (h1 : 1 ≤ a) (h2 : a ≤ 10) : FH t M (um M1 a t i v) := ⟨fun a' u i' q => by
  rw [um_at, if_neg (by rintro ⟨e1, e2, -⟩; omega)]
  exact h.1 a' u i' q, h.2⟩
theorem rm_le (t : Nat) : rm t ≤ 40 := by unfold rm; split <;> omega
theorem rm_ge (t : Nat) : 8 ≤ rm t := by unfold rm; split <;> omega
theorem inR {t j : Nat} (h : j < rm t) : vp_in (nI j) (rm t) := vp_in_nI h (by have := rm_le t; omega)
theorem cl40 {j : Nat} (h : j < 40) : (nI j).toNatClampNeg = j := nI_clamp (by omega)
theorem bz_b2 (b : Bool) : bz (b2 b) = b2 b := by cases b <;> rfl
theorem b2_0 {b : Bool} (h : b2 b = 0) : b = false := by cases b with
  | false => rfl
  | true => exact absurd h (by decide)
theorem b2_n0 {b : Bool} (h : ¬ b2 b = 0) : b = true := by cases b with
  | true => rfl
  | false => exact absurd rfl h
theorem nI_m1 {j : Nat} (h : j < 2 ^ 31) : nI j ≠ -1 := fun e => by
  have := congrArg Int32.toInt e
  rw [nI_toInt h] at this
  have h2 : (-1 : Int32).toInt = -1 := by decide
  omega
theorem nI_inj {a b : Nat} (ha : a < 2 ^ 31) (hb : b < 2 ^ 31) (h : nI a = nI b) : a = b := (nI_eq ha hb).mp h
theorem en_m1 {o : Option Nat} (h : en o = -1) (hb : ∀ p, o = some p → p < 2 ^ 31) : o = none := by
  cases o with
  | none => rfl
  | some p => exact absurd h (nI_m1 (hb p rfl))
theorem lt_toInt {a b : Int32} (h : ¬ b ≤ a) : a < b := by
  rw [Int32.lt_iff_toInt_lt]; rw [Int32.le_iff_toInt_le] at h; omega
theorem le_toInt {a b : Int32} (h : ¬ a < b) : b ≤ a := by
  rw [Int32.le_iff_toInt_le]; rw [Int32.lt_iff_toInt_lt] at h; omega
theorem nlt_le {a b : Int32} (h : b ≤ a) : ¬ a < b := by
  rw [Int32.lt_iff_toInt_lt]; rw [Int32.le_iff_toInt_le] at h; omega
theorem nle_lt {a b : Int32} (h : a < b) : ¬ b ≤ a := by
  rw [Int32.le_iff_toInt_le]; rw [Int32.lt_iff_toInt_lt] at h; omega
section HEAPR
variable {C : Nat → CP} {d t : Nat} {A : AH} {M : AM} {Q : RP}
theorem CR.n {t : Nat} {A : AH} {M : AM} (h : CR t A M) {j : Nat} (hj : j < hn A) : j < rm t ∧ j < 40 := by
  have h1 := h.2.1
  have h2 := rm_le t
  omega
theorem CR.fr {t : Nat} {A : AH} {M M' : AM} (h : CR t A M) (h0 : ∀ i, i ≠ 13 → i ≠ 14 → M'.1 1 t i = M.1 1 t i) (h1 : ∀ a i, 2 ≤ a → a ≤ 9 → M'.1 a t i = M.1 a t i) : CR t A M' := by
  obtain ⟨c1, c2, c3, c4, c5, c6⟩ := h
  have e7 : M'.1 7 t = M.1 7 t := funext fun i => h1 7 i (by omega) (by omega)
  refine ⟨by rw [h0 0 (by omega) (by omega)]; exact c1, c2, by rw [h0 10 (by omega) (by omega)]; exact c3, by rw [h0 11 (by omega) (by omega)]; exact c4, by rw [h0 12 (by omega) (by omega)]; exact c5, fun j hj => ?_⟩
  rw [h1 2 j (by omega) (by omega), h1 3 j (by omega) (by omega), h1 4 j (by omega) (by omega), h1 5 j (by omega) (by omega), h1 8 j (by omega) (by omega), h1 9 j (by omega) (by omega), h1 6 j (by omega) (by omega), e7]
  exact c6 j hj
/-- another heap's change -/
theorem CR.oth {t u : Nat} {A : AH} {M M' : AM} (h : CR t A M) (hf : FH u M M') (hu : u ≠ t) : CR t A M' := h.fr (fun i _ _ => hf.1 1 t i (Or.inr (Or.inr (Ne.symm hu)))) (fun a i _ _ => hf.1 a t i (Or.inr (Or.inr (Ne.symm hu))))
set_option maxRecDepth 20000 in
theorem c_isSooner (hC : ClA C) (hR : CR t A M) {a b : Nat} (ha : a < hn A) (hb : b < hn A) (h : Q (some (vi (b2 (snb A a b)))) M) : C (d + 1) n_X2_isSooner [vr 1 t, vi (nI a), vi (nI b)] M Q := by
  have ka : M.1 3 t (nI a).toNatClampNeg = hk A a := by rw [cl40 (hR.n ha).2]; exact (hR.2.2.2.2.2 a ha).2.1
  have kb : M.1 3 t (nI b).toNatClampNeg = hk A b := by rw [cl40 (hR.n hb).2]; exact (hR.2.2.2.2.2 b hb).2.1
  have ia := inR (hR.n ha).1
  have ib := inR (hR.n hb).1
  have hab : nI b ≤ nI a ↔ b ≤ a := nI_leI (by have := hR.n hb; omega) (by have := hR.n ha; omega)
  refine hC.X2_isSooner d _ M Q (fun P go => ?_)
  refine go [] 50 _ _ _ _ ⟨ia, ib, fun c1 => ?_, fun c1 => ⟨ia, ib, fun c2 => ?_, fun c2 => ⟨fun c3 => ?_, fun c3 => ?_⟩⟩⟩ <;> rw [ka, kb] at c1
  · have e : snb A a b = true := by simp [snb, c1]
    rw [e] at h
    exact ⟨rfl, h⟩
  · rw [ka, kb] at c2
    have e : snb A a b = false := by simp [snb, c1, c2]
    rw [e] at h
    exact ⟨rfl, h⟩
  · rw [ka, kb] at c2
    have e : snb A a b = false := by
      have := hab.mp c3
      simp [snb, c1, c2]
      omega
    rw [e] at h
    exact ⟨rfl, h⟩
  · rw [ka, kb] at c2
    have e : snb A a b = true := by
      have : ¬ b ≤ a := fun q => c3 (hab.mpr q)
      simp [snb, c2]
      omega
    rw [e] at h
    exact ⟨rfl, h⟩
theorem isP_f {A : AH} {j : Nat} : isP A false j = (hs A j && (hp A j).isNone) := rfl
theorem hp_lt {A : AH} (hI : Inv A) {j p : Nat} (h : hp A j = some p) : p < 2 ^ 31 := by
  have := (hI.2.2.1 j p h).2.1
  have := hI.2.2.2.2.2.2.1
  omega
set_option maxRecDepth 20000 in
theorem c_isRoot (hC : ClA C) (hR : CR t A M) (hI : Inv A) {j : Nat} (hj : j < hn A) (h : Q (some (vi (b2 (isP A false j)))) M) : C (d + 1) n_X2_isRoot [vr 1 t, vi (nI j)] M Q := by
  obtain ⟨-, -, k4, -, k8, -⟩ := hR.2.2.2.2.2 j hj
  have e4 : M.1 4 t (nI j).toNatClampNeg = en (hp A j) := by rw [cl40 (hR.n hj).2]; exact k4
  have e8 : M.1 8 t (nI j).toNatClampNeg = b2 (hs A j) := by rw [cl40 (hR.n hj).2]; exact k8
  have ij := inR (hR.n hj).1
  rw [isP_f] at h
  refine hC.X2_isRoot d _ M Q (fun P go => ?_)
  refine go [] 50 _ _ _ _ ⟨ij, fun c1 => ?_, fun c1 => ⟨ij, fun c2 => ?_, fun c2 => ?_⟩⟩ <;> rw [e8] at c1
  · rw [b2_0 c1] at h
    exact ⟨rfl, h⟩
  · rw [e4] at c2
    have e : (hp A j).isNone = false := by
      cases q : hp A j with
      | none => rw [q] at c2; exact absurd rfl c2
      | some p => rfl
    rw [e, Bool.and_false] at h
    exact ⟨rfl, h⟩
  · rw [e4] at c2
    have e := en_m1 c2 (fun p q => hp_lt hI q)
    rw [b2_n0 c1, e] at h
    exact ⟨rfl, h⟩
/-- Arrays.fill of a row -/
def Fil (a t : Nat) (v : Int32) (M M' : AM) : Prop := (∀ x y z, M'.1 x y z = if x = a ∧ y = t ∧ z < aln a t then v else M.1 x y z) ∧ M'.2 = M.2
set_option maxRecDepth 20000 in
theorem c_fill10 (hC : ClA C) {v : Int32} (h : ∀ M', Fil 10 t v M M' → Q none M') : C (d + 1) n_J7_fill_53178 [vr 10 t, vi v] M Q := by
  have hN : aln 10 t < 2 ^ 31 := by
    have := rm_le t
    show rm t < _
    omega
  generalize hNe : aln 10 t = N at hN
  have hNe' : aln 10 t = N := hNe
  refine hC.J7_fill_53178 d _ M Q (fun P go => ?_)
  have loop : ∀ k j (M1 : AM), j + k = N → (∀ x y z, M1.1 x y z = if x = 10 ∧ y = t ∧ z < j then v else M.1 x y z) → M1.2 = M.2 → P 5 [some (vr 10 t), some (vi v), some (vi (nI j)), some (vi (nI N))] [] M1 := by
    intro k
    induction k with
    | zero =>
      intro j M1 hj h1 h2
      have ej : j = N := by omega
      subst ej
      refine go [] 50 _ _ _ _ ⟨fun _ => ?_, fun c => absurd (nI_le (Nat.le_refl _) hN) c⟩
      exact h M1 ⟨by rw [hNe']; exact h1, h2⟩
    | succ k ih =>
      intro j M1 hj h1 h2
      have hjN : j < N := by omega
      refine go [(5, 4)] 50 _ _ _ _ ⟨fun c => absurd c (nI_ge hjN hN), fun _ => ⟨?_, ?_⟩⟩
      · have := vp_in_nI hjN hN
        rw [← hNe'] at this
        exact this
      · have e1 : (nI j).toNatClampNeg = j := nI_clamp (by omega)
        have := ih (j + 1) (um M1 10 t (nI j).toNatClampNeg v) (by omega) (fun x y z => by
          rw [um_at, e1, h1]
          by_cases q : x = 10 ∧ y = t
          · obtain ⟨q1, q2⟩ := q
            subst q1; subst q2
            by_cases q3 : z = j
            · subst q3; simp
            · by_cases q4 : z < j
              · have : z < j + 1 := by omega
                simp [q3, q4, this]
              · have : ¬ z < j + 1 := by omega
                simp [q3, q4, this]
          · have q1 : ¬ (x = 10 ∧ y = t ∧ z = j) := fun e => q ⟨e.1, e.2.1⟩
            have q2 : ¬ (x = 10 ∧ y = t ∧ z < j) := fun e => q ⟨e.1, e.2.1⟩
            have q3 : ¬ (x = 10 ∧ y = t ∧ z < j + 1) := fun e => q ⟨e.1, e.2.1⟩
            rw [if_neg q1, if_neg q2, if_neg q3]) h2
        rw [← nI_1] at this
        exact this
  have h0 := loop N 0 M (by omega) (fun x y z => by rw [if_neg]; omega) rfl
  rw [← hNe'] at h0
  exact go [(5, 4)] 50 _ _ _ _ h0
set_option maxRecDepth 20000 in
theorem c_fill12 (hC : ClA C) {v : Int32} (h : ∀ M', Fil 12 t v M M' → Q none M') : C (d + 1) n_J7_fill_53178 [vr 12 t, vi v] M Q := by
  have hN : aln 12 t < 2 ^ 31 := by
    have := rm_le t
    show 16 < _
    omega
  generalize hNe : aln 12 t = N at hN
  have hNe' : aln 12 t = N := hNe
  refine hC.J7_fill_53178 d _ M Q (fun P go => ?_)
  have loop : ∀ k j (M1 : AM), j + k = N → (∀ x y z, M1.1 x y z = if x = 12 ∧ y = t ∧ z < j then v else M.1 x y z) → M1.2 = M.2 → P 5 [some (vr 12 t), some (vi v), some (vi (nI j)), some (vi (nI N))] [] M1 := by
    intro k
    induction k with
    | zero =>
      intro j M1 hj h1 h2
      have ej : j = N := by omega
      subst ej
      refine go [] 50 _ _ _ _ ⟨fun _ => ?_, fun c => absurd (nI_le (Nat.le_refl _) hN) c⟩
      exact h M1 ⟨by rw [hNe']; exact h1, h2⟩
    | succ k ih =>
      intro j M1 hj h1 h2
      have hjN : j < N := by omega
      refine go [(5, 4)] 50 _ _ _ _ ⟨fun c => absurd c (nI_ge hjN hN), fun _ => ⟨?_, ?_⟩⟩
      · have := vp_in_nI hjN hN
        rw [← hNe'] at this
        exact this
      · have e1 : (nI j).toNatClampNeg = j := nI_clamp (by omega)
        have := ih (j + 1) (um M1 12 t (nI j).toNatClampNeg v) (by omega) (fun x y z => by
          rw [um_at, e1, h1]
          by_cases q : x = 12 ∧ y = t
          · obtain ⟨q1, q2⟩ := q
            subst q1; subst q2
            by_cases q3 : z = j
            · subst q3; simp
            · by_cases q4 : z < j
              · have : z < j + 1 := by omega
                simp [q3, q4, this]
              · have : ¬ z < j + 1 := by omega
                simp [q3, q4, this]
          · have q1 : ¬ (x = 12 ∧ y = t ∧ z = j) := fun e => q ⟨e.1, e.2.1⟩
            have q2 : ¬ (x = 12 ∧ y = t ∧ z < j) := fun e => q ⟨e.1, e.2.1⟩
            have q3 : ¬ (x = 12 ∧ y = t ∧ z < j + 1) := fun e => q ⟨e.1, e.2.1⟩
            rw [if_neg q1, if_neg q2, if_neg q3]) h2
        rw [← nI_1] at this
        exact this
  have h0 := loop N 0 M (by omega) (fun x y z => by rw [if_neg]; omega) rfl
  rw [← hNe'] at h0
  exact go [(5, 4)] 50 _ _ _ _ h0
set_option maxRecDepth 20000 in
theorem c_fill17 (hC : ClA C) {v : Int32} (h : ∀ M', Fil 17 t v M M' → Q none M') : C (d + 1) n_J7_fill_53178 [vr 17 t, vi v] M Q := by
  have hN : aln 17 t < 2 ^ 31 := by
    have := rm_le t
    show 8 < _
    omega
  generalize hNe : aln 17 t = N at hN
  have hNe' : aln 17 t = N := hNe
  refine hC.J7_fill_53178 d _ M Q (fun P go => ?_)
  have loop : ∀ k j (M1 : AM), j + k = N → (∀ x y z, M1.1 x y z = if x = 17 ∧ y = t ∧ z < j then v else M.1 x y z) → M1.2 = M.2 → P 5 [some (vr 17 t), some (vi v), some (vi (nI j)), some (vi (nI N))] [] M1 := by
    intro k
    induction k with
    | zero =>
      intro j M1 hj h1 h2
      have ej : j = N := by omega
      subst ej
      refine go [] 50 _ _ _ _ ⟨fun _ => ?_, fun c => absurd (nI_le (Nat.le_refl _) hN) c⟩
      exact h M1 ⟨by rw [hNe']; exact h1, h2⟩
    | succ k ih =>
      intro j M1 hj h1 h2
      have hjN : j < N := by omega
      refine go [(5, 4)] 50 _ _ _ _ ⟨fun c => absurd c (nI_ge hjN hN), fun _ => ⟨?_, ?_⟩⟩
      · have := vp_in_nI hjN hN
        rw [← hNe'] at this
        exact this
      · have e1 : (nI j).toNatClampNeg = j := nI_clamp (by omega)
        have := ih (j + 1) (um M1 17 t (nI j).toNatClampNeg v) (by omega) (fun x y z => by
          rw [um_at, e1, h1]
          by_cases q : x = 17 ∧ y = t
          · obtain ⟨q1, q2⟩ := q
            subst q1; subst q2
            by_cases q3 : z = j
            · subst q3; simp
            · by_cases q4 : z < j
              · have : z < j + 1 := by omega
                simp [q3, q4, this]
              · have : ¬ z < j + 1 := by omega
                simp [q3, q4, this]
          · have q1 : ¬ (x = 17 ∧ y = t ∧ z = j) := fun e => q ⟨e.1, e.2.1⟩
            have q2 : ¬ (x = 17 ∧ y = t ∧ z < j) := fun e => q ⟨e.1, e.2.1⟩
            have q3 : ¬ (x = 17 ∧ y = t ∧ z < j + 1) := fun e => q ⟨e.1, e.2.1⟩
            rw [if_neg q1, if_neg q2, if_neg q3]) h2
        rw [← nI_1] at this
        exact this
  have h0 := loop N 0 M (by omega) (fun x y z => by rw [if_neg]; omega) rfl
  rw [← hNe'] at h0
  exact go [(5, 4)] 50 _ _ _ _ h0
end HEAPR

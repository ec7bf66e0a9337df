section READS
variable {C : Nat → CP} {d t : Nat} {A : AH} {M : AM} {Q : RP}
def sstU (A : AH) : Nat → Option Nat
  | 0 => none
  | j + 1 => cond (hs A j) (match sstU A j with
    | none => some j
    | some b => cond (snb A j b) (some j) (some b)) (sstU A j)
abbrev soonA (A : AH) : Option Nat := sstU A (hn A)
theorem sstU_lt {A : AH} : ∀ (j : Nat) {x : Nat}, sstU A j = some x → x < j ∧ hs A x = true
  | 0, x, h => by cases h
  | j + 1, x, h => by
    unfold sstU at h
    cases e : hs A j with
    | false =>
      rw [e] at h
      have := sstU_lt j (x := x) h
      exact ⟨by omega, this.2⟩
    | true =>
      rw [e] at h
      have h : (match sstU A j with | none => some j | some b => cond (snb A j b) (some j) (some b)) = some x := h
      split at h
      · cases h; exact ⟨by omega, e⟩
      · rename_i b hb
        cases e2 : snb A j b with
        | true => rw [e2] at h; cases h; exact ⟨by omega, e⟩
        | false =>
          rw [e2] at h; cases h
          have := sstU_lt j hb
          exact ⟨by omega, this.2⟩
def cU (p : Nat → Bool) (j : Nat) : Nat := (List.range j).countP p
theorem cU_s (p : Nat → Bool) (j : Nat) : cU p (j + 1) = cU p j + (cond (p j) 1 0) := by
  unfold cU
  rw [List.range_succ, List.countP_append]
  simp only [List.countP_cons, List.countP_nil]
  cases p j <;> simp
theorem cU_le (p : Nat → Bool) (j : Nat) : cU p j ≤ j := cnt_le p j
theorem fi_some {p : Nat → Bool} {j : Nat} : ∀ (n : Nat), j < n → p j = true → (∀ x, x < j → p x = false) → (List.range n).find? p = some j := by
  intro n
  induction n with
  | zero => intro h; omega
  | succ n ih =>
    intro h1 h2 h3
    rw [List.range_succ, List.find?_append]
    by_cases e : j = n
    · subst e
      have : (List.range j).find? p = none := by
        rw [List.find?_eq_none]
        intro x hx
        rw [h3 x (List.mem_range.mp hx)]
        decide
      rw [this]
      simp [h2]
    · rw [ih (by omega) h2 h3]
      rfl
theorem fi_none {p : Nat → Bool} {n : Nat} (h : ∀ x, x < n → p x = false) : (List.range n).find? p = none := by
  rw [List.find?_eq_none]
  intro x hx
  rw [h x (List.mem_range.mp hx)]
  decide
/-- what every row says of a job -/
theorem CR.row (hR : CR t A M) {j : Nat} (hj : j < hn A) : vp_in (nI j) (rm t) ∧ M.1 2 t (nI j).toNatClampNeg = hd A j ∧ M.1 3 t (nI j).toNatClampNeg = hk A j ∧ M.1 4 t (nI j).toNatClampNeg = en (hp A j) ∧ M.1 5 t (nI j).toNatClampNeg = nI (rk A j) ∧ M.1 8 t (nI j).toNatClampNeg = b2 (hs A j) ∧ M.1 9 t (nI j).toNatClampNeg = b2 (hl A j) ∧ CH (M.1 7 t) (M.1 6 t (nI j).toNatClampNeg) (hc A j) := by
  rw [cl40 (hR.n hj).2]
  exact ⟨inR (hR.n hj).1, hR.2.2.2.2.2 j hj⟩
set_option maxRecDepth 20000 in
theorem c_soonest (hC : ClA C) (hR : CR t A M) (h : Q (some (vi (en (soonA A)))) M) : C (d + 2) n_X2_soonest [vr 1 t] M Q := by
  have hn1 := hR.2.1
  have hrm := rm_le t
  have e10 := hR.2.2.1
  refine hC.X2_soonest (d + 1) _ M Q (fun P go => ?_)
  have loop : ∀ k j, j + k = hn A → P 4 [some (vr 1 t), some (vi (en (sstU A j))), some (vi (nI j))] [] M := by
    intro k
    induction k with
    | zero =>
      intro j hj
      have ej : j = hn A := by omega
      subst ej
      exact go [] 99 _ _ _ _ ⟨fun _ => h, fun c => absurd (by rw [e10]; exact nI_le (Nat.le_refl _) (by omega)) c⟩
    | succ k ih =>
      intro j hj
      have hjn : j < hn A := by omega
      obtain ⟨ij, -, -, -, -, e8, -⟩ := hR.row hjn
      have nx := ih (j + 1) (by omega)
      rw [← nI_1] at nx
      unfold sstU at nx
      refine go [(4, 3)] 99 _ _ _ _ ⟨fun c => absurd (by rw [e10] at c; exact c) (nI_ge hjn (by omega)), fun _ => ⟨ij, fun c => ?_, fun c => ?_⟩⟩ <;> rw [e8] at c
      · rw [b2_0 c] at nx
        exact nx
      · rw [b2_n0 c] at nx
        cases hb : sstU A j with
        | none =>
          rw [hb] at nx
          exact ⟨fun _ => nx, fun c => absurd rfl c⟩
        | some b =>
          rw [hb] at nx
          have hb1 := (sstU_lt j hb).1
          refine ⟨fun c => absurd c (nI_m1 (by omega)), fun _ => ?_⟩
          refine c_isSooner hC hR hjn (b := b) (by omega) ?_
          refine ⟨fun c => ?_, fun c => ?_⟩
          · have nx : P 4 [some (vr 1 t), some (vi (en (cond (snb A j b) (some j) (some b)))), some (vi (nI j + 1))] [] M := nx
            rw [b2_0 c] at nx
            exact nx
          · have nx : P 4 [some (vr 1 t), some (vi (en (cond (snb A j b) (some j) (some b)))), some (vi (nI j + 1))] [] M := nx
            rw [b2_n0 c] at nx
            exact nx
  exact go [(4, 3)] 99 _ _ _ _ (loop (hn A) 0 (by omega))
set_option maxRecDepth 20000 in
theorem c_standingCount (hC : ClA C) (hR : CR t A M) (h : Q (some (vi (nI (cU (hs A) (hn A))))) M) : C (d + 1) n_X2_standingCount [vr 1 t] M Q := by
  have hn1 := hR.2.1
  have hrm := rm_le t
  have e10 := hR.2.2.1
  refine hC.X2_standingCount d _ M Q (fun P go => ?_)
  have loop : ∀ k j, j + k = hn A → P 4 [some (vr 1 t), some (vi (nI (cU (hs A) j))), some (vi (nI j))] [] M := by
    intro k
    induction k with
    | zero =>
      intro j hj
      have ej : j = hn A := by omega
      subst ej
      exact go [] 99 _ _ _ _ ⟨fun _ => h, fun c => absurd (by rw [e10]; exact nI_le (Nat.le_refl _) (by omega)) c⟩
    | succ k ih =>
      intro j hj
      have hjn : j < hn A := by omega
      obtain ⟨ij, -, -, -, -, e8, -⟩ := hR.row hjn
      have nx := ih (j + 1) (by omega)
      rw [← nI_1 j, cU_s] at nx
      refine go [(4, 3)] 99 _ _ _ _ ⟨fun c => absurd (by rw [e10] at c; exact c) (nI_ge hjn (by omega)), fun _ => ⟨ij, fun c => ?_, fun c => ?_⟩⟩ <;> rw [e8] at c
      · rw [b2_0 c] at nx
        exact nx
      · rw [b2_n0 c] at nx
        have nx : P 4 [some (vr 1 t), some (vi (nI (cU (hs A) j + 1))), some (vi (nI j + 1))] [] M := nx
        rw [← nI_1] at nx
        exact nx
  exact go [(4, 3)] 99 _ _ _ _ (loop (hn A) 0 (by omega))
set_option maxRecDepth 20000 in
theorem c_looseCount (hC : ClA C) (hR : CR t A M) (h : Q (some (vi (nI (cU (hl A) (hn A))))) M) : C (d + 1) n_X2_looseCount [vr 1 t] M Q := by
  have hn1 := hR.2.1
  have hrm := rm_le t
  have e10 := hR.2.2.1
  refine hC.X2_looseCount d _ M Q (fun P go => ?_)
  have loop : ∀ k j, j + k = hn A → P 4 [some (vr 1 t), some (vi (nI (cU (hl A) j))), some (vi (nI j))] [] M := by
    intro k
    induction k with
    | zero =>
      intro j hj
      have ej : j = hn A := by omega
      subst ej
      exact go [] 99 _ _ _ _ ⟨fun _ => h, fun c => absurd (by rw [e10]; exact nI_le (Nat.le_refl _) (by omega)) c⟩
    | succ k ih =>
      intro j hj
      have hjn : j < hn A := by omega
      obtain ⟨ij, -, -, -, -, -, e9, -⟩ := hR.row hjn
      have nx := ih (j + 1) (by omega)
      rw [← nI_1 j, cU_s] at nx
      refine go [(4, 3)] 99 _ _ _ _ ⟨fun c => absurd (by rw [e10] at c; exact c) (nI_ge hjn (by omega)), fun _ => ⟨ij, fun c => ?_, fun c => ?_⟩⟩ <;> rw [e9] at c
      · rw [b2_0 c] at nx
        exact nx
      · rw [b2_n0 c] at nx
        have nx : P 4 [some (vr 1 t), some (vi (nI (cU (hl A) j + 1))), some (vi (nI j + 1))] [] M := nx
        rw [← nI_1] at nx
        exact nx
  exact go [(4, 3)] 99 _ _ _ _ (loop (hn A) 0 (by omega))
set_option maxRecDepth 20000 in
theorem c_rootCount (hC : ClA C) (hR : CR t A M) (hI : Inv A) (h : Q (some (vi (nI (cU (isP A false) (hn A))))) M) : C (d + 2) n_X2_rootCount [vr 1 t] M Q := by
  have hn1 := hR.2.1
  have hrm := rm_le t
  have e10 := hR.2.2.1
  refine hC.X2_rootCount (d + 1) _ M Q (fun P go => ?_)
  have loop : ∀ k j, j + k = hn A → P 4 [some (vr 1 t), some (vi (nI (cU (isP A false) j))), some (vi (nI j))] [] M := by
    intro k
    induction k with
    | zero =>
      intro j hj
      have ej : j = hn A := by omega
      subst ej
      exact go [] 99 _ _ _ _ ⟨fun _ => h, fun c => absurd (by rw [e10]; exact nI_le (Nat.le_refl _) (by omega)) c⟩
    | succ k ih =>
      intro j hj
      have hjn : j < hn A := by omega
      have nx := ih (j + 1) (by omega)
      rw [← nI_1 j, cU_s] at nx
      refine go [(4, 3)] 99 _ _ _ _ ⟨fun c => absurd (by rw [e10] at c; exact c) (nI_ge hjn (by omega)), fun _ => ?_⟩
      refine c_isRoot hC hR hI hjn ?_
      refine ⟨fun c => ?_, fun c => ?_⟩
      · rw [b2_0 c] at nx
        exact nx
      · rw [b2_n0 c] at nx
        have nx : P 4 [some (vr 1 t), some (vi (nI (cU (isP A false) j + 1))), some (vi (nI j + 1))] [] M := nx
        rw [← nI_1] at nx
        exact nx
  exact go [(4, 3)] 99 _ _ _ _ (loop (hn A) 0 (by omega))
def sAt (A : AH) (k : Nat) : Option Nat := (List.range (hn A)).find? (fun x => hs A x && decide (cU (hs A) x = k))
set_option maxRecDepth 20000 in
theorem c_standingAt (hC : ClA C) (hR : CR t A M) {k : Nat} (hk1 : k < 2 ^ 31) (h : Q (some (vi (en (sAt A k)))) M) : C (d + 1) n_X2_standingAt [vr 1 t, vi (nI k)] M Q := by
  have hn1 := hR.2.1
  have hrm := rm_le t
  have e10 := hR.2.2.1
  refine hC.X2_standingAt d _ M Q (fun P go => ?_)
  have loop : ∀ f j, j + f = hn A → (∀ x, x < j → (hs A x && decide (cU (hs A) x = k)) = false) → cU (hs A) j ≤ k → P 4 [some (vr 1 t), some (vi (nI k)), some (vi (nI (k - cU (hs A) j))), some (vi (nI j))] [] M := by
    intro f
    induction f with
    | zero =>
      intro j hj hno hle
      have ej : j = hn A := by omega
      subst ej
      have e : sAt A k = none := fi_none hno
      rw [e] at h
      exact go [] 99 _ _ _ _ ⟨fun _ => h, fun c => absurd (by rw [e10]; exact nI_le (Nat.le_refl _) (by omega)) c⟩
    | succ f ih =>
      intro j hj hno hle
      have hjn : j < hn A := by omega
      obtain ⟨ij, -, -, -, -, e8, -⟩ := hR.row hjn
      refine go [(4, 4)] 99 _ _ _ _ ⟨fun c => absurd (by rw [e10] at c; exact c) (nI_ge hjn (by omega)), fun _ => ⟨ij, fun c => ?_, fun c => ⟨fun c2 => ?_, fun c2 => ?_⟩⟩⟩ <;> rw [e8] at c
      · have e1 := b2_0 c
        have nx := ih (j + 1) (by omega) (fun x hx => by
          by_cases ex : x = j
          · rw [ex, e1]; rfl
          · exact hno x (by omega)) (by rw [cU_s, e1]; exact hle)
        rw [← nI_1 j, cU_s, e1] at nx
        exact nx
      · have e1 := b2_n0 c
        have hlt : cU (hs A) j < k := by
          rcases Nat.lt_or_ge (cU (hs A) j) k with q | q
          · exact q
          · exact absurd (by rw [show k - cU (hs A) j = 0 by omega]; rfl) c2
        have nx := ih (j + 1) (by omega) (fun x hx => by
          by_cases ex : x = j
          · have : ¬ cU (hs A) j = k := by omega
            rw [ex, decide_eq_false this, Bool.and_false]
          · exact hno x (by omega)) (by rw [cU_s, e1]; exact hlt)
        rw [← nI_1 j, cU_s, e1] at nx
        have e2 : nI (k - cU (hs A) j) + -1 = nI (k - (cU (hs A) j + 1)) := by
          rw [show k - cU (hs A) j = (k - (cU (hs A) j + 1)) + 1 by omega]
          exact pk_m1 _
        have nx : P 4 [some (vr 1 t), some (vi (nI k)), some (vi (nI (k - (cU (hs A) j + 1)))), some (vi (nI j + 1))] [] M := nx
        rw [← e2] at nx
        exact nx
      · have e1 := b2_n0 c
        have hz : k - cU (hs A) j = 0 := by
          have := nI_toInt (n := k - cU (hs A) j) (by omega)
          rw [c2] at this
          have h0 : (0 : Int32).toInt = 0 := by decide
          omega
        have e : sAt A k = some j := fi_some _ hjn (by rw [e1, decide_eq_true (show cU (hs A) j = k by omega)]; rfl) hno
        rw [e] at h
        exact h
  have := loop (hn A) 0 (by omega) (fun x hx => absurd hx (Nat.not_lt_zero x)) (Nat.zero_le _)
  exact go [(4, 4)] 99 _ _ _ _ this
def lOf (A : AH) (r : Int32) : Option Nat := (List.range (hn A)).find? (fun x => hl A x && decide (nI (rk A x) = r))
set_option maxRecDepth 20000 in
theorem c_looseOfRank (hC : ClA C) (hR : CR t A M) {r : Int32} (h : Q (some (vi (en (lOf A r)))) M) : C (d + 1) n_X2_looseOfRank [vr 1 t, vi r] M Q := by
  have hn1 := hR.2.1
  have hrm := rm_le t
  have e10 := hR.2.2.1
  refine hC.X2_looseOfRank d _ M Q (fun P go => ?_)
  have loop : ∀ f j, j + f = hn A → (∀ x, x < j → (hl A x && decide (nI (rk A x) = r)) = false) → P 2 [some (vr 1 t), some (vi r), some (vi (nI j))] [] M := by
    intro f
    induction f with
    | zero =>
      intro j hj hno
      have ej : j = hn A := by omega
      subst ej
      have e : lOf A r = none := fi_none hno
      rw [e] at h
      exact go [] 99 _ _ _ _ ⟨fun _ => h, fun c => absurd (by rw [e10]; exact nI_le (Nat.le_refl _) (by omega)) c⟩
    | succ f ih =>
      intro j hj hno
      have hjn : j < hn A := by omega
      obtain ⟨ij, -, -, -, e5, -, e9, -⟩ := hR.row hjn
      have nx : (hl A j && decide (nI (rk A j) = r)) = false → P 2 [some (vr 1 t), some (vi r), some (vi (nI j + 1))] [] M := by
        intro hq
        have := ih (j + 1) (by omega) (fun x hx => by
          by_cases ex : x = j
          · rw [ex]; exact hq
          · exact hno x (by omega))
        rw [← nI_1] at this
        exact this
      refine go [(2, 3)] 99 _ _ _ _ ⟨fun c => absurd (by rw [e10] at c; exact c) (nI_ge hjn (by omega)), fun _ => ⟨ij, fun c => ?_, fun c => ⟨ij, fun c2 => ?_, fun c2 => ?_⟩⟩⟩ <;> rw [e9] at c
      · exact nx (by rw [b2_0 c]; rfl)
      · rw [e5] at c2
        exact nx (by rw [decide_eq_false c2, Bool.and_false])
      · rw [e5] at c2
        have e : lOf A r = some j := fi_some _ hjn (by rw [b2_n0 c, decide_eq_true c2]; rfl) hno
        rw [e] at h
        exact h
  exact go [(2, 3)] 99 _ _ _ _ (loop (hn A) 0 (by omega) (fun x hx => absurd hx (Nat.not_lt_zero x)))
def gmU (A : AH) : Nat → Int32
  | 0 => -1
  | j + 1 => cond (hs A j) (if gmU A j < nI (rk A j) then nI (rk A j) else gmU A j) (gmU A j)
set_option maxRecDepth 20000 in
theorem c_greatestRank (hC : ClA C) (hR : CR t A M) (h : Q (some (vi (gmU A (hn A)))) M) : C (d + 1) n_X2_greatestRank [vr 1 t] M Q := by
  have hn1 := hR.2.1
  have hrm := rm_le t
  have e10 := hR.2.2.1
  refine hC.X2_greatestRank d _ M Q (fun P go => ?_)
  have loop : ∀ f j, j + f = hn A → P 4 [some (vr 1 t), some (vi (gmU A j)), some (vi (nI j))] [] M := by
    intro f
    induction f with
    | zero =>
      intro j hj
      have ej : j = hn A := by omega
      subst ej
      exact go [] 99 _ _ _ _ ⟨fun _ => h, fun c => absurd (by rw [e10]; exact nI_le (Nat.le_refl _) (by omega)) c⟩
    | succ f ih =>
      intro j hj
      have hjn : j < hn A := by omega
      obtain ⟨ij, -, -, -, e5, e8, -⟩ := hR.row hjn
      have nx := ih (j + 1) (by omega)
      rw [← nI_1] at nx
      unfold gmU at nx
      refine go [(4, 3)] 99 _ _ _ _ ⟨fun c => absurd (by rw [e10] at c; exact c) (nI_ge hjn (by omega)), fun _ => ⟨ij, fun c => ?_, fun c => ⟨ij, ?_⟩⟩⟩
      · rw [e8] at c
        rw [b2_0 c] at nx
        exact nx
      · rw [e8] at c
        rw [b2_n0 c, ← e5] at nx
        exact nx
  exact go [(4, 3)] 99 _ _ _ _ (loop (hn A) 0 (by omega))
def smU (A : AH) : Nat → Int32
  | 0 => 0
  | j + 1 => cond (hs A j) (smU A j + hk A j) (smU A j)
set_option maxRecDepth 20000 in
theorem c_sumOfKeys (hC : ClA C) (hR : CR t A M) (h : Q (some (vi (smU A (hn A)))) M) : C (d + 1) n_X2_sumOfKeys [vr 1 t] M Q := by
  have hn1 := hR.2.1
  have hrm := rm_le t
  have e10 := hR.2.2.1
  refine hC.X2_sumOfKeys d _ M Q (fun P go => ?_)
  have loop : ∀ f j, j + f = hn A → P 4 [some (vr 1 t), some (vi (smU A j)), some (vi (nI j))] [] M := by
    intro f
    induction f with
    | zero =>
      intro j hj
      have ej : j = hn A := by omega
      subst ej
      exact go [] 99 _ _ _ _ ⟨fun _ => h, fun c => absurd (by rw [e10]; exact nI_le (Nat.le_refl _) (by omega)) c⟩
    | succ f ih =>
      intro j hj
      have hjn : j < hn A := by omega
      obtain ⟨ij, -, e3, -, -, e8, -⟩ := hR.row hjn
      have nx := ih (j + 1) (by omega)
      rw [← nI_1] at nx
      unfold smU at nx
      refine go [(4, 3)] 99 _ _ _ _ ⟨fun c => absurd (by rw [e10] at c; exact c) (nI_ge hjn (by omega)), fun _ => ⟨ij, fun c => ?_, fun c => ⟨ij, ?_⟩⟩⟩
      · rw [e8] at c
        rw [b2_0 c] at nx
        exact nx
      · rw [e8] at c
        rw [b2_n0 c, ← e3] at nx
        exact nx
  exact go [(4, 3)] 99 _ _ _ _ (loop (hn A) 0 (by omega))
def dpF (A : AH) : Nat → Option Nat → Nat
  | 0, _ => 0
  | _ + 1, none => 0
  | f + 1, some x => dpF A f (hp A x) + 1
set_option maxRecDepth 20000 in
theorem c_depthOf (hC : ClA C) (hR : CR t A M) (hI : Inv A) {j : Nat} (hj : j < hn A) (h : Q (some (vi (nI (dpF A (rm t) (hp A j))))) M) : C (d + 1) n_X2_depthOf [vr 1 t, vi (nI j)] M Q := by
  have hn1 := hR.2.1
  have hrm := rm_le t
  have e0 := hR.1
  obtain ⟨ij, -, -, e4, -⟩ := hR.row hj
  refine hC.X2_depthOf d _ M Q (fun P go => ?_)
  have loop : ∀ f dep (o : Option Nat), dep + f = rm t → (∀ x, o = some x → x < hn A) → dep + dpF A f o = dpF A (rm t) (hp A j) → P 9 [some (vr 1 t), some (vi (nI j)), some (vi (nI dep)), some (vi (en o))] [] M := by
    intro f
    induction f with
    | zero =>
      intro dep o hd1 ho he
      have e : dep = dpF A (rm t) (hp A j) := by rw [← he]; rfl
      rw [← e] at h
      exact go [] 99 _ _ _ _ ⟨fun _ => h, fun c => absurd (by rw [e0]; exact nI_le (by omega) (by omega)) c⟩
    | succ f ih =>
      intro dep o hd1 ho he
      refine go [(9, 4)] 99 _ _ _ _ ⟨fun c => absurd (by rw [e0] at c; exact c) (nI_ge (by omega) (by omega)), fun _ => ?_⟩
      cases o with
      | none =>
        have e : dep = dpF A (rm t) (hp A j) := by rw [← he]; rfl
        rw [← e] at h
        exact ⟨fun _ => h, fun c => absurd rfl c⟩
      | some x =>
        have hx := ho x rfl
        obtain ⟨ix, -, -, e4, -⟩ := hR.row hx
        refine ⟨fun c => absurd c (nI_m1 (by omega)), fun _ => ⟨ix, ?_⟩⟩
        have := ih (dep + 1) (hp A x) (by omega) (fun y hy => (hI.2.2.1 x y hy).2.1) (by rw [← he]; show _ = dep + (dpF A f (hp A x) + 1); omega)
        rw [← nI_1, ← e4] at this
        exact this
  refine go [(9, 4)] 99 _ _ _ _ ⟨ij, ?_⟩
  have := loop (rm t) 0 (hp A j) (by omega) (fun y hy => (hI.2.2.1 j y hy).2.1) (by omega)
  rw [← e4] at this
  exact this
def lgU (A : AH) (f : Nat) : Nat → Int32
  | 0 => 0
  | j + 1 => cond (hs A j) (if lgU A f j < nI (dpF A f (hp A j)) + 1 then nI (dpF A f (hp A j)) + 1 else lgU A f j) (lgU A f j)
set_option maxRecDepth 20000 in
theorem c_longestRow (hC : ClA C) (hR : CR t A M) (hI : Inv A) (h : Q (some (vi (lgU A (rm t) (hn A)))) M) : C (d + 2) n_X2_longestRow [vr 1 t] M Q := by
  have hn1 := hR.2.1
  have hrm := rm_le t
  have e10 := hR.2.2.1
  refine hC.X2_longestRow (d + 1) _ M Q (fun P go => ?_)
  have loop : ∀ f j, j + f = hn A → P 4 [some (vr 1 t), some (vi (lgU A (rm t) j)), some (vi (nI j))] [] M := by
    intro f
    induction f with
    | zero =>
      intro j hj
      have ej : j = hn A := by omega
      subst ej
      exact go [] 99 _ _ _ _ ⟨fun _ => h, fun c => absurd (by rw [e10]; exact nI_le (Nat.le_refl _) (by omega)) c⟩
    | succ f ih =>
      intro j hj
      have hjn : j < hn A := by omega
      obtain ⟨ij, -, -, -, -, e8, -⟩ := hR.row hjn
      have nx := ih (j + 1) (by omega)
      rw [← nI_1] at nx
      unfold lgU at nx
      refine go [(4, 3)] 99 _ _ _ _ ⟨fun c => absurd (by rw [e10] at c; exact c) (nI_ge hjn (by omega)), fun _ => ⟨ij, fun c => ?_, fun c => ?_⟩⟩
      · rw [e8] at c
        rw [b2_0 c] at nx
        exact nx
      · rw [e8] at c
        rw [b2_n0 c] at nx
        exact c_depthOf hC hR hI hjn nx
  exact go [(4, 3)] 99 _ _ _ _ (loop (hn A) 0 (by omega))
def wiF (A : AH) : Nat → Option Nat → Nat → Bool
  | 0, o, u => decide (o = some u)
  | _ + 1, none, _ => false
  | f + 1, some x, u => if x = u then true else wiF A f (hp A x) u
set_option maxRecDepth 20000 in
theorem c_isWithin (hC : ClA C) (hR : CR t A M) (hI : Inv A) {j u : Nat} (hj : j < hn A) (hu : u < hn A) (h : Q (some (vi (b2 (wiF A (rm t) (some j) u)))) M) : C (d + 1) n_X2_isWithin [vr 1 t, vi (nI j), vi (nI u)] M Q := by
  have hn1 := hR.2.1
  have hrm := rm_le t
  have e0 := hR.1
  refine hC.X2_isWithin d _ M Q (fun P go => ?_)
  have fin : ∀ (o : Option Nat), (∀ x, o = some x → x < hn A) → wiF A (rm t) (some j) u = decide (o = some u) → P 37 [some (vr 1 t), some (vi (nI j)), some (vi (nI u)), some (vi (en o))] [] M := by
    intro o ho hw
    rw [hw] at h
    refine go [] 99 _ _ _ _ ⟨fun c => ?_, fun c => ?_⟩
    · have : ¬ o = some u := fun e => c (by rw [e]; rfl)
      rw [decide_eq_false this] at h
      exact ⟨rfl, h⟩
    · have : o = some u := by
        cases o with
        | none => exact absurd c.symm (nI_m1 (by omega))
        | some x => rw [nI_inj (by have := ho x rfl; omega) (by omega) c]
      rw [decide_eq_true this] at h
      exact ⟨rfl, h⟩
  have loop : ∀ f st (o : Option Nat), st + f = rm t → (∀ x, o = some x → x < hn A) → wiF A f o u = wiF A (rm t) (some j) u → P 5 [some (vr 1 t), some (vi (nI j)), some (vi (nI u)), some (vi (en o)), some (vi (nI st))] [] M := by
    intro f
    induction f with
    | zero =>
      intro st o h1 ho he
      exact go [(37, 4)] 99 _ _ _ _ ⟨fun _ => fin o ho (by rw [← he]; rfl), fun c => absurd (by rw [e0]; exact nI_le (by omega) (by omega)) c⟩
    | succ f ih =>
      intro st o h1 ho he
      refine go [(37, 4), (5, 5)] 99 _ _ _ _ ⟨fun c => absurd (by rw [e0] at c; exact c) (nI_ge (by omega) (by omega)), fun _ => ?_⟩
      cases o with
      | none => exact ⟨fun _ => fin none ho (by rw [← he]; rfl), fun c => absurd rfl c⟩
      | some x =>
        have hx := ho x rfl
        obtain ⟨ix, -, -, e4, -⟩ := hR.row hx
        refine ⟨fun c => absurd c (nI_m1 (by omega)), fun _ => ⟨fun c => ?_, fun c => ⟨ix, ?_⟩⟩⟩
        · have exu : x = u := nI_inj (by omega) (by omega) c
          refine fin (some x) ho ?_
          rw [← he, exu]
          show (if u = u then true else _) = _
          rw [if_pos rfl]
          simp
        · have exu : x ≠ u := fun e => c (by rw [e]; rfl)
          have := ih (st + 1) (hp A x) (by omega) (fun y hy => (hI.2.2.1 x y hy).2.1) (by
            rw [← he]
            show _ = if x = u then true else wiF A f (hp A x) u
            rw [if_neg exu])
          rw [← nI_1, ← e4] at this
          exact this
  exact go [(5, 5)] 99 _ _ _ _ (loop (rm t) 0 (some j) (by omega) (fun x e => by cases e; exact hj) rfl)
set_option maxRecDepth 20000 in
theorem c_sizeOf (hC : ClA C) (hR : CR t A M) (hI : Inv A) {u : Nat} (hu : u < hn A) (h : Q (some (vi (nI (cU (fun x => hs A x && wiF A (rm t) (some x) u) (hn A))))) M) : C (d + 2) n_X2_sizeOf [vr 1 t, vi (nI u)] M Q := by
  have hn1 := hR.2.1
  have hrm := rm_le t
  have e10 := hR.2.2.1
  refine hC.X2_sizeOf (d + 1) _ M Q (fun P go => ?_)
  have loop : ∀ k j, j + k = hn A → P 4 [some (vr 1 t), some (vi (nI u)), some (vi (nI (cU (fun x => hs A x && wiF A (rm t) (some x) u) j))), some (vi (nI j))] [] M := by
    intro k
    induction k with
    | zero =>
      intro j hj
      have ej : j = hn A := by omega
      subst ej
      exact go [] 99 _ _ _ _ ⟨fun _ => h, fun c => absurd (by rw [e10]; exact nI_le (Nat.le_refl _) (by omega)) c⟩
    | succ k ih =>
      intro j hj
      have hjn : j < hn A := by omega
      obtain ⟨ij, -, -, -, -, e8, -⟩ := hR.row hjn
      have nx := ih (j + 1) (by omega)
      rw [← nI_1 j, cU_s] at nx
      refine go [(4, 4)] 99 _ _ _ _ ⟨fun c => absurd (by rw [e10] at c; exact c) (nI_ge hjn (by omega)), fun _ => ⟨ij, fun c => ?_, fun c => ?_⟩⟩ <;> rw [e8] at c
      · rw [b2_0 c] at nx
        exact nx
      · rw [b2_n0 c] at nx
        refine c_isWithin hC hR hI hjn hu ?_
        refine ⟨fun c2 => ?_, fun c2 => ?_⟩
        · rw [b2_0 c2] at nx
          exact nx
        · rw [b2_n0 c2] at nx
          have nx : P 4 [some (vr 1 t), some (vi (nI u)), some (vi (nI (cU (fun x => hs A x && wiF A (rm t) (some x) u) j + 1))), some (vi (nI j + 1))] [] M := nx
          rw [← nI_1] at nx
          exact nx
  exact go [(4, 4)] 99 _ _ _ _ (loop (hn A) 0 (by omega))
set_option maxRecDepth 20000 in
theorem c_childAt (hC : ClA C) (hR : CR t A M) (hI : Inv A) {j k : Nat} (hj : j < hn A) (hk1 : k < 2 ^ 31) (h : Q (some (vi (en (hc A j)[k]?))) M) : C (d + 1) n_X2_childAt [vr 1 t, vi (nI j), vi (nI k)] M Q := by
  have hn1 := hR.2.1
  have hrm := rm_le t
  obtain ⟨ij, -, -, -, e5, -, -, hch⟩ := hR.row hj
  have hrk := hI.rk_lt hj
  refine hC.X2_childAt d _ M Q (fun P go => ?_)
  have loop : ∀ f st (at' : Int32), st + f = k → CH (M.1 7 t) at' ((hc A j).drop st) → k < rk A j → P 22 [some (vr 1 t), some (vi (nI j)), some (vi (nI k)), some (vi at'), some (vi (nI st))] [] M := by
    intro f
    induction f with
    | zero =>
      intro st at' h1 hc1 hlt
      have e1 : st = k := by omega
      subst e1
      have hlt' : st < (hc A j).length := hlt
      rw [List.drop_eq_getElem_cons hlt'] at hc1
      have e2 : (hc A j)[st]? = some (hc A j)[st] := List.getElem?_eq_getElem hlt'
      rw [e2] at h
      have h : Q (some (vi (nI (hc A j)[st]))) M := h
      rw [← hc1.1] at h
      exact go [] 99 _ _ _ _ ⟨fun _ => h, fun c => absurd (nI_le (Nat.le_refl _) hk1) c⟩
    | succ f ih =>
      intro st at' h1 hc1 hlt
      have hlt' : st < (hc A j).length := by have : rk A j = (hc A j).length := rfl; omega
      rw [List.drop_eq_getElem_cons hlt'] at hc1
      obtain ⟨q1, q2⟩ := hc1
      subst q1
      have hx := (kid_lt hI (x := (hc A j)[st]) (u := j) (List.getElem_mem hlt')).1
      have hb := hR.n hx
      refine go [(22, 5)] 99 _ _ _ _ ⟨fun c => absurd c (nI_ge (by omega) hk1), fun _ => ⟨fun c => absurd c (nI_m1 (by omega)), fun _ => ⟨inR hb.1, ?_⟩⟩⟩
      rw [cl40 hb.2]
      have := ih (st + 1) _ (by omega) q2 hlt
      rw [← nI_1] at this
      exact this
  refine go [(22, 5)] 99 _ _ _ _ ⟨ij, fun c => ⟨ij, ?_⟩, fun c => ?_⟩
  · rw [e5] at c
    exact loop k 0 _ (by omega) hch ((nI_ltI hk1 (by omega)).mp c)
  · rw [e5] at c
    have hge : rk A j ≤ k := by
      rcases Nat.lt_or_ge k (rk A j) with q | q
      · exact absurd ((nI_ltI hk1 (by omega)).mpr q) c
      · exact q
    have e : (hc A j)[k]? = none := List.getElem?_eq_none hge
    rw [e] at h
    exact h
end READS

section MREADS
variable {C : Nat → CP} {d b l0 c0 : Nat} {A : AH} {M : AM} {Q : RP}
set_option maxRecDepth 20000 in
theorem m_soonest (hC : ClA C) (hR : MR b l0 c0 A M) (h : Q (some (vi (enb b (soonA A)))) M) : C (d + 2) n_X7_soonest [vr 21 0] M Q := by
  have h48 := hR.2.2.2.2.2.1
  have e10 := hR.1
  have e11 := hR.2.1
  refine hC.X7_soonest (d + 1) _ M Q (fun P go => ?_)
  have loop : ∀ k j, j + k = hn A → P 7 [some (vr 21 0), some (vi (enb b (sstU A j))), some (vi (nI (b + j)))] [] M := by
    intro k
    induction k with
    | zero =>
      intro j hj
      have ej : j = hn A := by omega
      subst ej
      exact go [] 99 _ _ _ _ ⟨fun _ => h, fun c => absurd (by rw [e11]; exact nI_le (Nat.le_refl _) (by omega)) c⟩
    | succ k ih =>
      intro j hj
      have hjn : j < hn A := by omega
      obtain ⟨bj, ij, cj, -, -, ks, -⟩ := hR.row hjn
      rw [← cj] at ks
      have nx := ih (j + 1) (by omega)
      rw [show b + (j + 1) = (b + j) + 1 by omega, ← nI_1 (b + j)] at nx
      unfold sstU at nx
      refine go [(7, 3)] 99 _ _ _ _ ⟨fun c => absurd (by rw [e11] at c; exact c) (nI_ge (by omega) (by omega)), fun _ => ⟨ij, fun c => ?_, fun c => ?_⟩⟩ <;> rw [ks] at c
      · rw [b2_0 c] at nx
        exact nx
      · rw [b2_n0 c] at nx
        cases hb : sstU A j with
        | none =>
          rw [hb] at nx
          exact ⟨fun _ => nx, fun c => absurd rfl c⟩
        | some x =>
          rw [hb] at nx
          have hb1 := (sstU_lt j hb).1
          refine ⟨fun c => absurd c (nI_m1 (by omega)), fun _ => ?_⟩
          refine m_isSooner hC hR hjn (y := x) (by omega) ?_
          replace nx : P 7 [some (vr 21 0), some (vi (enb b (cond (snb A j x) (some j) (some x)))), some (vi (nI (b + j) + 1))] [] M := nx
          refine ⟨fun c => ?_, fun c => ?_⟩
          · rw [b2_0 c] at nx
            exact nx
          · rw [b2_n0 c] at nx
            exact nx
  have := loop (hn A) 0 (by omega)
  rw [Nat.add_zero, ← e10] at this
  exact go [(7, 3)] 99 _ _ _ _ this
theorem nI_c (a : Nat) (b : Bool) : nI (a + cond b 1 0) = nI a + b2 b := by
  cases b
  · show nI (a + 0) = nI a + 0
    rw [← nI_add]; rfl
  · exact (nI_1 a).symm
set_option maxRecDepth 20000 in
theorem m_standing (hC : ClA C) (hR : MR b l0 c0 A M) (h : Q (some (vi (nI (cU (hs A) (hn A))))) M) : C (d + 1) n_X7_standing [vr 21 0] M Q := by
  have h48 := hR.2.2.2.2.2.1
  have e10 := hR.1
  have e11 := hR.2.1
  refine hC.X7_standing d _ M Q (fun P go => ?_)
  have loop : ∀ k j, j + k = hn A → P 7 [some (vr 21 0), some (vi (nI (cU (hs A) j))), some (vi (nI (b + j)))] [] M := by
    intro k
    induction k with
    | zero =>
      intro j hj
      have ej : j = hn A := by omega
      subst ej
      exact go [] 99 _ _ _ _ ⟨fun _ => h, fun c => absurd (by rw [e11]; exact nI_le (Nat.le_refl _) (by omega)) c⟩
    | succ k ih =>
      intro j hj
      have hjn : j < hn A := by omega
      obtain ⟨bj, ij, cj, -, -, ks, -⟩ := hR.row hjn
      rw [← cj] at ks
      have nx := ih (j + 1) (by omega)
      rw [show b + (j + 1) = (b + j) + 1 by omega, ← nI_1 (b + j), cU_s, nI_c] at nx
      refine go [(7, 3)] 99 _ _ _ _ ⟨fun c => absurd (by rw [e11] at c; exact c) (nI_ge (by omega) (by omega)), fun _ => ⟨ij, fun c => ?_, fun c => ?_⟩⟩ <;> rw [ks] at c
      · rw [b2_0 c] at nx
        exact nx
      · rw [b2_n0 c] at nx
        exact nx
  have := loop (hn A) 0 (by omega)
  rw [Nat.add_zero, ← e10] at this
  exact go [(7, 3)] 99 _ _ _ _ this
set_option maxRecDepth 20000 in
theorem m_depth (hC : ClA C) (hR : MR 0 l0 c0 A M) (hI : Inv A) {j : Nat} (hj : j < hn A) (h : Q (some (vi (nI (dpF A 40 (hp A j))))) M) : C (d + 1) n_X7_depth [vr 21 0, vi (nI j)] M Q := by
  have h48 := hR.2.2.2.2.2.1
  have h40 := hI.2.2.2.2.2.2.1
  obtain ⟨o, ho1, ho2⟩ := hI.ord
  obtain ⟨bj, ij, cj, -, -, -, kp, -⟩ := hR.row hj
  rw [← cj] at kp
  rw [Nat.zero_add] at kp ij
  refine hC.X7_depth d _ M Q (fun P go => ?_)
  have loop : ∀ f dep (q : Option Nat), (∀ x, q = some x → x < hn A ∧ o x < f) → dep + dpF A f q = dpF A 40 (hp A j) → P 9 [some (vr 21 0), some (vi (nI j)), some (vi (nI dep)), some (vi (enb 0 q))] [] M := by
    intro f
    induction f with
    | zero =>
      intro dep q hq he
      cases q with
      | none =>
        have e : dep = dpF A 40 (hp A j) := by rw [← he]; rfl
        rw [← e] at h
        exact go [] 99 _ _ _ _ ⟨fun _ => h, fun c => absurd rfl c⟩
      | some x => have := (hq x rfl).2; omega
    | succ f ih =>
      intro dep q hq he
      cases q with
      | none =>
        have e : dep = dpF A 40 (hp A j) := by rw [← he]; rfl
        rw [← e] at h
        exact go [] 99 _ _ _ _ ⟨fun _ => h, fun c => absurd rfl c⟩
      | some x =>
        obtain ⟨hx, hox⟩ := hq x rfl
        obtain ⟨bx, ix, cx, -, -, -, kx, -⟩ := hR.row hx
        rw [← cx] at kx
        refine go [(9, 4)] 99 _ _ _ _ ⟨fun c => absurd c (nI_m1 (by omega)), fun _ => ⟨ix, ?_⟩⟩
        have := ih (dep + 1) (hp A x) (fun y hy => ⟨(hI.2.2.1 x y hy).2.1, by have := ho1 x y hy; omega⟩) (by rw [← he]; show _ = dep + (dpF A f (hp A x) + 1); omega)
        rw [← nI_1, ← kx] at this
        exact this
  refine go [(9, 4)] 99 _ _ _ _ ⟨ij, ?_⟩
  have := loop 40 0 (hp A j) (fun y hy => ⟨(hI.2.2.1 j y hy).2.1, by have := (ho2 y).2 (hI.2.2.1 j y hy).2.1; omega⟩) (by omega)
  rw [← kp] at this
  exact this
set_option maxRecDepth 20000 in
theorem m_isUnder (hC : ClA C) (hR : MR 0 l0 c0 A M) (hI : Inv A) {j u : Nat} (hj : j < hn A) (hu : u < hn A) (h : Q (some (vi (b2 (wiF A 40 (some j) u)))) M) : C (d + 1) n_X7_isUnder [vr 21 0, vi (nI j), vi (nI u)] M Q := by
  have h48 := hR.2.2.2.2.2.1
  have h40 := hI.2.2.2.2.2.2.1
  obtain ⟨o, ho1, ho2⟩ := hI.ord
  refine hC.X7_isUnder d _ M Q (fun P go => ?_)
  have fin : ∀ (q : Option Nat), (∀ x, q = some x → x < hn A) → wiF A 40 (some j) u = decide (q = some u) → P 22 [some (vr 21 0), some (vi (nI j)), some (vi (nI u)), some (vi (enb 0 q))] [] M := by
    intro q hq hw
    rw [hw] at h
    refine go [] 99 _ _ _ _ ⟨fun c => ?_, fun c => ?_⟩
    · have : ¬ q = some u := fun e => c (by rw [e]; show nI (0 + u) = _; rw [Nat.zero_add])
      rw [decide_eq_false this] at h
      exact ⟨rfl, h⟩
    · have : q = some u := by
        cases q with
        | none => exact absurd c.symm (nI_m1 (by omega))
        | some x =>
          have hx := hq x rfl
          have c : nI (0 + x) = nI u := c
          rw [show x = u from by have := nI_inj (by omega) (by omega) c; omega]
      rw [decide_eq_true this] at h
      exact ⟨rfl, h⟩
  have loop : ∀ f (q : Option Nat), (∀ x, q = some x → x < hn A ∧ o x < f) → wiF A f q u = wiF A 40 (some j) u → P 2 [some (vr 21 0), some (vi (nI j)), some (vi (nI u)), some (vi (enb 0 q))] [] M := by
    intro f
    induction f with
    | zero =>
      intro q hq he
      cases q with
      | none => exact go [(22, 4)] 99 _ _ _ _ ⟨fun _ => fin none (fun x e => by cases e) (by rw [← he]; rfl), fun c => absurd rfl c⟩
      | some x => have := (hq x rfl).2; omega
    | succ f ih =>
      intro q hq he
      cases q with
      | none => exact go [(22, 4)] 99 _ _ _ _ ⟨fun _ => fin none (fun x e => by cases e) (by rw [← he]; rfl), fun c => absurd rfl c⟩
      | some x =>
        obtain ⟨hx, hox⟩ := hq x rfl
        obtain ⟨bx, ix, cx, -, -, -, kx, -⟩ := hR.row hx
        rw [← cx] at kx
        refine go [(22, 4), (2, 4)] 99 _ _ _ _ ⟨fun c => absurd c (nI_m1 (by omega)), fun _ => ⟨fun c => ?_, fun c => ⟨ix, ?_⟩⟩⟩
        · have c : nI (0 + x) = nI u := c
          have exu : x = u := by have := nI_inj (by omega) (by omega) c; omega
          refine fin (some x) (fun y e => by cases e; exact hx) ?_
          rw [← he, exu]
          show (if u = u then true else _) = _
          rw [if_pos rfl]
          simp
        · have exu : x ≠ u := fun e => c (by rw [e]; show nI (0 + u) = _; rw [Nat.zero_add])
          have := ih (hp A x) (fun y hy => ⟨(hI.2.2.1 x y hy).2.1, by have := ho1 x y hy; omega⟩) (by
            rw [← he]
            show _ = if x = u then true else wiF A f (hp A x) u
            rw [if_neg exu])
          rw [← kx] at this
          exact this
  have := loop 40 (some j) (fun x e => by cases e; exact ⟨hj, by have := (ho2 j).2 hj; omega⟩) rfl
  have e : enb 0 (some j) = nI j := by show nI (0 + j) = _; rw [Nat.zero_add]
  rw [e] at this
  exact go [(2, 4)] 99 _ _ _ _ this
set_option maxRecDepth 20000 in
theorem m_under (hC : ClA C) (hM : MM A M) (hI : Inv A) {u : Nat} (hu : u < hn A) (h : Q (some (vi (nI (cU (fun x => hs A x && wiF A 40 (some x) u) (hn A))))) M) : C (d + 2) n_X7_under [vr 21 0, vi (nI u)] M Q := by
  obtain ⟨hR, e0⟩ := hM
  have h48 := hR.2.2.2.2.2.1
  refine hC.X7_under (d + 1) _ M Q (fun P go => ?_)
  have loop : ∀ k j, j + k = hn A → P 4 [some (vr 21 0), some (vi (nI u)), some (vi (nI (cU (fun x => hs A x && wiF A 40 (some x) u) j))), some (vi (nI j))] [] M := by
    intro k
    induction k with
    | zero =>
      intro j hj
      have ej : j = hn A := by omega
      subst ej
      exact go [] 99 _ _ _ _ ⟨fun _ => h, fun c => absurd (by rw [e0]; exact nI_le (Nat.le_refl _) (by omega)) c⟩
    | succ k ih =>
      intro j hj
      have hjn : j < hn A := by omega
      obtain ⟨bj, ij, cj, -, -, ks, -⟩ := hR.row hjn
      rw [← cj] at ks
      rw [Nat.zero_add] at ks ij
      have nx := ih (j + 1) (by omega)
      rw [← nI_1 j, cU_s, nI_c] at nx
      refine go [(4, 4)] 99 _ _ _ _ ⟨fun c => absurd (by rw [e0] at c; exact c) (nI_ge hjn (by omega)), fun _ => ⟨ij, fun c => ?_, fun c => ?_⟩⟩ <;> rw [ks] at c
      · rw [b2_0 c] at nx
        exact nx
      · rw [b2_n0 c] at nx
        refine m_isUnder hC hR hI hjn hu ?_
        refine ⟨fun c2 => ?_, fun c2 => ?_⟩
        · rw [b2_0 c2] at nx
          exact nx
        · rw [b2_n0 c2] at nx
          exact nx
  exact go [(4, 4)] 99 _ _ _ _ (loop (hn A) 0 (by omega))
/-- what 'many' adds and takes the greatest of -/
def pw (A : AH) (w : Int32) (x : Nat) : Bool := hs A x && (if w = 3 then (hp A x).isNone else hl A x)
def vw5 (A : AH) (w : Int32) (x : Nat) : Int32 := if w = 5 then nI (rk A x) else nI (dpF A 40 (hp A x)) + 1
def mwU (A : AH) (w : Int32) : Nat → Int32
  | 0 => if w = 5 then -1 else 0
  | j + 1 => cond (hs A j) (if vw5 A w j ≤ mwU A w j then mwU A w j else vw5 A w j) (mwU A w j)
set_option maxRecDepth 20000 in
theorem m_many (hC : ClA C) (hM : MM A M) (hI : Inv A) {w : Int32} (h : Q (some (vi (if 5 ≤ w then mwU A w (hn A) else nI (cU (pw A w) (hn A))))) M) : C (d + 2) n_X7_many [vr 21 0, vi w] M Q := by
  obtain ⟨hR, e0⟩ := hM
  have h48 := hR.2.2.2.2.2.1
  have h40 := hI.2.2.2.2.2.2.1
  refine hC.X7_many (d + 1) _ M Q (fun P go => ?_)
  have loop : ∀ k j, j + k = hn A → P 16 [some (vr 21 0), some (vi w), some (vi (nI (cU (pw A w) j))), some (vi (mwU A w j)), some (vi (nI j))] [] M := by
    intro k
    induction k with
    | zero =>
      intro j hj
      have ej : j = hn A := by omega
      subst ej
      refine go [] 99 _ _ _ _ ⟨fun _ => ⟨fun c => ?_, fun c => ?_⟩, fun c => absurd (by rw [e0]; exact nI_le (Nat.le_refl _) (by omega)) c⟩
      · rw [if_pos c] at h; exact h
      · rw [if_neg c] at h; exact h
    | succ k ih =>
      intro j hj
      have hjn : j < hn A := by omega
      obtain ⟨bj, ij, cj, -, -, ks, kp, kl⟩ := hR.row hjn
      rw [← cj] at ks kp kl
      rw [Nat.zero_add] at ks kp kl ij
      have nx := ih (j + 1) (by omega)
      rw [← nI_1 j, cU_s, nI_c] at nx
      unfold mwU at nx
      have tail : hs A j = true → ∀ v : Int32, v = b2 (pw A w j) → P 75 [some (vr 21 0), some (vi w), some (vi (nI (cU (pw A w) j))), some (vi (mwU A w j)), some (vi (nI j))] [vi v, vi (nI (cU (pw A w) j))] M := by
        intro hs1 v hv
        subst hv
        rw [hs1] at nx
        replace nx : P 16 [some (vr 21 0), some (vi w), some (vi (nI (cU (pw A w) j) + b2 (pw A w j))), some (vi (if vw5 A w j ≤ mwU A w j then mwU A w j else vw5 A w j)), some (vi (nI j + 1))] [] M := nx
        have last : ∀ x : Int32, x = vw5 A w j → P 99 [some (vr 21 0), some (vi w), some (vi (nI (cU (pw A w) j) + b2 (pw A w j))), some (vi (mwU A w j)), some (vi (nI j))] [vi x] M := by
          intro x hx
          subst hx
          refine go [(16, 5)] 99 _ _ _ _ ⟨fun c => ?_, fun c => ?_⟩
          · rw [if_pos c] at nx; exact nx
          · rw [if_neg c] at nx; exact nx
        refine go [(99, 5)] 99 _ _ _ _ ⟨fun c => ?_, fun c => ?_⟩
        · refine m_depth hC hR hI hjn ?_
          exact last _ (by unfold vw5; rw [if_neg c])
        · refine C_arg (As' := [vr 21 0, vi (nI (0 + j))]) (by rw [Nat.zero_add]) (m_rank hC hR hI hjn ?_)
          exact last _ (by unfold vw5; rw [if_pos c])
      refine go [(75, 5), (16, 5)] 99 _ _ _ _ ⟨fun c => absurd (by rw [e0] at c; exact c) (nI_ge hjn (by omega)), fun _ => ⟨ij, fun c => ?_, fun c => ⟨fun c2 => ⟨ij, fun c3 => ?_, fun c3 => ?_⟩, fun c2 => ⟨ij, fun c3 => ?_, fun c3 => ?_⟩⟩⟩⟩ <;> rw [ks] at c
      · have e1 := b2_0 c
        have e2 : pw A w j = false := by unfold pw; rw [e1]; rfl
        rw [e1, e2] at nx
        replace nx : P 16 [some (vr 21 0), some (vi w), some (vi (nI (cU (pw A w) j) + 0)), some (vi (mwU A w j)), some (vi (nI j + 1))] [] M := nx
        rw [Int32.add_zero] at nx
        exact nx
      · rw [kl] at c3
        exact tail (b2_n0 c) 0 (by unfold pw; rw [b2_n0 c, if_neg c2, b2_0 c3]; rfl)
      · rw [kl] at c3
        exact tail (b2_n0 c) 1 (by unfold pw; rw [b2_n0 c, if_neg c2, b2_n0 c3]; rfl)
      · rw [kp] at c3
        refine tail (b2_n0 c) 0 ?_
        unfold pw
        rw [b2_n0 c, if_pos c2]
        cases e : hp A j with
        | none => rw [e] at c3; exact absurd rfl c3
        | some p => rfl
      · rw [kp] at c3
        refine tail (b2_n0 c) 1 ?_
        have e := enb_m1 c3 (fun p q => by have := (hI.2.2.1 j p q).2.1; omega)
        unfold pw
        rw [b2_n0 c, if_pos c2, e]
        rfl
  have l0 := loop (hn A) 0 (by omega)
  have es : mwU A w 0 = if w = 5 then -1 else 0 := rfl
  rw [es] at l0
  refine go [(16, 5)] 99 _ _ _ _ ⟨fun c => ?_, fun c => ?_⟩
  · rw [if_neg c] at l0; exact l0
  · rw [if_pos c] at l0; exact l0
end MREADS

/-! THE REFERENCE'S HEAP: rows from a base on -/
section MODEL
variable {C : Nat → CP} {d b l0 c0 : Nat} {A : AH} {M : AM} {Q : RP}
def enb (b : Nat) : Option Nat → Int32
  | none => -1
  | some p => nI (b + p)
/-- the rows of the jobs: g row job; L: above every 'came' -/
def JR (b : Nat) (g : Nat → Nat → Int32) (A : AH) (L : Nat) : Prop :=
  (∀ j, j < hn A → g 0 j = hd A j ∧ g 1 j = hk A j ∧ g 2 j = b2 (hs A j) ∧ g 3 j = enb b (hp A j) ∧ g 4 j = b2 (hl A j)) ∧ (∀ p, (hc A p).Pairwise (fun x y => (g 5 x).toInt < (g 5 y).toInt)) ∧ ∀ p x, x ∈ hc A p → (g 5 x).toInt < L
def MR (b l0 c0 : Nat) (A : AH) (M : AM) : Prop :=
  M.1 21 0 10 = nI b ∧ M.1 21 0 11 = nI (b + hn A) ∧ M.1 21 0 7 = nI (l0 + lk A) ∧ M.1 21 0 8 = nI (l0 + lk A) ∧ M.1 21 0 9 = nI (c0 + ct A) ∧ b + hn A ≤ 48 ∧ JR b (fun k j => M.1 (22 + k) 0 (b + j)) A (l0 + lk A)
/-- only counts and the rows of that part have changed -/
def FM (b n : Nat) (M M' : AM) : Prop := (∀ a u i, ¬ (a = 21 ∧ u = 0 ∧ (i = 7 ∨ i = 8 ∨ i = 9)) → ¬ (22 ≤ a ∧ a ≤ 27 ∧ u = 0 ∧ b ≤ i ∧ i < b + n) → M'.1 a u i = M.1 a u i) ∧ M'.2 = M.2
theorem FM.rf {n : Nat} : FM b n M M := ⟨fun _ _ _ _ _ => rfl, rfl⟩
theorem FM.tr {n : Nat} {M1 M2 : AM} (h : FM b n M M1) (h' : FM b n M1 M2) : FM b n M M2 := ⟨fun a u i q1 q2 => (h'.1 a u i q1 q2).trans (h.1 a u i q1 q2), h'.2.trans h.2⟩
theorem FM.umr {n : Nat} {M1 : AM} (h : FM b n M M1) {a i : Nat} {v : Int32} (h1 : 22 ≤ a) (h2 : a ≤ 27) (h3 : b ≤ i) (h4 : i < b + n) : FM b n M (um M1 a 0 i v) := ⟨fun a' u i' q1 q2 => by
  rw [um_at, if_neg (fun e => q2 (by omega))]; exact h.1 a' u i' q1 q2, h.2⟩
theorem FM.umc {n : Nat} {M1 : AM} (h : FM b n M M1) {i : Nat} {v : Int32} (h1 : i = 7 ∨ i = 8 ∨ i = 9) : FM b n M (um M1 21 0 i v) := ⟨fun a' u i' q1 q2 => by
  rw [um_at, if_neg (fun e => q1 (by omega))]; exact h.1 a' u i' q1 q2, h.2⟩
theorem in48 {x : Nat} (h : x < 48) : vp_in (nI x) 48 := vp_in_nI h (by omega)
theorem cl48 {x : Nat} (h : x < 48) : (nI x).toNatClampNeg = x := nI_clamp (by omega)
theorem MR.row (hR : MR b l0 c0 A M) {j : Nat} (hj : j < hn A) : b + j < 48 ∧ vp_in (nI (b + j)) 48 ∧ (nI (b + j)).toNatClampNeg = b + j ∧ M.1 22 0 (b + j) = hd A j ∧ M.1 23 0 (b + j) = hk A j ∧ M.1 24 0 (b + j) = b2 (hs A j) ∧ M.1 25 0 (b + j) = enb b (hp A j) ∧ M.1 26 0 (b + j) = b2 (hl A j) := by
  have h48 := hR.2.2.2.2.2.1
  have := hR.2.2.2.2.2.2.1 j hj
  exact ⟨by omega, in48 (by omega), cl48 (by omega), this⟩
theorem enb_m1 {o : Option Nat} (h : enb b o = -1) (hb : ∀ p, o = some p → b + p < 2 ^ 31) : o = none := by
  cases o with
  | none => rfl
  | some p => exact absurd h (nI_m1 (hb p rfl))
theorem sub_len : ∀ (l1 l2 : List Nat), l1.Nodup → (∀ x ∈ l1, x ∈ l2) → l1.length ≤ l2.length
  | [], l2, _, _ => Nat.zero_le _
  | a :: r, l2, hn', hs' => by
    have ha := hs' a List.mem_cons_self
    have h1 := sub_len r (l2.erase a) (List.nodup_cons.mp hn').2 (fun x hx => by
      have hne : x ≠ a := fun e => (List.nodup_cons.mp hn').1 (by rw [← e]; exact hx)
      exact (List.mem_erase_of_ne hne).mpr (hs' x (List.mem_cons_of_mem _ hx)))
    rw [List.length_erase_of_mem ha] at h1
    have h2 : 0 < l2.length := List.length_pos_of_mem ha
    show r.length + 1 ≤ _
    omega
theorem rk_cnt (hI : Inv A) (j : Nat) : cU (fun k => decide (hp A k = some j)) (hn A) = rk A j := by
  unfold cU rk
  rw [List.countP_eq_length_filter]
  apply Nat.le_antisymm
  · apply sub_len _ _ (List.nodup_range.filter _)
    intro x hx
    have := (List.mem_filter.mp hx).2
    exact (hI.1 x j).mp (by simpa using this)
  · apply sub_len _ _ (hI.2.1 j)
    intro x hx
    have h1 := (hI.1 x j).mpr hx
    exact List.mem_filter.mpr ⟨List.mem_range.mpr (hI.2.2.1 x j h1).1, by simpa using h1⟩
set_option maxRecDepth 20000 in
theorem m_isSooner (hC : ClA C) (hR : MR b l0 c0 A M) {x y : Nat} (hx : x < hn A) (hy : y < hn A) (h : Q (some (vi (b2 (snb A x y)))) M) : C (d + 1) n_X7_isSooner [vr 21 0, vi (nI (b + x)), vi (nI (b + y))] M Q := by
  obtain ⟨bx, ix, cx, -, kx, -⟩ := hR.row hx
  obtain ⟨b_y, iy, cy, -, ky, -⟩ := hR.row hy
  rw [← cx] at kx
  rw [← cy] at ky
  have hab : nI (b + y) ≤ nI (b + x) ↔ b + y ≤ b + x := nI_leI (by omega) (by omega)
  refine hC.X7_isSooner d _ M Q (fun P go => ?_)
  refine go [] 50 _ _ _ _ ⟨ix, iy, fun c1 => ?_, fun c1 => ⟨ix, iy, fun c2 => ?_, fun c2 => ⟨fun c3 => ?_, fun c3 => ?_⟩⟩⟩ <;> rw [kx, ky] at c1
  · have e : snb A x y = true := by simp [snb, c1]
    rw [e] at h
    exact ⟨rfl, h⟩
  · rw [kx, ky] at c2
    have e : snb A x y = false := by simp [snb, c1, c2]
    rw [e] at h
    exact ⟨rfl, h⟩
  · rw [kx, ky] at c2
    have e : snb A x y = false := by
      have := hab.mp c3
      simp [snb, c1, c2]
      omega
    rw [e] at h
    exact ⟨rfl, h⟩
  · rw [kx, ky] at c2
    have e : snb A x y = true := by
      have : ¬ b + y ≤ b + x := fun q => c3 (hab.mpr q)
      simp [snb, c2]
      omega
    rw [e] at h
    exact ⟨rfl, h⟩
set_option maxRecDepth 20000 in
theorem m_rank (hC : ClA C) (hR : MR b l0 c0 A M) (hI : Inv A) {j : Nat} (hj : j < hn A) (h : Q (some (vi (nI (rk A j)))) M) : C (d + 1) n_X7_rank [vr 21 0, vi (nI (b + j))] M Q := by
  have h48 := hR.2.2.2.2.2.1
  have e10 := hR.1
  have e11 := hR.2.1
  rw [← rk_cnt hI] at h
  refine hC.X7_rank d _ M Q (fun P go => ?_)
  have loop : ∀ k y, y + k = hn A → P 7 [some (vr 21 0), some (vi (nI (b + j))), some (vi (nI (cU (fun k => decide (hp A k = some j)) y))), some (vi (nI (b + y)))] [] M := by
    intro k
    induction k with
    | zero =>
      intro y hy
      have ey : y = hn A := by omega
      subst ey
      exact go [] 99 _ _ _ _ ⟨fun _ => h, fun c => absurd (by rw [e11]; exact nI_le (Nat.le_refl _) (by omega)) c⟩
    | succ k ih =>
      intro y hy
      have hyn : y < hn A := by omega
      obtain ⟨b_y, iy, cy, -, -, ks, kp, -⟩ := hR.row hyn
      rw [← cy] at ks kp
      have nx : ∀ v : Int32, v = nI (cond (decide (hp A y = some j)) 1 0) → P 7 [some (vr 21 0), some (vi (nI (b + j))), some (vi (nI (cU (fun k => decide (hp A k = some j)) y) + v)), some (vi (nI (b + y) + 1))] [] M := by
        intro v hv
        have := ih (y + 1) (by omega)
        rw [cU_s, ← nI_add (cU (fun k => decide (hp A k = some j)) y), show b + (y + 1) = (b + y) + 1 by omega, ← nI_1 (b + y), ← hv] at this
        exact this
      refine go [(7, 4)] 99 _ _ _ _ ⟨fun c => absurd (by rw [e11] at c; exact c) (nI_ge (by omega) (by omega)), fun _ => ⟨iy, fun c => ?_, fun c => ⟨iy, fun c2 => ?_, fun c2 => ?_⟩⟩⟩ <;> rw [ks] at c
      · have e1 := b2_0 c
        have : ¬ hp A y = some j := fun e => by
          have := (hI.2.2.1 y j e).2.2.1
          rw [e1] at this; cases this
        exact nx 0 (by rw [decide_eq_false this]; rfl)
      · rw [kp] at c2
        have : ¬ hp A y = some j := fun e => c2 (by rw [e]; rfl)
        exact nx 0 (by rw [decide_eq_false this]; rfl)
      · rw [kp] at c2
        have : hp A y = some j := by
          cases e : hp A y with
          | none => rw [e] at c2; exact absurd c2.symm (nI_m1 (by omega))
          | some p =>
            rw [e] at c2
            have h1 := (hI.2.2.1 y p e).2.1
            have := nI_inj (a := b + p) (b := b + j) (by omega) (by omega) c2
            rw [show p = j by omega]
        exact nx 1 (by rw [decide_eq_true this]; rfl)
  have := loop (hn A) 0 (by omega)
  rw [Nat.add_zero, ← e10] at this
  exact go [(7, 4)] 99 _ _ _ _ this
set_option maxRecDepth 20000 in
theorem m_isOf (hC : ClA C) (hR : MR b l0 c0 A M) (hI : Inv A) (l : Bool) {j : Nat} (hj : j < hn A) (h : Q (some (vi (b2 (isP A l j)))) M) : C (d + 1) n_X7_isOf [vr 21 0, vi (nI (b + j)), vi (b2 l)] M Q := by
  obtain ⟨bj, ij, cj, -, -, ks, kp, kl⟩ := hR.row hj
  rw [← cj] at ks kp kl
  have h48 := hR.2.2.2.2.2.1
  refine hC.X7_isOf d _ M Q (fun P go => ?_)
  refine go [] 99 _ _ _ _ ⟨ij, fun c => ?_, fun c => ⟨fun c2 => ⟨ij, fun c3 => ?_, fun c3 => ?_⟩, fun c2 => ⟨ij, fun c3 => ?_, fun c3 => ?_⟩⟩⟩ <;> rw [ks] at c
  · have e1 := b2_0 c
    have : isP A l j = false := by
      cases l with
      | true =>
        show hl A j = false
        cases e : hl A j with
        | false => rfl
        | true => obtain ⟨p, -, -, -, q⟩ := loose_st hI e; rw [e1] at q; cases q
      | false => show (hs A j && _) = false; rw [e1]; rfl
    rw [this] at h
    exact ⟨rfl, h⟩
  · rw [kp] at c3
    have e2 := b2_0 c2
    have : isP A l j = false := by
      rw [e2]
      show (hs A j && (hp A j).isNone) = false
      cases e : hp A j with
      | none => rw [e] at c3; exact absurd rfl c3
      | some p => rw [show (some p).isNone = false from rfl, Bool.and_false]
    rw [this] at h
    exact ⟨rfl, h⟩
  · rw [kp] at c3
    have e2 := b2_0 c2
    have e3 := enb_m1 c3 (fun p q => by have := (hI.2.2.1 j p q).2.1; omega)
    have : isP A l j = true := by
      rw [e2]
      show (hs A j && (hp A j).isNone) = true
      rw [b2_n0 c, e3]; rfl
    rw [this] at h
    exact ⟨rfl, h⟩
  · rw [kl] at c3
    have e2 := b2_n0 c2
    have : isP A l j = false := by rw [e2]; exact b2_0 c3
    rw [this] at h
    exact ⟨rfl, h⟩
  · rw [kl] at c3
    have e2 := b2_n0 c2
    have : isP A l j = true := by rw [e2]; exact b2_n0 c3
    rw [this] at h
    exact ⟨rfl, h⟩
/-- the least x from n - k on, below n, with p -/
def frD (p : Nat → Bool) (n : Nat) : Nat → Option Nat
  | 0 => none
  | k + 1 => cond (p (n - 1 - k)) (some (n - 1 - k)) (frD p n k)
theorem frD_some {p : Nat → Bool} {n : Nat} : ∀ (k : Nat) {x : Nat}, k ≤ n → frD p n k = some x → n - k ≤ x ∧ x < n ∧ p x = true ∧ ∀ z, n - k ≤ z → z < x → p z = false
  | 0, x, _, h => by cases h
  | k + 1, x, hk, h => by
    unfold frD at h
    cases e : p (n - 1 - k) with
    | true =>
      rw [e] at h
      have h : some (n - 1 - k) = some x := h
      cases h
      exact ⟨by omega, by omega, e, fun z h1 h2 => by omega⟩
    | false =>
      rw [e] at h
      obtain ⟨a1, a2, a3, a4⟩ := frD_some k (x := x) (by omega) h
      refine ⟨by omega, a2, a3, fun z h1 h2 => ?_⟩
      by_cases ez : z = n - 1 - k
      · rw [ez]; exact e
      · exact a4 z (by omega) h2
theorem frD_none {p : Nat → Bool} {n : Nat} : ∀ (k : Nat), k ≤ n → frD p n k = none → ∀ z, n - k ≤ z → z < n → p z = false
  | 0, _, _, z, h1, h2 => by omega
  | k + 1, hk, h, z, h1, h2 => by
    unfold frD at h
    cases e : p (n - 1 - k) with
    | true => rw [e] at h; cases h
    | false =>
      rw [e] at h
      by_cases ez : z = n - 1 - k
      · rw [ez]; exact e
      · exact frD_none k (by omega) h z (by omega) h2
theorem sub1_le {x y : Nat} (hx : x < 2 ^ 30) (hy : y < 2 ^ 30) : nI x - 1 ≤ nI y - 1 ↔ x ≤ y := by
  rw [Int32.le_iff_toInt_le]
  have e1 := pk_sub_toInt (a := x) (b := 1) hx (by omega)
  have e2 := pk_sub_toInt (a := y) (b := 1) hy (by omega)
  have e3 : nI 1 = 1 := rfl
  rw [e3] at e1 e2
  rw [e1, e2]
  omega
/-- the least job of a rank r from m on -/
def ofR (A : AH) (l : Bool) (r : Int32) (m : Nat) : Option Nat := frD (fun x => isP A l x && decide (nI (rk A x) = r)) (hn A) (hn A - m)
set_option maxRecDepth 20000 in
theorem m_ofRank (hC : ClA C) (hR : MR b l0 c0 A M) (hI : Inv A) (l : Bool) {r : Int32} {m : Nat} (hm : m ≤ hn A) (h : Q (some (vi (enb b (ofR A l r m)))) M) : C (d + 2) n_X7_ofRank [vr 21 0, vi r, vi (nI (b + m) - 1), vi (b2 l)] M Q := by
  have h48 := hR.2.2.2.2.2.1
  have e11 := hR.2.1
  refine hC.X7_ofRank (d + 1) _ M Q (fun P go => ?_)
  have loop : ∀ f k, k + f = hn A - m → P 11 [some (vr 21 0), some (vi r), some (vi (nI (b + m) - 1)), some (vi (b2 l)), some (vi (enb b (frD (fun x => isP A l x && decide (nI (rk A x) = r)) (hn A) k))), some (vi (nI (b + (hn A - k)) - 1))] [] M := by
    intro f
    induction f with
    | zero =>
      intro k hk
      have ek : k = hn A - m := by omega
      subst ek
      exact go [] 99 _ _ _ _ ⟨fun _ => h, fun c => absurd ((sub1_le (by omega) (by omega)).mpr (by omega)) c⟩
    | succ f ih =>
      intro k hk
      have hx : hn A - 1 - k < hn A := by omega
      have ex : b + (hn A - k) = (b + (hn A - 1 - k)) + 1 := by omega
      have ej : nI (b + (hn A - k)) - 1 = nI (b + (hn A - 1 - k)) := by rw [ex, nI_pred]
      have nx := ih (k + 1) (by omega)
      have ek : nI (b + (hn A - (k + 1))) - 1 = nI (b + (hn A - 1 - k)) + -1 := by
        rw [show b + (hn A - (k + 1)) = b + (hn A - 1 - k) by omega, Int32.sub_eq_add_neg]
      rw [ek] at nx
      unfold frD at nx
      have hgo : ¬ nI (b + (hn A - 1 - k)) ≤ nI (b + m) - 1 := by
        rw [← ej]
        intro q
        have := (sub1_le (x := b + (hn A - k)) (y := b + m) (by omega) (by omega)).mp q
        omega
      rw [ej]
      refine go [(11, 6)] 99 _ _ _ _ ⟨fun c => absurd c hgo, fun _ => ?_⟩
      refine m_isOf hC hR hI l hx ?_
      refine ⟨fun c => ?_, fun c => ?_⟩
      · rw [b2_0 c] at nx
        exact nx
      · rw [b2_n0 c] at nx
        refine m_rank hC hR hI hx ?_
        refine ⟨fun c2 => ?_, fun c2 => ?_⟩
        · rw [decide_eq_false c2] at nx
          exact nx
        · rw [decide_eq_true c2] at nx
          exact nx
  have := loop (hn A - m) 0 (by omega)
  rw [Nat.sub_zero, ← e11] at this
  exact go [(11, 6)] 99 _ _ _ _ this
def two (A : AH) (l : Bool) (r : Nat) : Prop := ∃ i j, i < j ∧ j < hn A ∧ isP A l i = true ∧ isP A l j = true ∧ rk A i = r ∧ rk A j = r
/-- what twice answers -/
def TW (A : AH) (l : Bool) (v : Int32) : Prop := (v = -1 ∧ ∀ r, ¬ two A l r) ∨ ∃ r, r < hn A ∧ v = nI r ∧ two A l r ∧ ∀ r', r' < r → ¬ two A l r'
theorem ofR_some (hI : Inv A) {l : Bool} {r m x : Nat} (hr : r < 2 ^ 31) (h : ofR A l (nI r) m = some x) : m ≤ x ∧ x < hn A ∧ isP A l x = true ∧ rk A x = r ∧ ∀ z, m ≤ z → z < x → isP A l z = true → rk A z ≠ r := by
  obtain ⟨a1, a2, a3, a4⟩ := frD_some _ (Nat.sub_le _ _) h
  simp only [Bool.and_eq_true, decide_eq_true_eq] at a3
  have h40 := hI.2.2.2.2.2.2.1
  have hrk : ∀ z, z < hn A → rk A z < 2 ^ 31 := fun z hz => by have := hI.rk_lt hz; omega
  refine ⟨by omega, a2, a3.1, nI_inj (hrk x a2) hr a3.2, fun z h1 h2 hz hq => ?_⟩
  have := a4 z (by omega) h2
  rw [hz, hq] at this
  simp at this
theorem ofR_none {l : Bool} {r m : Nat} (h : ofR A l (nI r) m = none) : ∀ z, m ≤ z → z < hn A → isP A l z = true → rk A z ≠ r := by
  intro z h1 h2 hz hq
  have := frD_none _ (Nat.sub_le _ _) h z (by omega) h2
  rw [hz, hq] at this
  simp at this
set_option maxRecDepth 20000 in
theorem m_twice (hC : ClA C) (hR : MR b l0 c0 A M) (hI : Inv A) (l : Bool) (h : ∀ v, TW A l v → Q (some (vi v)) M) : C (d + 3) n_X7_twice [vr 21 0, vi (b2 l)] M Q := by
  have h48 := hR.2.2.2.2.2.1
  have e10 := hR.1
  have e11 := hR.2.1
  have h40 := hI.2.2.2.2.2.2.1
  refine hC.X7_twice (d + 2) _ M Q (fun P go => ?_)
  have loop : ∀ k (v : Int32), k ≤ hn A + 1 → ((v = -1 ∧ ∀ r, k ≤ r → ¬ two A l r) ∨ ∃ r, k ≤ r ∧ r < hn A ∧ v = nI r ∧ two A l r ∧ ∀ r', k ≤ r' → r' < r → ¬ two A l r') → P 12 [some (vr 21 0), some (vi (b2 l)), some (vi v), some (vi (nI k - 1))] [] M := by
    intro k
    induction k with
    | zero =>
      intro v hk hv
      refine go [] 99 _ _ _ _ ⟨fun _ => h v ?_, fun c => absurd (by decide) c⟩
      rcases hv with ⟨a1, a2⟩ | ⟨r, -, a1, a2, a3, a4⟩
      · exact Or.inl ⟨a1, fun r => a2 r (Nat.zero_le _)⟩
      · exact Or.inr ⟨r, a1, a2, a3, fun r' => a4 r' (Nat.zero_le _)⟩
    | succ k ih =>
      intro v hk hv
      rw [nI_pred]
      have ek : nI k + -1 = nI k - 1 := (Int32.sub_eq_add_neg _ _).symm
      have nx : ∀ v', ((v' = -1 ∧ ∀ r, k ≤ r → ¬ two A l r) ∨ ∃ r, k ≤ r ∧ r < hn A ∧ v' = nI r ∧ two A l r ∧ ∀ r', k ≤ r' → r' < r → ¬ two A l r') → P 12 [some (vr 21 0), some (vi (b2 l)), some (vi v'), some (vi (nI k + -1))] [] M := by
        intro v' hv'
        rw [ek]
        exact ih v' (by omega) hv'
      have keep : ¬ two A l k → P 12 [some (vr 21 0), some (vi (b2 l)), some (vi v), some (vi (nI k + -1))] [] M := by
        intro hno
        refine nx v ?_
        rcases hv with ⟨a1, a2⟩ | ⟨r, a0, a1, a2, a3, a4⟩
        · refine Or.inl ⟨a1, fun r hr => ?_⟩
          by_cases e : r = k
          · rw [e]; exact hno
          · exact a2 r (by omega)
        · refine Or.inr ⟨r, by omega, a1, a2, a3, fun r' h1 h2 => ?_⟩
          by_cases e : r' = k
          · rw [e]; exact hno
          · exact a4 r' (by omega) h2
      refine go [(12, 4)] 99 _ _ _ _ ⟨fun c => absurd c (nI_pos (by omega)), fun _ => ?_⟩
      refine C_arg (As' := [vr 21 0, vi (nI k), vi (nI (b + 0) - 1), vi (b2 l)]) (by rw [e10]; rfl) (m_ofRank hC hR hI l (Nat.zero_le _) ?_)
      cases h1 : ofR A l (nI k) 0 with
      | none =>
        have hno : ¬ two A l k := by
          rintro ⟨i, j, q1, q2, q3, q4, q5, q6⟩
          exact ofR_none h1 i (Nat.zero_le _) (by omega) q3 q5
        exact ⟨fun c => absurd rfl c, fun _ => ⟨fun c => absurd rfl c, fun _ => keep hno⟩⟩
      | some i =>
        obtain ⟨-, i2, i3, i4, i5⟩ := ofR_some hI (by omega) h1
        refine ⟨fun _ => ?_, fun c => absurd c (nI_m1 (by omega))⟩
        refine C_arg (As' := [vr 21 0, vi (nI k), vi (nI (b + (i + 1)) - 1), vi (b2 l)]) (by rw [show b + (i + 1) = (b + i) + 1 by omega, nI_pred]; rfl) (m_ofRank hC hR hI l (by omega) ?_)
        cases h2 : ofR A l (nI k) (i + 1) with
        | none =>
          have hno : ¬ two A l k := by
            rintro ⟨x, y, q1, q2, q3, q4, q5, q6⟩
            have hx : i ≤ x := by
              rcases Nat.lt_or_ge x i with q | q
              · exact absurd q5 (i5 x (Nat.zero_le _) q q3)
              · exact q
            exact ofR_none h2 y (by omega) q2 q4 q6
          exact ⟨fun c => absurd rfl c, fun _ => keep hno⟩
        | some j =>
          obtain ⟨j1, j2, j3, j4, -⟩ := ofR_some hI (by omega) h2
          have hyes : two A l k := ⟨i, j, by omega, j2, i3, j3, i4, j4⟩
          refine ⟨fun _ => ?_, fun c => absurd c (nI_m1 (by omega))⟩
          have hkn : k < hn A := by have := hI.rk_lt j2; omega
          exact nx (nI k) (Or.inr ⟨k, Nat.le_refl _, hkn, rfl, hyes, fun r' h1 h2 => by omega⟩)
  have e12 : M.1 21 0 11 - M.1 21 0 10 = nI (hn A + 1) - 1 := by
    rw [e10, e11, pk_sub (by omega), nI_pred]
    congr 1
    omega
  have := loop (hn A + 1) (-1) (Nat.le_refl _) (Or.inl ⟨rfl, fun r hr => by
    rintro ⟨i, j, q1, q2, q3, q4, q5, q6⟩
    have := hI.rk_lt q2
    omega⟩)
  rw [← e12] at this
  exact go [(12, 4)] 99 _ _ _ _ this
end MODEL

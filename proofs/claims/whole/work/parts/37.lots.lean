/-! THE LOTS: what the drift does, and the class's side of it -/
def nx (x : Nat) : Nat := x * 16807 % 2147483647
theorem nx_lt (x : Nat) : nx x < 2147483647 := Nat.mod_lt _ (by omega)
noncomputable def putL (A : AH) (x : Nat) : AH × Nat := if hn A < 40 then (addj A (nI (nx x % 2)) (nI (nx (nx x) % 1000)), nx (nx x)) else (A, x)
noncomputable def lowB (A : AH) (o : Option Nat) (b : Nat) : AH := match o with
  | none => A
  | some j => if 0 < b then cond (btw (hk A j - nI b) (-9999) 9999) (lowA A j (hk A j - nI b)) A else A
noncomputable def lowL (A : AH) (x : Nat) : AH × Nat := if 0 < cU (hs A) (hn A) then (lowB A (sAt A (nx x % cU (hs A) (hn A))) (nx (nx x) % 100), nx (nx x)) else (A, x)
noncomputable def takL (A : AH) (x : Nat) : AH × Nat := match soonA A with
  | none => (A, x)
  | some j => (takeA A j, x)
noncomputable def lot1 (s : AH × Nat) : AH × Nat := if nx s.2 % 4 < 2 then putL s.1 (nx s.2) else if nx s.2 % 4 = 2 then lowL s.1 (nx s.2) else takL s.1 (nx s.2)
noncomputable def lotsN : Nat → AH × Nat → AH × Nat
  | 0, s => s
  | k + 1, s => lotsN k (lot1 s)
noncomputable def p_drift (W : WS) (n s : Int32) : Int32 × WS := cond (btw n 1 40 && btw s 1 999999) (nI (cU (hs (lotsN (jx n) (W.1, jx s)).1) (hn (lotsN (jx n) (W.1, jx s)).1)), wA W (lotsN (jx n) (W.1, jx s)).1) (-1000000002, W)
theorem sAt_ok {A : AH} {k j : Nat} (h : sAt A k = some j) : j < hn A ∧ hs A j = true ∧ cU (hs A) j = k := by
  unfold sAt at h
  have h1 := List.find?_some h
  have h2 := List.mem_range.mp (List.mem_of_find?_eq_some h)
  simp only [Bool.and_eq_true, decide_eq_true_eq] at h1
  exact ⟨h2, h1.1, h1.2⟩
theorem cU_at {p : Nat → Bool} {k : Nat} : ∀ n, k < cU p n → ∃ j, j < n ∧ p j = true ∧ cU p j = k := by
  intro n
  induction n with
  | zero => intro h; exact absurd (Nat.lt_of_lt_of_le h (cU_le p 0)) (Nat.not_lt_zero k)
  | succ n ih =>
    intro h
    rw [cU_s] at h
    by_cases e : k < cU p n
    · obtain ⟨j, a, b, c⟩ := ih e
      exact ⟨j, by omega, b, c⟩
    · cases ep : p n with
      | false => rw [ep] at h; exact absurd h e
      | true =>
        rw [ep] at h
        have h : k < cU p n + 1 := h
        exact ⟨n, by omega, ep, by omega⟩
theorem sAt_ex {A : AH} {k : Nat} (h : k < cU (hs A) (hn A)) : ∃ j, sAt A k = some j := by
  obtain ⟨j, h1, h2, h3⟩ := cU_at _ h
  cases e : sAt A k with
  | some x => exact ⟨x, rfl⟩
  | none =>
    unfold sAt at e
    rw [List.find?_eq_none] at e
    have := e j (List.mem_range.mpr h1)
    simp [h2, h3] at this
theorem sstU_none {A : AH} : ∀ n, sstU A n = none → cU (hs A) n = 0
  | 0, _ => rfl
  | n + 1, h => by
    unfold sstU at h
    rw [cU_s]
    cases e : hs A n with
    | false =>
      rw [e] at h
      exact sstU_none n h
    | true =>
      rw [e] at h
      have h : (match sstU A n with | none => some n | some b => cond (snb A n b) (some n) (some b)) = none := h
      split at h
      · cases h
      · rename_i b hb
        cases e2 : snb A n b <;> rw [e2] at h <;> cases h
theorem cU_pos {p : Nat → Bool} {j : Nat} (hj : p j = true) : ∀ n, j < n → 0 < cU p n := by
  intro n
  induction n with
  | zero => intro h; omega
  | succ n ih =>
    intro h
    rw [cU_s]
    by_cases e : j = n
    · subst e; rw [hj]; exact Nat.succ_pos _
    · have := ih (by omega); omega
theorem KeyOk_n {b : Nat} (h : b ≤ 9999) : KeyOk (nI b) := by
  have := nI_toInt (n := b) (by omega)
  unfold KeyOk
  omega
theorem KindOk_n {b : Nat} (h : b < 2) : KindOk (nI b) := by
  rcases (show b = 0 ∨ b = 1 by omega) with e | e <;> subst e
  · exact .inl rfl
  · exact .inr rfl
theorem putL_inv {A : AH} (hI : Inv A) {x : Nat} (hx : x < 2147483647) : Inv (putL A x).1 ∧ lk (putL A x).1 ≤ lk A + 80 ∧ (putL A x).2 < 2147483647 := by
  unfold putL
  by_cases e : hn A < 40
  · rw [if_pos e]
    exact ⟨inv_add hI e (KeyOk_n (Nat.le_of_lt (Nat.lt_of_lt_of_le (Nat.mod_lt _ (by omega)) (by omega)))) (KindOk_n (Nat.mod_lt _ (by omega))), Nat.le_add_right _ _, nx_lt _⟩
  · rw [if_neg e]
    exact ⟨hI, Nat.le_add_right _ _, hx⟩
theorem lowL_inv {A : AH} (hI : Inv A) {x : Nat} (hx : x < 2147483647) : Inv (lowL A x).1 ∧ lk (lowL A x).1 ≤ lk A + 80 ∧ (lowL A x).2 < 2147483647 := by
  have h40 := hI.2.2.2.2.2.2.1
  unfold lowL
  by_cases e : 0 < cU (hs A) (hn A)
  · rw [if_pos e]
    refine ⟨?_, ?_, nx_lt _⟩ <;> generalize sAt A (nx x % cU (hs A) (hn A)) = o <;> generalize nx (nx x) % 100 = b
    · unfold lowB
      cases o with
      | none => exact hI
      | some j =>
        show Inv (if 0 < b then _ else _)
        by_cases e2 : 0 < b
        · rw [if_pos e2]
          cases e3 : btw (hk A j - nI b) (-9999) 9999 with
          | false => exact hI
          | true => exact (lowA_inv hI (btw_key e3)).1
        · rw [if_neg e2]; exact hI
    · unfold lowB
      cases o with
      | none => exact Nat.le_add_right _ _
      | some j =>
        show lk (if 0 < b then _ else _) ≤ _
        by_cases e2 : 0 < b
        · rw [if_pos e2]
          cases e3 : btw (hk A j - nI b) (-9999) 9999 with
          | false => exact Nat.le_add_right _ _
          | true =>
            have := (lowA_inv hI (j := j) (btw_key e3)).2.2
            show lk (lowA A j (hk A j - nI b)) ≤ _
            omega
        · rw [if_neg e2]; exact Nat.le_add_right _ _
  · rw [if_neg e]
    exact ⟨hI, Nat.le_add_right _ _, hx⟩
theorem takL_inv {A : AH} (hI : Inv A) {x : Nat} (hx : x < 2147483647) : Inv (takL A x).1 ∧ lk (takL A x).1 ≤ lk A + 80 ∧ (takL A x).2 < 2147483647 := by
  have h40 := hI.2.2.2.2.2.2.1
  unfold takL
  cases e : soonA A with
  | none => exact ⟨hI, Nat.le_add_right _ _, hx⟩
  | some j =>
    have := takeA_inv hI j
    exact ⟨this.1, by show lk (takeA A j) ≤ _; omega, hx⟩
theorem lot1_inv {s : AH × Nat} (hI : Inv s.1) : Inv (lot1 s).1 ∧ lk (lot1 s).1 ≤ lk s.1 + 80 ∧ (lot1 s).2 < 2147483647 := by
  unfold lot1
  by_cases e : nx s.2 % 4 < 2
  · rw [if_pos e]; exact putL_inv hI (nx_lt _)
  · rw [if_neg e]
    by_cases e2 : nx s.2 % 4 = 2
    · rw [if_pos e2]; exact lowL_inv hI (nx_lt _)
    · rw [if_neg e2]; exact takL_inv hI (nx_lt _)
theorem lotsN_inv : ∀ (n : Nat) {s : AH × Nat}, Inv s.1 → Inv (lotsN n s).1 ∧ lk (lotsN n s).1 ≤ lk s.1 + 80 * n
  | 0, s, h => ⟨h, Nat.le_add_right _ _⟩
  | n + 1, s, h => by
    have h1 := lot1_inv h
    have h2 := lotsN_inv n h1.1
    exact ⟨h2.1, by show lk (lotsN n (lot1 s)).1 ≤ _; omega⟩
theorem lotsN_s (n : Nat) : ∀ s, lotsN (n + 1) s = lot1 (lotsN n s) := by
  induction n with
  | zero => intro s; rfl
  | succ n ih => intro s; exact ih (lot1 s)
section LOTS
variable {C : Nat → CP} {d k : Nat} {W : WS} {A : AH} {M : AM} {Q : RP} {x : Nat}
theorem ul_at (M : AM) (k : Nat) (v : Int64) : (ul M k v).2 k = v := if_pos rfl
theorem nx_l {x : Nat} (hx : x < 2147483647) : lN x * 16807 - lN x * 16807 / 2147483647 * 2147483647 = lN (nx x) := by
  have e1 : lN x * 16807 = lN (x * 16807) := lN_mul x 16807
  rw [e1]
  exact pk_lRem (a := x * 16807) (b := 2147483647) (by omega) (by omega) (by omega)
theorem by_l {y b : Nat} (hy : y < 2147483647) (hb0 : 0 < b) (hb : b < 2 ^ 31) : ¬ (nI b).toInt64 = 0 ∧ (lN y - lN y / (nI b).toInt64 * (nI b).toInt64).toInt32 = nI (y % b) := by
  rw [nI_l hb]
  refine ⟨fun e => ?_, ?_⟩
  · have := (pk_lEQ (a := b) (b := 0) (by omega) (by omega)).mp e
    omega
  · rw [pk_lRem (by omega) hb0 (by omega), lN_i]
set_option maxRecDepth 20000 in
theorem c_begin (hC : ClA C) {s : Nat} (hs' : s < 2 ^ 31) (h : Q none (ul M 0 (lN s))) : C (d + 1) n_X4_begin [vr 18 0, vi (nI s)] M Q := by
  refine hC.X4_begin d _ M Q (fun P go => ?_)
  rw [← nI_l hs'] at h
  exact go [] 99 _ _ _ _ h
set_option maxRecDepth 20000 in
theorem c_draw (hC : ClA C) (h2 : M.2 0 = lN x) (hx : x < 2147483647) {b : Nat} (hb0 : 0 < b) (hb : b < 2 ^ 31) (h : Q (some (vi (nI (nx x % b)))) (ul M 0 (lN (nx x)))) : C (d + 1) n_X4_draw [vr 18 0, vi (nI b)] M Q := by
  refine hC.X4_draw d _ M Q (fun P go => ?_)
  refine go [] 99 _ _ _ _ ⟨by decide, ?_⟩
  have e1 : M.2 0 * 16807 - M.2 0 * 16807 / 2147483647 * 2147483647 = lN (nx x) := by rw [h2]; exact nx_l hx
  obtain ⟨b1, b2'⟩ := by_l (y := nx x) (b := b) (nx_lt x) hb0 hb
  have key : ∀ v : Int64, v = lN (nx x) → Q (some (vi ((ul M 0 v).2 0 - (ul M 0 v).2 0 / (nI b).toInt64 * (nI b).toInt64).toInt32)) (ul M 0 v) := by
    intro v hv
    subst hv
    rw [ul_at, b2']
    exact h
  refine ⟨fun _ => ⟨b1, key _ e1⟩, fun c => absurd (nI_le (a := 1) (b := b) hb0 hb) c⟩
/-- the class in the midst of a drift -/
def CL (A : AH) (x : Nat) (M : AM) : Prop := CR 0 A M ∧ M.2 0 = lN x
set_option maxRecDepth 20000 in
theorem c_putByLots (hC : ClA C) (hM : CL A x M) (hx : x < 2147483647) (hI : Inv A) (h : ∀ M', CL (putL A x).1 (putL A x).2 M' → (∀ a u i, (a = 0 ∨ 10 < a ∨ u ≠ 0) → M'.1 a u i = M.1 a u i) → Q none M') : C (d + 3) n_X6_putByLots [vr 0 0] M Q := by
  obtain ⟨hR, h2⟩ := hM
  refine hC.X6_putByLots (d + 2) _ M Q (fun P go => ?_)
  refine go [] 99 _ _ _ _ ?_
  unfold putL at h
  refine c_hasRoom hC hR ⟨fun c => ?_, fun c => ?_⟩
  · have e3 : decide (hn A < 40) = false := b2_0 c
    rw [if_neg (of_decide_eq_false e3)] at h
    exact h M ⟨hR, h2⟩ (fun _ _ _ _ => rfl)
  · have e3 : decide (hn A < 40) = true := b2_n0 c
    rw [if_pos (of_decide_eq_true e3)] at h
    refine c_draw (b := 2) hC h2 hx (by omega) (by omega) ?_
    refine c_draw (b := 1000) hC (ul_at M 0 _) (nx_lt _) (by omega) (by omega) ?_
    have hR' : CR 0 A (ul (ul M 0 (lN (nx x))) 0 (lN (nx (nx x)))) := hR
    refine c_add hC hR' hI (of_decide_eq_true e3) (fun M' hR2 hF => ?_)
    exact h M' ⟨hR2, by rw [hF.2]; exact ul_at _ 0 _⟩ hF.1
set_option maxRecDepth 20000 in
theorem c_takeByLots (hC : ClA C) (hM : CL A x M) (hI : Inv A) (h : ∀ M', CL (takL A x).1 (takL A x).2 M' → (∀ a u i, (a = 0 ∨ 10 < a ∨ u ≠ 0) → M'.1 a u i = M.1 a u i) → Q none M') : C (d + 5) n_X6_takeByLots [vr 0 0] M Q := by
  obtain ⟨hR, h2⟩ := hM
  have h40 := hI.2.2.2.2.2.2.1
  refine hC.X6_takeByLots (d + 4) _ M Q (fun P go => ?_)
  refine go [] 99 _ _ _ _ ?_
  unfold takL at h
  refine c_soonest hC hR ?_
  cases e : soonA A with
  | none =>
    rw [e] at h
    exact ⟨fun _ => h M ⟨hR, h2⟩ (fun _ _ _ _ => rfl), fun c => absurd rfl c⟩
  | some j =>
    rw [e] at h
    have hj := (sstU_lt _ e).1
    refine ⟨fun c => absurd c (nI_m1 (by omega)), fun _ => ?_⟩
    refine c_takeOut hC hR hI hj (fun M' hR' hF => ?_)
    exact h M' ⟨hR', by rw [hF.2]; exact h2⟩ hF.1
theorem nI_le0 {b : Nat} (hb : b < 2 ^ 31) : nI b ≤ 0 ↔ ¬ 0 < b := by
  have := nI_leI (a := b) (b := 0) hb (by omega)
  rw [show (0 : Int32) = nI 0 from rfl, this]
  omega
set_option maxRecDepth 20000 in
theorem c_lowerByLots (hC : ClA C) (hM : CL A x M) (hx : x < 2147483647) (hI : Inv A) (h : ∀ M', CL (lowL A x).1 (lowL A x).2 M' → (∀ a u i, (a = 0 ∨ 10 < a ∨ u ≠ 0) → M'.1 a u i = M.1 a u i) → Q none M') : C (d + 5) n_X6_lowerByLots [vr 0 0] M Q := by
  obtain ⟨hR, h2⟩ := hM
  have h40 := hI.2.2.2.2.2.2.1
  refine hC.X6_lowerByLots (d + 4) _ M Q (fun P go => ?_)
  refine go [] 99 _ _ _ _ ?_
  unfold lowL at h
  refine c_standingCount hC hR ?_
  have hle := cU_le (hs A) (hn A)
  generalize hc' : cU (hs A) (hn A) = c at h hle
  refine ⟨fun c1 => ?_, fun c1 => ?_⟩
  · rw [if_neg ((nI_le0 (by omega)).mp c1)] at h
    exact h M ⟨hR, h2⟩ (fun _ _ _ _ => rfl)
  · have hc0 : 0 < c := by
      rcases Nat.lt_or_ge 0 c with q | q
      · exact q
      · exact absurd ((nI_le0 (by omega)).mpr (by omega)) c1
    rw [if_pos hc0] at h
    refine c_draw (b := c) hC h2 hx hc0 (by omega) ?_
    have hm : nx x % c < c := Nat.mod_lt _ hc0
    have hR1 : CR 0 A (ul M 0 (lN (nx x))) := hR
    refine c_standingAt hC hR1 (by omega) ?_
    refine c_draw (b := 100) hC (ul_at M 0 _) (nx_lt _) (by omega) (by omega) ?_
    have hR2 : CR 0 A (ul (ul M 0 (lN (nx x))) 0 (lN (nx (nx x)))) := hR
    have h22 : (ul (ul M 0 (lN (nx x))) 0 (lN (nx (nx x)))).2 0 = lN (nx (nx x)) := ul_at _ 0 _
    have hf : ∀ a u i, (a = 0 ∨ 10 < a ∨ u ≠ 0) → (ul (ul M 0 (lN (nx x))) 0 (lN (nx (nx x)))).1 a u i = M.1 a u i := fun _ _ _ _ => rfl
    generalize ul (ul M 0 (lN (nx x))) 0 (lN (nx (nx x))) = M2 at hR2 h22 hf
    have hb100 : nx (nx x) % 100 < 100 := Nat.mod_lt _ (by omega)
    generalize nx (nx x) % 100 = b at h hb100
    cases e : sAt A (nx x % c) with
    | none =>
      rw [e] at h
      exact ⟨fun _ => h M2 ⟨hR2, h22⟩ hf, fun q => absurd rfl q⟩
    | some j =>
      rw [e] at h
      have hj := (sAt_ok e).1
      refine ⟨fun q => absurd q (nI_m1 (by omega)), fun _ => ⟨fun q => ?_, fun q => ?_⟩⟩
      · have h := h M2
        unfold lowB at h
        have q' := (nI_le0 (by omega)).mp q
        have h : CL (if 0 < b then cond (btw (hk A j - nI b) (-9999) 9999) (lowA A j (hk A j - nI b)) A else A) (nx (nx x)) M2 → _ → _ := h
        rw [if_neg q'] at h
        exact h ⟨hR2, h22⟩ hf
      · have hb0 : 0 < b := by
          rcases Nat.lt_or_ge 0 b with q2 | q2
          · exact q2
          · exact absurd ((nI_le0 (by omega)).mpr (by omega)) q
        have h : ∀ M', CL (if 0 < b then cond (btw (hk A j - nI b) (-9999) 9999) (lowA A j (hk A j - nI b)) A else A) (nx (nx x)) M' → (∀ a u i, (a = 0 ∨ 10 < a ∨ u ≠ 0) → M'.1 a u i = M.1 a u i) → Q none M' := h
        rw [if_pos hb0] at h
        refine c_keyOf hC hR2 hj ?_
        refine c_isKey hC ⟨fun c3 => ?_, fun c3 => ?_⟩
        · have e3 := b2_0 c3
          rw [e3] at h
          exact h M2 ⟨hR2, h22⟩ hf
        · have e3 := b2_n0 c3
          rw [e3] at h
          refine c_keyOf hC hR2 hj ?_
          refine c_lowerTo hC hR2 hI hj (btw_key e3) (fun M' hR' hF => ?_)
          exact h M' ⟨hR', by rw [hF.2]; exact h22⟩ (fun a u i q3 => by rw [hF.1 a u i q3]; exact hf a u i q3)
set_option maxRecDepth 20000 in
theorem c_driftOnce (hC : ClA C) (hM : CL A x M) (hx : x < 2147483647) (hI : Inv A) (h : ∀ M', CL (lot1 (A, x)).1 (lot1 (A, x)).2 M' → (∀ a u i, (a = 0 ∨ 10 < a ∨ u ≠ 0) → M'.1 a u i = M.1 a u i) → Q none M') : C (d + 6) n_X6_driftOnce [vr 0 0] M Q := by
  obtain ⟨hR, h2⟩ := hM
  refine hC.X6_driftOnce (d + 5) _ M Q (fun P go => ?_)
  refine go [] 99 _ _ _ _ ?_
  unfold lot1 at h
  refine c_draw (b := 4) hC h2 hx (by omega) (by omega) ?_
  have hM1 : CL A (nx x) (ul M 0 (lN (nx x))) := ⟨hR, ul_at _ 0 _⟩
  have h4 : nx x % 4 < 4 := Nat.mod_lt _ (by omega)
  have hl2 := nI_leI (a := 2) (b := nx x % 4) (by omega) (by omega)
  refine ⟨fun c => ⟨fun c2 => ?_, fun c2 => ?_⟩, fun c => ?_⟩
  · have q1 := hl2.mp c
    have q2 : ¬ nx x % 4 = 2 := fun e => c2 (by rw [e]; rfl)
    rw [if_neg (show ¬ nx (A, x).2 % 4 < 2 from Nat.not_lt.mpr q1), if_neg (show ¬ nx (A, x).2 % 4 = 2 from q2)] at h
    exact c_takeByLots hC hM1 hI h
  · have q2 : nx x % 4 = 2 := nI_inj (by omega) (by omega) c2
    rw [if_neg (show ¬ nx (A, x).2 % 4 < 2 from by show ¬ nx x % 4 < 2; omega), if_pos (show nx (A, x).2 % 4 = 2 from q2)] at h
    exact c_lowerByLots hC hM1 (nx_lt _) hI h
  · have q1 : nx x % 4 < 2 := by
      rcases Nat.lt_or_ge (nx x % 4) 2 with q | q
      · exact q
      · exact absurd (hl2.mpr q) c
    rw [if_pos (show nx (A, x).2 % 4 < 2 from q1)] at h
    exact c_putByLots hC hM1 (nx_lt _) hI h
set_option maxRecDepth 20000 in
theorem c_drift (hC : ClA C) (hW : CW W M) (hI : WI k W) {n s : Int32} (h : ∀ M', CW (p_drift W n s).2 M' → FC M M' → Q (some (vi (p_drift W n s).1)) M') : C (d + 7) n_X6_drift [vr 0 0, vi n, vi s] M Q := by
  refine hC.X6_drift (d + 6) _ M Q (fun P go => ?_)
  refine go [(33, 4)] 99 _ _ _ _ ?_
  unfold p_drift at h
  refine c_between hC ⟨fun c => ?_, fun c => ?_⟩
  · rw [b2_0 c, Bool.false_and] at h
    exact h M hW (fun _ _ _ _ => rfl)
  · have e1 := b2_n0 c
    rw [e1, Bool.true_and] at h
    refine c_between hC ⟨fun c2 => ?_, fun c2 => ?_⟩
    · have e2 := b2_n0 c2
      rw [e2] at h
      obtain ⟨hn1, hn2, hn3⟩ := btw_nat (lo := 1) (hi := 40) (by omega) (by omega) e1
      obtain ⟨hs1, hs2, hs3⟩ := btw_nat (lo := 1) (hi := 999999) (by omega) (by omega) e2
      replace h : ∀ M', CW (wA W (lotsN (jx n) (W.1, jx s)).1) M' → FC M M' → Q (some (vi (nI (cU (hs (lotsN (jx n) (W.1, jx s)).1) (hn (lotsN (jx n) (W.1, jx s)).1))))) M' := h
      generalize jx n = m at hn1 hn2 hn3 h
      generalize jx s = y at hs1 hs2 hs3 h
      subst hn1
      subst hs1
      refine c_begin hC (by omega) ?_
      have loop : ∀ f i (M1 : AM), i + f = m → CL (lotsN i (W.1, y)).1 (lotsN i (W.1, y)).2 M1 → (lotsN i (W.1, y)).2 < 2147483647 → (∀ a u i, (a = 0 ∨ 10 < a ∨ u ≠ 0) → M1.1 a u i = M.1 a u i) → P 33 [some (vr 0 0), some (vi (nI m)), some (vi (nI y)), some (vi (nI i))] [] M1 := by
        intro f
        induction f with
        | zero =>
          intro i M1 hi hL hx1 hf
          have ei : i = m := by omega
          subst ei
          refine go [] 99 _ _ _ _ ⟨fun _ => ?_, fun c => absurd (nI_le (Nat.le_refl _) (by omega)) c⟩
          refine c_standingCount hC hL.1 ?_
          have := CW_heap (M' := (M1.1, M.2)) hW hL.1 ⟨hf, rfl⟩
          exact h M1 this.1 this.2
        | succ f ih =>
          intro i M1 hi hL hx1 hf
          have hin : i < m := by omega
          refine go [(33, 4)] 99 _ _ _ _ ⟨fun c => absurd c (nI_ge hin (by omega)), fun _ => ?_⟩
          have hI1 := (lotsN_inv i (s := (W.1, y)) hI.1).1
          refine c_driftOnce hC hL hx1 hI1 (fun M2 hL2 hf2 => ?_)
          have es : lotsN (i + 1) (W.1, y) = lot1 ((lotsN i (W.1, y)).1, (lotsN i (W.1, y)).2) := lotsN_s i _
          have hx2 := (lot1_inv (s := ((lotsN i (W.1, y)).1, (lotsN i (W.1, y)).2)) hI1).2.2
          rw [← es] at hL2 hx2
          have := ih (i + 1) M2 (by omega) hL2 hx2 (fun a u j q => by rw [hf2 a u j q]; exact hf a u j q)
          rw [← nI_1] at this
          exact this
      exact loop m 0 (ul M 0 (lN y)) (by omega) ⟨hW.1, ul_at _ 0 _⟩ (by show y < _; omega) (fun _ _ _ _ => rfl)
    · rw [b2_0 c2] at h
      exact h M hW (fun _ _ _ _ => rfl)
end LOTS

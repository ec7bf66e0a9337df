/-! THE NET: what growing does -/
theorem lowA_more {A : AH} (hI : Inv A) {j : Nat} {y : Int32} (hy : KeyOk y) : hk (lowA A j y) = va_up (hk A) j y ∧ hs (lowA A j y) = hs A := by
  unfold lowA settle
  split
  · exact ⟨rfl, rfl⟩
  · rename_i p hp1
    cases snb (setk A j y) j p
    · exact ⟨rfl, rfl⟩
    · have := sett_inv (A := setl (setk A j y) j) (hn (setl (setk A j y) j)) (inv_setl (A := setk A j y) (inv_setk hI hy) hp1)
      exact ⟨this.2.2.2.1, this.2.2.2.2.1⟩
theorem sst_min {A : AH} : ∀ (n : Nat) {b : Nat}, sstU A n = some b → ∀ x, x < n → hs A x = true → hk A b ≤ hk A x
  | 0, b, h, x, hx, _ => absurd hx (Nat.not_lt_zero x)
  | n + 1, b, h, x, hx, hsx => by
    unfold sstU at h
    cases e : hs A n with
    | false =>
      rw [e] at h
      have hxn : x ≠ n := fun q => by rw [q, e] at hsx; cases hsx
      exact sst_min n (b := b) h x (by omega) hsx
    | true =>
      rw [e] at h
      have h : (match sstU A n with | none => some n | some b => cond (snb A n b) (some n) (some b)) = some b := h
      split at h
      · rename_i hno
        cases h
        by_cases q : x = n
        · rw [q]; exact Int32.le_refl _
        · have h0 := sstU_none n hno
          have := cU_pos hsx n (by omega)
          omega
      · rename_i c hc
        have hm := fun y hy hs' => sst_min n hc y hy hs'
        cases e2 : snb A n c with
        | true =>
          rw [e2] at h
          cases h
          have hle : hk A n ≤ hk A c := by
            unfold snb at e2
            have := of_decide_eq_true e2
            rcases this with q | ⟨q, -⟩
            · rw [Int32.lt_iff_toInt_lt] at q
              rw [Int32.le_iff_toInt_le]; omega
            · rw [q]; exact Int32.le_refl _
          by_cases q : x = n
          · rw [q]; exact Int32.le_refl _
          · have := hm x (by omega) hsx
            rw [Int32.le_iff_toInt_le] at *
            omega
        | false =>
          rw [e2] at h
          replace h : some c = some b := h
          injection h with h
          subst h
          by_cases q : x = n
          · rw [q]
            unfold snb at e2
            have := of_decide_eq_false e2
            have h3 : ¬ hk A n < hk A c := fun w => this (.inl w)
            rw [Int32.lt_iff_toInt_lt] at h3
            rw [Int32.le_iff_toInt_le]; omega
          · exact hm x (by omega) hsx
abbrev NG : Type := AH × (Nat → Option Nat) × Nat
def acr (T : NT) (r a : Nat) : Option Nat := if T.2.2.1 r = a then some (T.2.2.2.1 r) else if T.2.2.2.1 r = a then some (T.2.2.1 r) else none
noncomputable def spr1 (T : NT) (a : Nat) (v : Int32) (s : NG) (r : Nat) : NG := match acr T r a with
  | none => s
  | some o => cond (hs s.1 o && decide (v + T.2.2.2.2 r < hk s.1 o)) (lowA s.1 o (v + T.2.2.2.2 r), va_up s.2.1 o (some r), s.2.2 + 1) s
noncomputable def spr (T : NT) (a : Nat) (v : Int32) (s : NG) : Nat → NG
  | 0 => s
  | r + 1 => spr1 T a v (spr T a v s r) r
def vOf (far : Bool) (A : AH) (j : Nat) : Int32 := cond far (hk A j) 0
noncomputable def stp (T : NT) (far : Bool) (s : NG) (j : Nat) : NG := if hk s.1 j < 9999 then spr T j (vOf far s.1 j) (takeA s.1 j, s.2) T.2.1 else (takeA s.1 j, s.2)
noncomputable def grw (T : NT) (far : Bool) : Nat → NG → NG
  | 0, s => s
  | f + 1, s => match soonA s.1 with
    | none => s
    | some j => grw T far f (stp T far s j)
def beg (a : Nat) : Nat → AH
  | 0 => emp
  | n + 1 => addj (beg a n) 0 (if n = a then 0 else 9999)
noncomputable def grown (T : NT) (far : Bool) (a : Nat) : NG := grw T far T.1 (beg a T.1, fun _ => none, 0)
/-- the invariant of growing -/
def HI (T : NT) (s : NG) : Prop := (∀ x r, s.2.1 x = some r → r < T.2.1 ∧ x < T.1 ∧ ((T.2.2.1 r = x ∧ hs s.1 (T.2.2.2.1 r) = false) ∨ (T.2.2.2.1 r = x ∧ hs s.1 (T.2.2.1 r) = false))) ∧ ∀ x y r, s.2.1 x = some r → s.2.1 y = some r → x = y
def GI (T : NT) (B : Nat) (s : NG) : Prop := Inv s.1 ∧ hn s.1 = T.1 ∧ lk s.1 ≤ B ∧ HI T s
theorem add_w {v w : Int32} (hv : KeyOk v) (hw0 : 0 ≤ w.toInt) (hw1 : w.toInt ≤ 9999) : (v + w).toInt = v.toInt + w.toInt := by
  unfold KeyOk at hv
  rw [Int32.toInt_add, Int.bmod_def]
  split <;> omega
theorem acr_ok {T : NT} (hT : NI T) {r a o : Nat} (hr : r < T.2.1) (h : acr T r a = some o) : o < T.1 ∧ a < T.1 ∧ o ≠ a ∧ ((T.2.2.1 r = a ∧ T.2.2.2.1 r = o) ∨ (T.2.2.2.1 r = a ∧ T.2.2.1 r = o)) := by
  obtain ⟨t1, t2, t3, t4⟩ := hT.2.2 r hr
  unfold acr at h
  by_cases e : T.2.2.1 r = a
  · rw [if_pos e] at h
    cases h
    exact ⟨t2, by omega, by omega, .inl ⟨e, rfl⟩⟩
  · rw [if_neg e] at h
    by_cases e2 : T.2.2.2.1 r = a
    · rw [if_pos e2] at h
      cases h
      exact ⟨t1, by omega, by omega, .inr ⟨e2, rfl⟩⟩
    · rw [if_neg e2] at h
      cases h
theorem key_v {T : NT} (hT : NI T) {A : AH} (hI : Inv A) {r o : Nat} {v : Int32} (hr : r < T.2.1) (ho : o < hn A) (hv : KeyOk v) (h : v + T.2.2.2.2 r < hk A o) : KeyOk (v + T.2.2.2.2 r) ∧ ¬ 9999 ≤ v + T.2.2.2.2 r := by
  obtain ⟨t1, t2, t3, t4, t5⟩ := hT.2.2 r hr
  have e := add_w hv t4 t5
  have hk' := (hI.2.2.2.2.2.2.2 o ho).1
  rw [Int32.lt_iff_toInt_lt] at h
  have e9 : (9999 : Int32).toInt = 9999 := by decide
  unfold KeyOk at *
  rw [Int32.le_iff_toInt_le]
  omega
theorem spr1_inv {T : NT} (hT : NI T) {B : Nat} {s : NG} (h : GI T B s) {a r : Nat} {v : Int32} (hr : r < T.2.1) (hv : KeyOk v) (ha : hs s.1 a = false) : GI T (B + 8) (spr1 T a v s r) ∧ hs (spr1 T a v s r).1 = hs s.1 ∧ hk (spr1 T a v s r).1 a = hk s.1 a := by
  obtain ⟨g1, g2, g3, g4⟩ := h
  have h8 := hT.1
  unfold spr1
  cases e : acr T r a with
  | none => exact ⟨⟨g1, g2, by show lk s.1 ≤ _; omega, g4⟩, rfl, rfl⟩
  | some o =>
    obtain ⟨o1, o2, o3, o4⟩ := acr_ok hT hr e
    cases e2 : (hs s.1 o && decide (v + T.2.2.2.2 r < hk s.1 o)) with
    | false =>
      show GI T (B + 8) (cond (hs s.1 o && decide (v + T.2.2.2.2 r < hk s.1 o)) _ s) ∧ hs (cond (hs s.1 o && decide (v + T.2.2.2.2 r < hk s.1 o)) _ s).1 = _ ∧ hk (cond (hs s.1 o && decide (v + T.2.2.2.2 r < hk s.1 o)) _ s).1 a = _
      rw [e2]; exact ⟨⟨g1, g2, by show lk s.1 ≤ _; omega, g4⟩, rfl, rfl⟩
    | true =>
      show GI T (B + 8) (cond (hs s.1 o && decide (v + T.2.2.2.2 r < hk s.1 o)) _ s) ∧ hs (cond (hs s.1 o && decide (v + T.2.2.2.2 r < hk s.1 o)) _ s).1 = _ ∧ hk (cond (hs s.1 o && decide (v + T.2.2.2.2 r < hk s.1 o)) _ s).1 a = _
      rw [e2]
      rw [Bool.and_eq_true, decide_eq_true_eq] at e2
      have hy := (key_v hT g1 hr (by omega) hv e2.2).1
      have l1 := lowA_inv g1 (j := o) hy
      have l2 := lowA_more g1 (j := o) hy
      refine ⟨⟨l1.1, l1.2.1.trans g2, by show lk (lowA s.1 o _) ≤ _; omega, fun x r' hx => ?_, fun x y r' hx hy' => ?_⟩, l2.2, ?_⟩
      · show r' < _ ∧ x < _ ∧ ((_ ∧ hs (lowA s.1 o _) _ = false) ∨ (_ ∧ hs (lowA s.1 o _) _ = false))
        rw [l2.2]
        replace hx : va_up s.2.1 o (some r) x = some r' := hx
        by_cases q : x = o
        · subst q
          rw [up_s] at hx
          cases hx
          refine ⟨hr, o1, ?_⟩
          rcases o4 with ⟨u1, u2⟩ | ⟨u1, u2⟩
          · exact .inr ⟨u2, by rw [u1]; exact ha⟩
          · exact .inl ⟨u2, by rw [u1]; exact ha⟩
        · rw [up_n q] at hx
          exact g4.1 x r' hx
      · replace hx : va_up s.2.1 o (some r) x = some r' := hx
        replace hy' : va_up s.2.1 o (some r) y = some r' := hy'
        have main : ∀ z, z ≠ o → s.2.1 z = some r → False := by
          intro z hz hz2
          obtain ⟨-, -, q⟩ := g4.1 z r hz2
          have e3 := e2.1
          rcases o4 with ⟨u1, u2⟩ | ⟨u1, u2⟩ <;> rcases q with ⟨q1, q2⟩ | ⟨q1, q2⟩
          · rw [u2, e3] at q2; cases q2
          · omega
          · omega
          · rw [u2, e3] at q2; cases q2
        by_cases q : x = o
        · by_cases q2 : y = o
          · omega
          · rw [q, up_s] at hx
            cases hx
            rw [up_n q2] at hy'
            exact absurd (main y q2 hy') id
        · rw [up_n q] at hx
          by_cases q2 : y = o
          · rw [q2, up_s] at hy'
            cases hy'
            exact absurd (main x q hx) id
          · rw [up_n q2] at hy'
            exact g4.2 x y r' hx hy'
      · show hk (lowA s.1 o _) a = _
        rw [l2.1, up_n (by omega)]
theorem spr_inv {T : NT} (hT : NI T) {B : Nat} {s : NG} (h : GI T B s) {a : Nat} {v : Int32} (hv : KeyOk v) (ha : hs s.1 a = false) : ∀ r, r ≤ T.2.1 → GI T (B + 8 * r) (spr T a v s r) ∧ hs (spr T a v s r).1 = hs s.1 ∧ hk (spr T a v s r).1 a = hk s.1 a
  | 0, _ => ⟨h, rfl, rfl⟩
  | r + 1, hr => by
    have h1 := spr_inv hT h hv ha r (by omega)
    have h2 := spr1_inv hT h1.1 (r := r) (by omega) hv (by rw [h1.2.1]; exact ha)
    refine ⟨?_, h2.2.1.trans h1.2.1, h2.2.2.trans h1.2.2⟩
    have := h2.1
    rw [show B + 8 * r + 8 = B + 8 * (r + 1) by omega] at this
    exact this
theorem vOf_ok {far : Bool} {A : AH} (hI : Inv A) {j : Nat} (hj : j < hn A) : KeyOk (vOf far A j) := by
  unfold vOf
  cases far
  · show KeyOk 0; unfold KeyOk; decide
  · exact (hI.2.2.2.2.2.2.2 j hj).1
theorem tak_GI {T : NT} {B : Nat} {s : NG} (hT : NI T) (h : GI T B s) (j : Nat) : GI T (B + 16) (takeA s.1 j, s.2) ∧ hs (takeA s.1 j) = va_up (hs s.1) j false ∧ hk (takeA s.1 j) = hk s.1 := by
  obtain ⟨g1, g2, g3, g4⟩ := h
  have h8 := hT.1
  have t := takeA_inv g1 j
  refine ⟨⟨t.1, t.2.1.trans g2, by show lk (takeA s.1 j) ≤ _; omega, fun x r hx => ?_, g4.2⟩, t.2.2.2.2, t.2.2.2.1⟩
  show _ ∧ _ ∧ ((_ ∧ hs (takeA s.1 j) _ = false) ∨ (_ ∧ hs (takeA s.1 j) _ = false))
  rw [t.2.2.2.2]
  obtain ⟨a, b, c⟩ := g4.1 x r hx
  have up : ∀ z, hs s.1 z = false → va_up (hs s.1) j false z = false := fun z hz => by
    by_cases q : z = j
    · rw [q, up_s]
    · rw [up_n q]; exact hz
  refine ⟨a, b, ?_⟩
  rcases c with ⟨c1, c2⟩ | ⟨c1, c2⟩
  · exact .inl ⟨c1, up _ c2⟩
  · exact .inr ⟨c1, up _ c2⟩
theorem stp_GI {T : NT} {B : Nat} {s : NG} (hT : NI T) (h : GI T B s) {far : Bool} {j : Nat} (hj : j < T.1) : GI T (B + 128) (stp T far s j) ∧ hs (stp T far s j).1 = va_up (hs s.1) j false := by
  have h1 := tak_GI hT h j
  have h14 := hT.2.1
  unfold stp
  by_cases e : hk s.1 j < 9999
  · rw [if_pos e]
    have h2 := spr_inv hT h1.1 (a := j) (v := vOf far s.1 j) (vOf_ok h.1 (by rw [h.2.1]; exact hj)) (by rw [h1.2.1, up_s]) T.2.1 (Nat.le_refl _)
    obtain ⟨⟨a, b, c, d⟩, e2, -⟩ := h2
    exact ⟨⟨a, b, by omega, d⟩, e2.trans h1.2.1⟩
  · rw [if_neg e]
    obtain ⟨⟨a, b, c, d⟩, e2, -⟩ := h1
    exact ⟨⟨a, b, by omega, d⟩, e2⟩
theorem grw_GI {T : NT} (hT : NI T) {far : Bool} : ∀ (f : Nat) {B : Nat} {s : NG}, GI T B s → GI T (B + 128 * f) (grw T far f s)
  | 0, B, s, h => h
  | f + 1, B, s, h => by
    unfold grw
    cases e : soonA s.1 with
    | none => obtain ⟨a, b, c, d⟩ := h; exact ⟨a, b, by show lk s.1 ≤ _; omega, d⟩
    | some j =>
      have hj := (sstU_lt _ e).1
      have := grw_GI hT (far := far) f (stp_GI hT h (far := far) (j := j) (by rw [h.2.1] at hj; exact hj)).1
      obtain ⟨a, b, c, d⟩ := this
      exact ⟨a, b, by show lk (grw T far f (stp T far s j)).1 ≤ _; omega, d⟩
theorem beg_ok (a : Nat) : ∀ n, n ≤ 8 → Inv (beg a n) ∧ hn (beg a n) = n ∧ lk (beg a n) = 0 ∧ ct (beg a n) = 0 ∧ (∀ x, x < n → hs (beg a n) x = true ∧ hk (beg a n) x = if x = a then 0 else 9999)
  | 0, _ => ⟨inv_emp, rfl, rfl, rfl, fun x hx => absurd hx (Nat.not_lt_zero x)⟩
  | n + 1, hn' => by
    obtain ⟨i1, i2, i3, i4, i5⟩ := beg_ok a n (by omega)
    refine ⟨inv_add i1 (by omega) ?_ (.inl rfl), by show hn (beg a n) + 1 = _; omega, i3, i4, fun x hx => ?_⟩
    · by_cases e : n = a
      · rw [if_pos e]; unfold KeyOk; decide
      · rw [if_neg e]; unfold KeyOk; decide
    · show va_up (hs (beg a n)) (hn (beg a n)) true x = true ∧ va_up (hk (beg a n)) (hn (beg a n)) _ x = _
      rw [i2]
      by_cases e : x = n
      · subst e; rw [up_s, up_s]; exact ⟨rfl, rfl⟩
      · rw [up_n e, up_n e]; exact i5 x (by omega)
theorem beg_GI {T : NT} (hT : NI T) (a : Nat) : GI T 0 (beg a T.1, fun _ => none, 0) := by
  obtain ⟨i1, i2, i3, i4, i5⟩ := beg_ok a T.1 hT.1
  exact ⟨i1, i2, Nat.le_of_eq i3, ⟨fun x r h => no_none (p := r) h, fun x y r h => no_none (p := r) h⟩⟩
theorem cU_up {p : Nat → Bool} {j : Nat} (hj : p j = true) : ∀ n, j < n → cU (va_up p j false) n + 1 = cU p n := by
  have low : ∀ m, m ≤ j → cU (va_up p j false) m = cU p m := by
    intro m
    induction m with
    | zero => intro _; rfl
    | succ m ih => intro hm; rw [cU_s, cU_s, ih (by omega), up_n (by omega)]
  intro n
  induction n with
  | zero => intro h; omega
  | succ n ih =>
    intro h
    rw [cU_s, cU_s]
    by_cases e : j = n
    · subst e
      rw [up_s, hj, low j (Nat.le_refl _)]
      rfl
    · rw [up_n (by omega)]
      have := ih (by omega)
      omega

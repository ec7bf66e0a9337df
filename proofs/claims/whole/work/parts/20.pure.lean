/-! THE PURE SIDE: a heap as numbers and lists -/
abbrev AH : Type := Nat × (Nat → Int32) × (Nat → Int32) × (Nat → Bool) × (Nat → Option Nat) × (Nat → Bool) × (Nat → List Nat) × Nat × Nat
abbrev hn (A : AH) : Nat := A.1
abbrev hd (A : AH) : Nat → Int32 := A.2.1
abbrev hk (A : AH) : Nat → Int32 := A.2.2.1
abbrev hs (A : AH) : Nat → Bool := A.2.2.2.1
abbrev hp (A : AH) : Nat → Option Nat := A.2.2.2.2.1
abbrev hl (A : AH) : Nat → Bool := A.2.2.2.2.2.1
abbrev hc (A : AH) : Nat → List Nat := A.2.2.2.2.2.2.1
abbrev lk (A : AH) : Nat := A.2.2.2.2.2.2.2.1
abbrev ct (A : AH) : Nat := A.2.2.2.2.2.2.2.2
def rk (A : AH) (j : Nat) : Nat := (hc A j).length
def snb (A : AH) (a b : Nat) : Bool := decide (hk A a < hk A b ∨ (hk A a = hk A b ∧ a < b))
def lnk (A : AH) (u d : Nat) : AH := (hn A, hd A, hk A, hs A, va_up (hp A) d (some u), hl A, va_up (hc A) u (hc A u ++ [d]), lk A + 1, ct A)
def link (A : AH) (a b : Nat) : AH := cond (snb A a b) (lnk A a b) (lnk A b a)
def cutj (A : AH) (j : Nat) : AH := match hp A j with
  | none => A
  | some p => (hn A, hd A, hk A, hs A, va_up (hp A) j none, va_up (hl A) j false, va_up (hc A) p ((hc A p).erase j), lk A, ct A + 1)
/-- those below j stand alone, j is taken -/
def fre (A : AH) (j : Nat) : AH := (hn A, hd A, hk A, va_up (hs A) j false, fun x => if hp A x = some j then none else hp A x, fun x => if hp A x = some j then false else hl A x, va_up (hc A) j [], lk A, ct A)
def addj (A : AH) (kind key : Int32) : AH := (hn A + 1, va_up (hd A) (hn A) kind, va_up (hk A) (hn A) key, va_up (hs A) (hn A) true, hp A, hl A, hc A, lk A, ct A)
def setk (A : AH) (j : Nat) (key : Int32) : AH := (hn A, hd A, va_up (hk A) j key, hs A, hp A, hl A, hc A, lk A, ct A)
def setl (A : AH) (j : Nat) : AH := (hn A, hd A, hk A, hs A, hp A, va_up (hl A) j true, hc A, lk A, ct A)
def emp : AH := (0, fun _ => 0, fun _ => 0, fun _ => false, fun _ => none, fun _ => false, fun _ => [], 0, 0)
def KeyOk (x : Int32) : Prop := -9999 ≤ x.toInt ∧ x.toInt ≤ 9999
def KindOk (x : Int32) : Prop := x = 0 ∨ x = 1
def Inv (A : AH) : Prop :=
  (∀ j p, hp A j = some p ↔ j ∈ hc A p) ∧ (∀ p, (hc A p).Nodup) ∧ (∀ j p, hp A j = some p → j < hn A ∧ p < hn A ∧ hs A j = true ∧ hs A p = true) ∧ (∀ j, hl A j = true → hp A j ≠ none) ∧ (∃ o : Nat → Nat, ∀ j p, hp A j = some p → o p < o j) ∧ (∀ j, hs A j = true → j < hn A) ∧ hn A ≤ 40 ∧ (∀ j, j < hn A → KeyOk (hk A j) ∧ KindOk (hd A j))
theorem up_s {α : Type} {f : Nat → α} {k : Nat} {v : α} : va_up f k v k = v := by simp [va_up]
theorem up_n {α : Type} {f : Nat → α} {k j : Nat} {v : α} (h : j ≠ k) : va_up f k v j = f j := by simp [va_up, h]
theorem nodup_le : ∀ (n : Nat) (l : List Nat), l.Nodup → (∀ x ∈ l, x < n) → l.length ≤ n
  | 0, l, _, h => by
    cases l with
    | nil => simp
    | cons a r => exact absurd (h a List.mem_cons_self) (Nat.not_lt_zero a)
  | n + 1, l, hnd, h => by
    have h1 := nodup_le n (l.erase n) (hnd.erase n) (fun x hx => by
      have h2 := h x (List.mem_of_mem_erase hx)
      have h3 : x ≠ n := fun e => by
        rw [e] at hx
        exact absurd hx (List.Nodup.not_mem_erase hnd)
      omega)
    by_cases hm : n ∈ l
    · rw [List.length_erase_of_mem hm] at h1
      omega
    · rw [List.erase_of_not_mem hm] at h1
      omega
theorem cnt_lt {p q : Nat → Bool} : ∀ (n x : Nat), x < n → p x = true → q x = false → (∀ y, q y = true → p y = true) → (List.range n).countP q < (List.range n).countP p := by
  intro n
  have mono : (∀ y, q y = true → p y = true) → ∀ m, (List.range m).countP q ≤ (List.range m).countP p := by
    intro h m
    exact List.countP_mono_left (fun y _ => h y)
  induction n with
  | zero => intro x h; omega
  | succ n ih =>
    intro x hx h1 h2 h3
    rw [List.range_succ, List.countP_append, List.countP_append]
    simp only [List.countP_cons, List.countP_nil]
    by_cases hxn : x = n
    · subst hxn
      have := mono h3 x
      simp [h1, h2]
      omega
    · have h4 := ih x (by omega) h1 h2 h3
      have h5 : (if q n = true then 1 else 0) ≤ (if p n = true then 1 else 0) := by
        by_cases hq : q n = true
        · simp [hq, h3 n hq]
        · simp [hq]
      omega
theorem cnt_le (p : Nat → Bool) (n : Nat) : (List.range n).countP p ≤ n := by
  have := List.countP_le_length (p := p) (l := List.range n)
  simpa using this
theorem Inv.ord {A : AH} (h : Inv A) : ∃ o : Nat → Nat, (∀ j p, hp A j = some p → o p < o j) ∧ ∀ j, o j ≤ hn A ∧ (j < hn A → o j < hn A) := by
  obtain ⟨o, ho⟩ := h.2.2.2.2.1
  refine ⟨fun j => (List.range (hn A)).countP (fun x => decide (o x < o j)), fun j p hjp => ?_, fun j => ⟨cnt_le _ _, fun hj => ?_⟩⟩
  · have h1 := ho j p hjp
    have h2 := (h.2.2.1 j p hjp).2.1
    exact cnt_lt (hn A) p h2 (by simpa using h1) (by simp) (fun y hy => by simp at hy ⊢; omega)
  · have h1 : (List.range (hn A)).countP (fun x => decide (o x < o j)) < (List.range (hn A)).countP (fun _ => true) := cnt_lt (hn A) j hj rfl (by simp) (fun _ _ => rfl)
    have h2 := cnt_le (fun _ => true) (hn A)
    exact Nat.lt_of_lt_of_le h1 h2
theorem Inv.irr {A : AH} (h : Inv A) (j : Nat) : hp A j ≠ some j := fun e => by
  obtain ⟨o, ho⟩ := h.2.2.2.2.1
  exact absurd (ho j j e) (Nat.lt_irrefl _)
theorem Inv.rk_lt {A : AH} (h : Inv A) {j : Nat} (hj : j < hn A) : rk A j < hn A := by
  have h1 : (j :: hc A j).Nodup := List.nodup_cons.mpr ⟨fun hm => h.irr j ((h.1 j j).mpr hm), h.2.1 j⟩
  have h2 := nodup_le (hn A) (j :: hc A j) h1 (fun x hx => (List.mem_cons.mp hx).elim (fun e => by rw [e]; exact hj) (fun hm => (h.2.2.1 x j ((h.1 x j).mpr hm)).1))
  exact h2
theorem no_none {p : Nat} {X : Prop} (h : (none : Option Nat) = some p) : X := by cases h
theorem no_ff {X : Prop} (h : false = true) : X := by cases h
theorem inv_emp : Inv emp := ⟨fun j p => ⟨fun h => no_none (p := p) h, fun h => absurd (show j ∈ ([] : List Nat) from h) List.not_mem_nil⟩, fun p => (List.nodup_nil : ([] : List Nat).Nodup), fun j p h => no_none (p := p) h, fun j h => no_ff h, ⟨fun _ => 0, fun j p h => no_none (p := p) h⟩, fun j h => no_ff h, Nat.zero_le _, fun j h => absurd h (Nat.not_lt_zero j)⟩
theorem inv_lnk {A : AH} (h : Inv A) {u d : Nat} (hud : u ≠ d) (hu : hp A u = none) (hd' : hp A d = none) (su : hs A u = true) (sd : hs A d = true) : Inv (lnk A u d) := by
  obtain ⟨i1, i2, i3, i4, ⟨o, ho⟩, i6, i7, i8⟩ := h
  have hdn : ∀ p, d ∉ hc A p := fun p hm => by rw [(i1 d p).mpr hm] at hd'; cases hd'
  refine ⟨fun j p => ?_, fun p => ?_, fun j p hj => ?_, fun j hj => ?_, ⟨fun x => if x = u then 0 else o x + 1, fun j p hj => ?_⟩, i6, i7, i8⟩
  · show va_up (hp A) d (some u) j = some p ↔ j ∈ va_up (hc A) u (hc A u ++ [d]) p
    by_cases hj : j = d
    · subst hj
      rw [up_s]
      by_cases hpu : p = u
      · subst hpu
        rw [up_s]
        simp
      · rw [up_n hpu]
        constructor
        · intro e; cases e; exact absurd rfl hpu
        · intro hm; exact absurd hm (hdn p)
    · rw [up_n hj]
      by_cases hpu : p = u
      · subst hpu
        rw [up_s, i1 j p]
        simp [hj]
      · rw [up_n hpu, i1 j p]
  · show (va_up (hc A) u (hc A u ++ [d]) p).Nodup
    by_cases hpu : p = u
    · subst hpu
      rw [up_s]
      refine List.nodup_append.mpr ⟨i2 p, by simp, fun a ha b hb => ?_⟩
      rw [List.mem_singleton.mp hb]
      intro e
      rw [e] at ha
      exact hdn p ha
    · rw [up_n hpu]; exact i2 p
  · have hj : va_up (hp A) d (some u) j = some p := hj
    by_cases hjd : j = d
    · subst hjd
      rw [up_s] at hj
      cases hj
      exact ⟨i6 _ sd, i6 _ su, sd, su⟩
    · rw [up_n hjd] at hj
      exact i3 j p hj
  · show va_up (hp A) d (some u) j ≠ none
    by_cases hjd : j = d
    · subst hjd; rw [up_s]; simp
    · rw [up_n hjd]; exact i4 j hj
  · have hj : va_up (hp A) d (some u) j = some p := hj
    by_cases hjd : j = d
    · subst hjd
      rw [up_s] at hj
      cases hj
      show (if u = u then 0 else _) < (if j = u then 0 else _)
      rw [if_pos rfl, if_neg (Ne.symm hud)]
      omega
    · rw [up_n hjd] at hj
      have h1 := ho j p hj
      have hju : j ≠ u := fun e => by rw [e, hu] at hj; cases hj
      show (if p = u then 0 else o p + 1) < (if j = u then 0 else o j + 1)
      rw [if_neg hju]
      split <;> omega
theorem snb_or {A : AH} {a b : Nat} : link A a b = lnk A a b ∨ link A a b = lnk A b a := by
  unfold link
  cases snb A a b
  · exact Or.inr rfl
  · exact Or.inl rfl
theorem inv_link {A : AH} (h : Inv A) {a b : Nat} (hab : a ≠ b) (ha : hp A a = none) (hb : hp A b = none) (sa : hs A a = true) (sb : hs A b = true) : Inv (link A a b) := by
  rcases snb_or (A := A) (a := a) (b := b) with e | e <;> rw [e]
  · exact inv_lnk h hab ha hb sa sb
  · exact inv_lnk h (Ne.symm hab) hb ha sb sa
theorem inv_cut {A : AH} (h : Inv A) (j : Nat) : Inv (cutj A j) := by
  unfold cutj
  split
  · exact h
  · rename_i p hjp
    obtain ⟨i1, i2, i3, i4, ⟨o, ho⟩, i6, i7, i8⟩ := h
    refine ⟨fun x q => ?_, fun q => ?_, fun x q hx => ?_, fun x hx => ?_, ⟨o, fun x q hx => ?_⟩, i6, i7, i8⟩
    · show va_up (hp A) j none x = some q ↔ x ∈ va_up (hc A) p ((hc A p).erase j) q
      by_cases hxj : x = j
      · subst hxj
        rw [up_s]
        by_cases hq : q = p
        · subst hq
          rw [up_s]
          constructor
          · intro e; cases e
          · intro hm; exact absurd hm (List.Nodup.not_mem_erase (i2 q))
        · rw [up_n hq]
          constructor
          · intro e; cases e
          · intro hm
            have h1 := (i1 x q).mpr hm
            rw [hjp] at h1
            cases h1
            exact absurd rfl hq
      · rw [up_n hxj]
        by_cases hq : q = p
        · subst hq
          rw [up_s, i1 x q, List.mem_erase_of_ne hxj]
        · rw [up_n hq, i1 x q]
    · show (va_up (hc A) p ((hc A p).erase j) q).Nodup
      by_cases hq : q = p
      · subst hq; rw [up_s]; exact (i2 q).erase j
      · rw [up_n hq]; exact i2 q
    · have hx : va_up (hp A) j none x = some q := hx
      by_cases hxj : x = j
      · subst hxj; rw [up_s] at hx; cases hx
      · rw [up_n hxj] at hx; exact i3 x q hx
    · have hx : va_up (hl A) j false x = true := hx
      show va_up (hp A) j none x ≠ none
      by_cases hxj : x = j
      · subst hxj; rw [up_s] at hx; cases hx
      · rw [up_n hxj] at hx ⊢; exact i4 x hx
    · have hx : va_up (hp A) j none x = some q := hx
      by_cases hxj : x = j
      · subst hxj; rw [up_s] at hx; cases hx
      · rw [up_n hxj] at hx; exact ho x q hx
theorem inv_fre {A : AH} (h : Inv A) {j : Nat} (hj : hp A j = none) : Inv (fre A j) := by
  obtain ⟨i1, i2, i3, i4, ⟨o, ho⟩, i6, i7, i8⟩ := h
  have key : ∀ x q, (if hp A x = some j then none else hp A x) = some q → hp A x = some q ∧ q ≠ j := by
    intro x q hx
    split at hx
    · cases hx
    · rename_i hne
      exact ⟨hx, fun e => hne (by rw [hx, e])⟩
  refine ⟨fun x q => ?_, fun q => ?_, fun x q hx => ?_, fun x hx => ?_, ⟨o, fun x q hx => ho x q (key x q hx).1⟩, fun x hx => ?_, i7, i8⟩
  · show (if hp A x = some j then none else hp A x) = some q ↔ x ∈ va_up (hc A) j [] q
    by_cases hq : q = j
    · subst hq
      rw [up_s]
      constructor
      · intro e; exact absurd rfl (key x q e).2
      · intro e; cases e
    · rw [up_n hq, ← i1 x q]
      constructor
      · intro e; exact (key x q e).1
      · intro e
        rw [if_neg (by rw [e]; intro e2; cases e2; exact hq rfl)]
        exact e
  · show (va_up (hc A) j [] q).Nodup
    by_cases hq : q = j
    · subst hq; rw [up_s]; simp
    · rw [up_n hq]; exact i2 q
  · obtain ⟨h1, h2⟩ := key x q hx
    obtain ⟨a, b, c, d⟩ := i3 x q h1
    have hxj : x ≠ j := fun e => by rw [e, hj] at h1; cases h1
    refine ⟨a, b, ?_, ?_⟩
    · show va_up (hs A) j false x = true
      rw [up_n hxj]; exact c
    · show va_up (hs A) j false q = true
      rw [up_n h2]; exact d
  · have hx : (if hp A x = some j then false else hl A x) = true := hx
    show (if hp A x = some j then none else hp A x) ≠ none
    split at hx
    · cases hx
    · rename_i hne
      rw [if_neg hne]
      exact i4 x hx
  · have hx : va_up (hs A) j false x = true := hx
    by_cases hxj : x = j
    · subst hxj; rw [up_s] at hx; cases hx
    · rw [up_n hxj] at hx; exact i6 x hx
theorem Inv.fresh {A : AH} (h : Inv A) {x : Nat} (hx : hn A ≤ x) : hp A x = none ∧ hl A x = false ∧ hc A x = [] ∧ hs A x = false := by
  obtain ⟨i1, i2, i3, i4, -, i6, -⟩ := h
  have h1 : hp A x = none := by
    cases e : hp A x with
    | none => rfl
    | some p => have := (i3 x p e).1; omega
  refine ⟨h1, ?_, ?_, ?_⟩
  · cases e : hl A x with
    | false => rfl
    | true => exact absurd h1 (i4 x e)
  · cases e : hc A x with
    | nil => rfl
    | cons a r =>
      have := (i3 a x ((i1 a x).mpr (by rw [e]; exact List.mem_cons_self))).2.1
      omega
  · cases e : hs A x with
    | false => rfl
    | true => have := i6 x e; omega
theorem inv_add {A : AH} (h : Inv A) {kind key : Int32} (hn' : hn A < 40) (hk' : KeyOk key) (hd' : KindOk kind) : Inv (addj A kind key) := by
  obtain ⟨i1, i2, i3, i4, io, i6, i7, i8⟩ := h
  refine ⟨i1, i2, fun j p hj => ?_, i4, io, fun j hj => ?_, hn', fun j hj => ?_⟩
  · obtain ⟨a, b, c, d⟩ := i3 j p hj
    refine ⟨Nat.lt_succ_of_lt a, Nat.lt_succ_of_lt b, ?_, ?_⟩
    · show va_up (hs A) (hn A) true j = true
      rw [up_n (by omega)]; exact c
    · show va_up (hs A) (hn A) true p = true
      rw [up_n (by omega)]; exact d
  · have hj : va_up (hs A) (hn A) true j = true := hj
    show j < hn A + 1
    by_cases e : j = hn A
    · omega
    · rw [up_n e] at hj; have := i6 j hj; omega
  · have hj : j < hn A + 1 := hj
    show KeyOk (va_up (hk A) (hn A) key j) ∧ KindOk (va_up (hd A) (hn A) kind j)
    by_cases e : j = hn A
    · subst e; rw [up_s, up_s]; exact ⟨hk', hd'⟩
    · rw [up_n e, up_n e]; exact i8 j (by omega)
theorem inv_setk {A : AH} (h : Inv A) {j : Nat} {key : Int32} (hk' : KeyOk key) : Inv (setk A j key) := by
  obtain ⟨i1, i2, i3, i4, io, i6, i7, i8⟩ := h
  refine ⟨i1, i2, i3, i4, io, i6, i7, fun x hx => ?_⟩
  show KeyOk (va_up (hk A) j key x) ∧ KindOk (hd A x)
  by_cases e : x = j
  · subst e; rw [up_s]; exact ⟨hk', (i8 x hx).2⟩
  · rw [up_n e]; exact i8 x hx
theorem inv_setl {A : AH} (h : Inv A) {j p : Nat} (hj : hp A j = some p) : Inv (setl A j) := by
  obtain ⟨i1, i2, i3, i4, io, i6, i7, i8⟩ := h
  refine ⟨i1, i2, i3, fun x hx => ?_, io, i6, i7, i8⟩
  have hx : va_up (hl A) j true x = true := hx
  by_cases e : x = j
  · subst e; show hp A x ≠ none; rw [hj]; simp
  · rw [up_n e] at hx; exact i4 x hx
/-! pairs -/
def isP (A : AH) (l : Bool) (j : Nat) : Bool := cond l (hl A j) (hs A j && (hp A j).isNone)
def IsPu (A : AH) (l : Bool) (m i j : Nat) : Prop := i < j ∧ j < m ∧ isP A l i = true ∧ isP A l j = true ∧ rk A i = rk A j ∧ (∀ x, x < j → isP A l x = true → rk A x = rk A j → x = i) ∧ (∀ x y, x < y → y < m → isP A l x = true → isP A l y = true → rk A x = rk A y → rk A j ≤ rk A x)
abbrev IsPair (A : AH) (l : Bool) (i j : Nat) : Prop := IsPu A l (hn A) i j
theorem pair_one {A : AH} {l : Bool} {m i j i' j' : Nat} (h : IsPu A l m i j) (h' : IsPu A l m i' j') : i = i' ∧ j = j' := by
  obtain ⟨a1, a2, a3, a4, a5, a6, a7⟩ := h
  obtain ⟨b1, b2, b3, b4, b5, b6, b7⟩ := h'
  have r1 := a7 i' j' b1 b2 b3 b4 b5
  have r2 := b7 i j a1 a2 a3 a4 a5
  have hr : rk A j = rk A j' := by omega
  have hj : j = j' := by
    rcases Nat.lt_trichotomy j j' with q | q | q
    · have e1 := b6 j q a4 hr
      have e2 := b6 i (by omega) a3 (by omega)
      omega
    · exact q
    · have e1 := a6 j' q b4 hr.symm
      have e2 := a6 i' (by omega) b3 (by omega)
      omega
  subst hj
  exact ⟨b6 i a1 a3 (by omega), rfl⟩
noncomputable def pr (A : AH) (l : Bool) : Option (Nat × Nat) := @dite _ (∃ q : Nat × Nat, IsPair A l q.1 q.2) (Classical.propDecidable _) (fun h => some h.choose) (fun _ => none)
theorem pr_some {A : AH} {l : Bool} {i j : Nat} (h : IsPair A l i j) : pr A l = some (i, j) := by
  have he : ∃ q : Nat × Nat, IsPair A l q.1 q.2 := ⟨(i, j), h⟩
  unfold pr
  rw [dif_pos he]
  have h1 := he.choose_spec
  obtain ⟨e1, e2⟩ := pair_one h1 h
  rw [← e1, ← e2]
theorem pr_none {A : AH} {l : Bool} (h : ∀ i j, ¬ IsPair A l i j) : pr A l = none := by
  unfold pr
  rw [dif_neg (fun he => h _ _ he.choose_spec)]
theorem pr_is {A : AH} {l : Bool} {i j : Nat} (h : pr A l = some (i, j)) : IsPair A l i j := by
  unfold pr at h
  split at h
  · rename_i he
    have := he.choose_spec
    rw [Option.some.inj h] at this
    exact this
  · cases h
noncomputable def sett : Nat → AH → AH
  | 0, A => A
  | f + 1, A => match pr A true with
    | none => A
    | some q => sett f (link (cutj (cutj A q.1) q.2) q.1 q.2)
noncomputable def joi : Nat → AH → AH
  | 0, A => A
  | f + 1, A => match pr A false with
    | none => A
    | some q => joi f (link A q.1 q.2)
def nl (A : AH) : Nat := (List.range (hn A)).countP (hl A)
def nr (A : AH) : Nat := (List.range (hn A)).countP (isP A false)
theorem loose_st {A : AH} (h : Inv A) {j : Nat} (hj : hl A j = true) : ∃ p, hp A j = some p ∧ j < hn A ∧ p < hn A ∧ hs A j = true := by
  cases e : hp A j with
  | none => exact absurd e (h.2.2.2.1 j hj)
  | some p => obtain ⟨a, b, c, -⟩ := h.2.2.1 j p e; exact ⟨p, rfl, a, b, c⟩
theorem link_n {A : AH} {a b : Nat} : hn (link A a b) = hn A ∧ hd (link A a b) = hd A ∧ hk (link A a b) = hk A ∧ hs (link A a b) = hs A ∧ hl (link A a b) = hl A ∧ lk (link A a b) = lk A + 1 ∧ ct (link A a b) = ct A := by
  rcases snb_or (A := A) (a := a) (b := b) with e | e <;> rw [e] <;> exact ⟨rfl, rfl, rfl, rfl, rfl, rfl, rfl⟩
theorem cut_n {A : AH} {j : Nat} : hn (cutj A j) = hn A ∧ hd (cutj A j) = hd A ∧ hk (cutj A j) = hk A ∧ hs (cutj A j) = hs A ∧ lk (cutj A j) = lk A := by
  unfold cutj
  split <;> exact ⟨rfl, rfl, rfl, rfl, rfl⟩
theorem cut_p {A : AH} (h : Inv A) {j x : Nat} : hp (cutj A j) x = (if x = j then none else hp A x) ∧ hl (cutj A j) x = (if x = j then false else hl A x) := by
  unfold cutj
  split
  · rename_i e
    refine ⟨?_, ?_⟩
    · split
      · rename_i ex; rw [ex]; exact e
      · rfl
    · split
      · rename_i ex
        rw [ex]
        cases e2 : hl A j with
        | false => rfl
        | true => exact absurd e (h.2.2.2.1 j e2)
      · rfl
  · exact ⟨rfl, rfl⟩
/-- one turn of SETTLED -/
theorem sett_step {A : AH} (h : Inv A) {i j : Nat} (hp' : IsPair A true i j) : Inv (link (cutj (cutj A i) j) i j) ∧ nl (link (cutj (cutj A i) j) i j) < nl A ∧ hp (cutj (cutj A i) j) i = none ∧ hp (cutj (cutj A i) j) j = none ∧ hs (cutj (cutj A i) j) i = true ∧ hs (cutj (cutj A i) j) j = true := by
  obtain ⟨a1, a2, a3, a4, -⟩ := hp'
  have a3 : hl A i = true := a3
  have a4 : hl A j = true := a4
  have h1 := inv_cut h i
  have h2 := inv_cut h1 j
  have e1 : hp (cutj (cutj A i) j) i = none := by rw [(cut_p h1).1, if_neg (by omega), (cut_p h).1, if_pos rfl]
  have e2 : hp (cutj (cutj A i) j) j = none := by rw [(cut_p h1).1, if_pos rfl]
  have e3 : hs (cutj (cutj A i) j) = hs A := by rw [cut_n.2.2.2.1, cut_n.2.2.2.1]
  have s1 : hs A i = true := by obtain ⟨p, -, -, -, q⟩ := loose_st h a3; exact q
  have s2 : hs A j = true := by obtain ⟨p, -, -, -, q⟩ := loose_st h a4; exact q
  refine ⟨inv_link h2 (by omega) e1 e2 (by rw [e3]; exact s1) (by rw [e3]; exact s2), ?_, e1, e2, by rw [e3]; exact s1, by rw [e3]; exact s2⟩
  unfold nl
  rw [link_n.1, link_n.2.2.2.2.1, cut_n.1, cut_n.1]
  have key : ∀ x, hl (cutj (cutj A i) j) x = (if x = j then false else if x = i then false else hl A x) := fun x => by rw [(cut_p h1).2, (cut_p h).2]
  refine cnt_lt (hn A) i (by omega) a3 (by rw [key, if_neg (by omega), if_pos rfl]) (fun y hy => ?_)
  rw [key] at hy
  split at hy
  · cases hy
  · split at hy
    · cases hy
    · exact hy
theorem lnk_root {A : AH} {u d x : Nat} : isP (lnk A u d) false x = (if x = d then false else isP A false x) := by
  show (hs A x && (va_up (hp A) d (some u) x).isNone) = _
  by_cases e : x = d
  · subst e; rw [up_s, if_pos rfl]; simp
  · rw [up_n e, if_neg e]; rfl
theorem joi_step {A : AH} (h : Inv A) {i j : Nat} (hp' : IsPair A false i j) : Inv (link A i j) ∧ nr (link A i j) < nr A ∧ hp A i = none ∧ hp A j = none ∧ hs A i = true ∧ hs A j = true := by
  obtain ⟨a1, a2, a3, a4, -⟩ := hp'
  have b3 : hs A i = true ∧ hp A i = none := by
    have : (hs A i && (hp A i).isNone) = true := a3
    simpa using this
  have b4 : hs A j = true ∧ hp A j = none := by
    have : (hs A j && (hp A j).isNone) = true := a4
    simpa using this
  refine ⟨inv_link h (by omega) b3.2 b4.2 b3.1 b4.1, ?_, b3.2, b4.2, b3.1, b4.1⟩
  unfold nr
  rw [link_n.1]
  rcases snb_or (A := A) (a := i) (b := j) with e | e <;> rw [e]
  · refine cnt_lt (hn A) j a2 a4 (by rw [lnk_root, if_pos rfl]) (fun y hy => ?_)
    rw [lnk_root] at hy
    split at hy
    · cases hy
    · exact hy
  · refine cnt_lt (hn A) i (by omega) a3 (by rw [lnk_root, if_pos rfl]) (fun y hy => ?_)
    rw [lnk_root] at hy
    split at hy
    · cases hy
    · exact hy
theorem sett_inv : ∀ (f : Nat) {A : AH}, Inv A → Inv (sett f A) ∧ hn (sett f A) = hn A ∧ hd (sett f A) = hd A ∧ hk (sett f A) = hk A ∧ hs (sett f A) = hs A ∧ lk (sett f A) ≤ lk A + f
  | 0, A, h => ⟨h, rfl, rfl, rfl, rfl, Nat.le_refl _⟩
  | f + 1, A, h => by
    unfold sett
    split
    · exact ⟨h, rfl, rfl, rfl, rfl, by omega⟩
    · rename_i q hq
      obtain ⟨i, j⟩ := q
      obtain ⟨h1, -⟩ := sett_step h (pr_is hq)
      obtain ⟨g1, g2, g3, g4, g5, g6⟩ := sett_inv f h1
      refine ⟨g1, ?_, ?_, ?_, ?_, ?_⟩
      · rw [g2, link_n.1, cut_n.1, cut_n.1]
      · rw [g3, link_n.2.1, cut_n.2.1, cut_n.2.1]
      · rw [g4, link_n.2.2.1, cut_n.2.2.1, cut_n.2.2.1]
      · rw [g5, link_n.2.2.2.1, cut_n.2.2.2.1, cut_n.2.2.2.1]
      · rw [link_n.2.2.2.2.2.1, cut_n.2.2.2.2, cut_n.2.2.2.2] at g6
        show lk (sett f (link (cutj (cutj A i) j) i j)) ≤ lk A + (f + 1)
        omega
theorem joi_inv : ∀ (f : Nat) {A : AH}, Inv A → Inv (joi f A) ∧ hn (joi f A) = hn A ∧ hd (joi f A) = hd A ∧ hk (joi f A) = hk A ∧ hs (joi f A) = hs A ∧ hl (joi f A) = hl A ∧ lk (joi f A) ≤ lk A + f ∧ lk A ≤ lk (joi f A)
  | 0, A, h => ⟨h, rfl, rfl, rfl, rfl, rfl, Nat.le_refl _, Nat.le_refl _⟩
  | f + 1, A, h => by
    unfold joi
    split
    · exact ⟨h, rfl, rfl, rfl, rfl, rfl, by omega, by omega⟩
    · rename_i q hq
      obtain ⟨i, j⟩ := q
      obtain ⟨h1, -⟩ := joi_step h (pr_is hq)
      obtain ⟨g1, g2, g3, g4, g5, g6, g7, g8⟩ := joi_inv f h1
      refine ⟨g1, ?_, ?_, ?_, ?_, ?_, ?_, ?_⟩
      · rw [g2, link_n.1]
      · rw [g3, link_n.2.1]
      · rw [g4, link_n.2.2.1]
      · rw [g5, link_n.2.2.2.1]
      · rw [g6, link_n.2.2.2.2.1]
      · rw [link_n.2.2.2.2.2.1] at g7
        show lk (joi f (link A i j)) ≤ lk A + (f + 1)
        omega
      · rw [link_n.2.2.2.2.2.1] at g8
        show lk A ≤ lk (joi f (link A i j))
        omega

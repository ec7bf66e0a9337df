section CORE
variable {C : Nat → CP} {d t : Nat} {A : AH} {M : AM} {Q : RP}
/-- only the row of firsts and the pair have changed -/
def FP (t : Nat) (M M' : AM) : Prop := (∀ a u i, ¬ (a = 10 ∧ u = t) → ¬ (a = 1 ∧ u = t ∧ (i = 13 ∨ i = 14)) → M'.1 a u i = M.1 a u i) ∧ M'.2 = M.2
theorem FP.H {M' : AM} (h : FP t M M') : FH t M M' := ⟨fun a u i q => h.1 a u i (by omega) (by omega), h.2⟩
theorem FP.R {M' : AM} (h : FP t M M') (hR : CR t A M) : CR t A M' := hR.fr (fun i h1 h2 => h.1 1 t i (by omega) (by omega)) (fun a i h1 h2 => h.1 a t i (by omega) (by omega))
theorem FP.um10 {M' : AM} (h : FP t M M') {i : Nat} {v : Int32} : FP t M (um M' 10 t i v) := ⟨fun a u k h1 h2 => by
  rw [um_at, if_neg (fun e => h1 ⟨e.1, e.2.1⟩)]; exact h.1 a u k h1 h2, h.2⟩
theorem FP.um1 {M' : AM} (h : FP t M M') {i : Nat} {v : Int32} (hi : i = 13 ∨ i = 14) : FP t M (um M' 1 t i v) := ⟨fun a u k h1 h2 => by
  rw [um_at, if_neg (fun e => h2 ⟨e.1, e.2.1, by omega⟩)]; exact h.1 a u k h1 h2, h.2⟩
/-- what findPair knows when the jobs below j are looked at -/
def FI (t : Nat) (A : AH) (l : Bool) (j L : Nat) (M1 : AM) : Prop :=
  (∀ r, r < rm t → (M1.1 10 t r = -1 ∧ ∀ x, x < j → isP A l x = true → rk A x ≠ r) ∨ (∃ x0, x0 < j ∧ M1.1 10 t r = nI x0 ∧ isP A l x0 = true ∧ rk A x0 = r ∧ ∀ x, x < x0 → isP A l x = true → rk A x ≠ r)) ∧
  ((L = rm t ∧ ∀ x y, x < y → y < j → isP A l x = true → isP A l y = true → rk A x ≠ rk A y) ∨ (L < rm t ∧ ∃ a b, M1.1 1 t 13 = nI a ∧ M1.1 1 t 14 = nI b ∧ IsPu A l j a b ∧ rk A b = L))
theorem FI.skip {l : Bool} {j L : Nat} {M1 : AM} (h : FI t A l j L M1) (hj : isP A l j = false) : FI t A l (j + 1) L M1 := by
  obtain ⟨h1, h2⟩ := h
  have ne : ∀ x, x < j + 1 → isP A l x = true → x < j := fun x hx hp => by
    by_cases e : x = j
    · rw [e, hj] at hp; cases hp
    · omega
  refine ⟨fun r hr => ?_, ?_⟩
  · rcases h1 r hr with ⟨a1, a2⟩ | ⟨x0, b1, b2, b3, b4, b5⟩
    · exact Or.inl ⟨a1, fun x hx hp => a2 x (ne x hx hp) hp⟩
    · exact Or.inr ⟨x0, by omega, b2, b3, b4, b5⟩
  · rcases h2 with ⟨a1, a2⟩ | ⟨a1, a, b, b1, b2, ⟨c1, c2, c3, c4, c5, c6, c7⟩, b4⟩
    · exact Or.inl ⟨a1, fun x y hxy hy px py => a2 x y hxy (ne y hy py) px py⟩
    · exact Or.inr ⟨a1, a, b, b1, b2, ⟨c1, by omega, c3, c4, c5, c6, fun x y hxy hy px py => c7 x y hxy (ne y hy py) px py⟩, b4⟩
theorem FI.first {l : Bool} {j L : Nat} {M1 : AM} (h : FI t A l j L M1) (hj : isP A l j = true) (hr : rk A j < rm t) (h0 : M1.1 10 t (rk A j) = -1) (hjb : j < 40) : FI t A l (j + 1) L (um M1 10 t (rk A j) (nI j)) := by
  obtain ⟨h1, h2⟩ := h
  have nox : ∀ x, x < j → isP A l x = true → rk A x ≠ rk A j := by
    rcases h1 _ hr with ⟨-, a2⟩ | ⟨x0, b1, b2, -⟩
    · exact a2
    · rw [h0] at b2
      exact absurd b2.symm (nI_m1 (by omega))
  refine ⟨fun r hr' => ?_, ?_⟩
  · rw [um_at]
    by_cases e : r = rk A j
    · subst e
      rw [if_pos ⟨rfl, rfl, rfl⟩]
      exact Or.inr ⟨j, by omega, rfl, hj, rfl, nox⟩
    · rw [if_neg (fun q => e q.2.2)]
      rcases h1 r hr' with ⟨a1, a2⟩ | ⟨x0, b1, b2, b3, b4, b5⟩
      · refine Or.inl ⟨a1, fun x hx hp hrk => ?_⟩
        by_cases ex : x = j
        · rw [ex] at hrk; exact e hrk.symm
        · exact a2 x (by omega) hp hrk
      · exact Or.inr ⟨x0, by omega, b2, b3, b4, b5⟩
  · rcases h2 with ⟨a1, a2⟩ | ⟨a1, a, b, b1, b2, ⟨c1, c2, c3, c4, c5, c6, c7⟩, b4⟩
    · refine Or.inl ⟨a1, fun x y hxy hy px py hrk => ?_⟩
      by_cases ey : y = j
      · subst ey; exact nox x hxy px hrk
      · exact a2 x y hxy (by omega) px py hrk
    · refine Or.inr ⟨a1, a, b, by rw [um_at, if_neg (by omega)]; exact b1, by rw [um_at, if_neg (by omega)]; exact b2, ⟨c1, by omega, c3, c4, c5, c6, fun x y hxy hy px py hrk => ?_⟩, b4⟩
      by_cases ey : y = j
      · subst ey; exact absurd hrk (nox x hxy px)
      · exact c7 x y hxy (by omega) px py hrk
theorem FI.keep {l : Bool} {j L : Nat} {M1 : AM} (h : FI t A l j L M1) (hj : isP A l j = true) (hr : rk A j < rm t) (h0 : M1.1 10 t (rk A j) ≠ -1) (hL : L ≤ rk A j) : FI t A l (j + 1) L M1 := by
  obtain ⟨h1, h2⟩ := h
  refine ⟨fun r hr' => ?_, ?_⟩
  · rcases h1 r hr' with ⟨a1, a2⟩ | ⟨x0, b1, b2, b3, b4, b5⟩
    · refine Or.inl ⟨a1, fun x hx hp hrk => ?_⟩
      by_cases ex : x = j
      · rw [ex] at hrk; rw [hrk] at h0; exact h0 a1
      · exact a2 x (by omega) hp hrk
    · exact Or.inr ⟨x0, by omega, b2, b3, b4, b5⟩
  · rcases h2 with ⟨a1, a2⟩ | ⟨a1, a, b, b1, b2, ⟨c1, c2, c3, c4, c5, c6, c7⟩, b4⟩
    · omega
    · refine Or.inr ⟨a1, a, b, b1, b2, ⟨c1, by omega, c3, c4, c5, c6, fun x y hxy hy px py hrk => ?_⟩, b4⟩
      by_cases ey : y = j
      · subst ey; omega
      · exact c7 x y hxy (by omega) px py hrk
theorem FI.pair {l : Bool} {j L : Nat} {M1 : AM} (h : FI t A l j L M1) (hj : isP A l j = true) (hr : rk A j < rm t) {x0 : Nat} (h0 : M1.1 10 t (rk A j) = nI x0) (hx0 : x0 < 40) (hL : rk A j < L) (hjb : j < 40) : FI t A l (j + 1) (rk A j) (um (um M1 1 t 13 (nI x0)) 1 t 14 (nI j)) := by
  have hlow := h.2
  obtain ⟨h1, -⟩ := h
  have e10 : ∀ r, (um (um M1 1 t 13 (nI x0)) 1 t 14 (nI j)).1 10 t r = M1.1 10 t r := fun r => by rw [um_at, if_neg (by omega), um_at, if_neg (by omega)]
  rcases h1 _ hr with ⟨a1, -⟩ | ⟨x1, b1, b2, b3, b4, b5⟩
  · rw [a1] at h0
    exact absurd h0.symm (nI_m1 (by omega))
  · rw [h0] at b2
    have ex : x0 = x1 := nI_inj (by omega) (by omega) b2
    subst ex
    have one : ∀ x, x < j → isP A l x = true → rk A x = rk A j → x = x0 := by
      intro x hx px hrk
      rcases Nat.lt_trichotomy x x0 with q | q | q
      · exact absurd hrk (b5 x q px)
      · exact q
      · exfalso
        rcases hlow with ⟨-, a2⟩ | ⟨-, a, b, -, -, ⟨c1, c2, c3, c4, c5, c6, c7⟩, c8⟩
        · exact a2 x0 x q hx b3 px (by rw [b4, hrk])
        · have := c7 x0 x q hx b3 px (by rw [b4, hrk])
          omega
    refine ⟨fun r hr' => ?_, Or.inr ⟨hr, x0, j, by rw [um_at, if_neg (by omega), um_at, if_pos ⟨rfl, rfl, rfl⟩], by rw [um_at, if_pos ⟨rfl, rfl, rfl⟩], ⟨b1, by omega, b3, hj, b4, one, fun x y hxy hy px py hrk => ?_⟩, rfl⟩⟩
    · rw [e10]
      rcases h1 r hr' with ⟨a1, a2⟩ | ⟨z0, c1, c2, c3, c4, c5⟩
      · refine Or.inl ⟨a1, fun x hx hp hrk => ?_⟩
        by_cases ex : x = j
        · rw [ex] at hrk; rw [← hrk, h0] at a1; exact nI_m1 (by omega) a1
        · exact a2 x (by omega) hp hrk
      · exact Or.inr ⟨z0, by omega, c2, c3, c4, c5⟩
    · by_cases ey : y = j
      · subst ey; omega
      · rcases hlow with ⟨-, a2⟩ | ⟨-, a, b, -, -, ⟨c1, c2, c3, c4, c5, c6, c7⟩, c8⟩
        · exact absurd hrk (a2 x y hxy (by omega) px py)
        · have := c7 x y hxy (by omega) px py hrk
          omega
set_option maxRecDepth 20000 in
theorem c_findPair (hC : ClA C) (hR : CR t A M) (hI : Inv A) (l : Bool) (hT : ∀ i j M', IsPair A l i j → FP t M M' → M'.1 1 t 13 = nI i → M'.1 1 t 14 = nI j → Q (some (vi 1)) M') (hF : ∀ M', (∀ i j, ¬ IsPair A l i j) → FP t M M' → Q (some (vi 0)) M') : C (d + 2) n_X2_findPair [vr 1 t, vi (b2 l)] M Q := by
  have hrm := rm_le t
  refine hC.X2_findPair (d + 1) _ M Q (fun P go => ?_)
  have loop : ∀ k j L (M1 : AM), j + k = hn A → L ≤ rm t → FP t M M1 → FI t A l j L M1 → P 15 [some (vr 1 t), some (vi (b2 l)), some (vi (nI L)), some (vi (nI j))] [] M1 := by
    intro k
    induction k with
    | zero =>
      intro j L M1 hj hL hf hi
      have ej : j = hn A := by omega
      subst ej
      have hR1 := hf.R hR
      have e10 : M1.1 1 t 10 = nI (hn A) := hR1.2.2.1
      have e0 : M1.1 1 t 0 = nI (rm t) := hR1.1
      have hb := hR.2.1
      refine go [] 50 _ _ _ _ ⟨fun _ => ⟨fun c => ⟨rfl, ?_⟩, fun c => ⟨rfl, ?_⟩⟩, fun c => absurd (by rw [e10]; exact nI_le (Nat.le_refl _) (by omega)) c⟩
      · rw [e0] at c
        have c' : rm t ≤ L := (nI_leI (by omega) (by omega)).mp c
        refine hF M1 (fun i j hp => ?_) hf
        rcases hi.2 with ⟨-, a2⟩ | ⟨a1, -⟩
        · obtain ⟨p1, p2, p3, p4, p5, -⟩ := hp
          exact a2 i j p1 p2 p3 p4 p5
        · omega
      · rw [e0] at c
        have c' : ¬ rm t ≤ L := fun q => c (nI_le q (by omega))
        rcases hi.2 with ⟨a1, -⟩ | ⟨-, a, b, b1, b2, b3, -⟩
        · omega
        · exact hT a b M1 b3 hf b1 b2
    | succ k ih =>
      intro j L M1 hj hL hf hi
      have hjn : j < hn A := by omega
      have hR1 := hf.R hR
      have hb := hR.n hjn
      have e10 : M1.1 1 t 10 = nI (hn A) := hR1.2.2.1
      have ij := inR hb.1
      have cj := cl40 hb.2
      obtain ⟨-, -, -, k5, -, k9, -⟩ := hR1.2.2.2.2.2 j hjn
      have e9 : M1.1 9 t (nI j).toNatClampNeg = b2 (hl A j) := by rw [cj]; exact k9
      have e5 : M1.1 5 t (nI j).toNatClampNeg = nI (rk A j) := by rw [cj]; exact k5
      have hrk := hI.rk_lt hjn
      have hrr : rk A j < rm t := by have := hR.2.1; omega
      have next : ∀ L' (M2 : AM), L' ≤ rm t → FP t M M2 → FI t A l (j + 1) L' M2 → P 15 [some (vr 1 t), some (vi (b2 l)), some (vi (nI L')), some (vi (nI j + 1))] [] M2 := by
        intro L' M2 h1 h2 h3
        have := ih (j + 1) L' M2 (by omega) h1 h2 h3
        rw [← nI_1] at this
        exact this
      have body : isP A l j = true → P 47 [some (vr 1 t), some (vi (b2 l)), some (vi (nI L)), some (vi (nI j))] [] M1 := by
        intro hpj
        refine go [(15, 4)] 99 _ _ _ _ ⟨ij, ?_⟩
        rw [e5]
        have ir : vp_in (nI (rk A j)) (aln 10 t) := inR hrr
        have cr : (nI (rk A j)).toNatClampNeg = rk A j := nI_clamp (by omega)
        refine ⟨ir, fun c => ⟨fun c2 => ?_, fun c2 => ⟨ir, ?_⟩⟩, fun c => ⟨ir, ?_⟩⟩
        · rw [cr] at c
          have c2' : L ≤ rk A j := (nI_leI (by omega) (by omega)).mp c2
          exact next L M1 hL hf (hi.keep hpj hrr c c2')
        · rw [cr] at c ⊢
          have c2' : rk A j < L := by
            rcases Nat.lt_or_ge (rk A j) L with q | q
            · exact q
            · exact absurd (nI_le q (by omega)) c2
          rcases hi.1 _ hrr with ⟨a1, -⟩ | ⟨x0, b1, b2, -⟩
          · exact absurd a1 c
          · rw [b2]
            exact next (rk A j) _ (by omega) ((hf.um1 (Or.inl rfl)).um1 (Or.inr rfl)) (hi.pair hpj hrr b2 (by omega) c2' hb.2)
        · rw [cr] at c ⊢
          exact next L _ hL hf.um10 (hi.first hpj hrr c hb.2)
      refine go [(47, 4), (15, 4)] 99 _ _ _ _ ⟨fun c => absurd (by rw [e10] at c; exact c) (nI_ge hjn (by have := hR.2.1; omega)), fun _ => ⟨fun c => ?_, fun c => ⟨ij, fun c2 => ?_, fun c2 => ?_⟩⟩⟩
      · have el := b2_0 c
        refine c_isRoot hC hR1 hI hjn ?_
        refine ⟨fun c2 => ?_, fun c2 => ?_⟩
        · exact next L M1 hL hf (hi.skip (by rw [el]; exact b2_0 c2))
        · exact body (by rw [el]; exact b2_n0 c2)
      · rw [e9] at c2
        have el := b2_n0 c
        exact next L M1 hL hf (hi.skip (by rw [el]; exact b2_0 c2))
      · rw [e9] at c2
        have el := b2_n0 c
        exact body (by rw [el]; exact b2_n0 c2)
  refine go [(15, 4)] 99 _ _ _ _ ?_
  refine c_fill10 hC (fun M1 hfil => ?_)
  have hf : FP t M M1 := ⟨fun a u i h1 h2 => by rw [hfil.1, if_neg (fun e => h1 ⟨e.1, e.2.1⟩)], hfil.2⟩
  have e0 : M1.1 1 t 0 = nI (rm t) := (hf.R hR).1
  have := loop (hn A) 0 (rm t) M1 (by omega) (Nat.le_refl _) hf ⟨fun r hr => Or.inl ⟨by rw [hfil.1, if_pos ⟨rfl, rfl, hr⟩], fun x hx => absurd hx (Nat.not_lt_zero x)⟩, Or.inl ⟨rfl, fun x y hxy hy => absurd hy (Nat.not_lt_zero y)⟩⟩
  rw [← e0] at this
  exact this
end CORE

/-! THE WORLD OF BOTH SIDES -/
abbrev NT : Type := Nat × Nat × (Nat → Nat) × (Nat → Nat) × (Nat → Int32)
abbrev IM : Type := Bool × AH × (Nat → Int32)
abbrev WS : Type := AH × (Nat → Int32) × NT × (Nat → IM)
def wA (W : WS) (A : AH) : WS := (A, W.2)
def NC (T : NT) (M : AM) : Prop := M.1 13 0 5 = nI T.1 ∧ M.1 13 0 6 = nI T.2.1 ∧ ∀ i, i < T.2.1 → M.1 14 0 i = nI (T.2.2.1 i) ∧ M.1 15 0 i = nI (T.2.2.2.1 i) ∧ M.1 16 0 i = T.2.2.2.2 i
def IC (i : Nat) (I : IM) (M : AM) : Prop := M.1 20 i 2 = b2 I.1 ∧ M.1 1 (i + 1) 0 = nI (rm (i + 1)) ∧ (I.1 = true → CR (i + 1) I.2.1 M ∧ ∀ j, j < 16 → M.1 12 (i + 1) j = I.2.2 j)
/-- the class's cells -/
def CW (W : WS) (M : AM) : Prop := CR 0 W.1 M ∧ (∀ j, j < 16 → M.1 12 0 j = W.2.1 j) ∧ NC W.2.2.1 M ∧ (∀ i, i < 2 → IC i (W.2.2.2 i) M) ∧ M.1 1 3 0 = nI (rm 3)
def NW (T : NT) (M : AM) : Prop := M.1 21 0 13 = nI T.1 ∧ M.1 21 0 14 = nI T.2.1 ∧ ∀ i, i < T.2.1 → M.1 29 0 i = nI (T.2.2.1 i) ∧ M.1 30 0 i = nI (T.2.2.2.1 i) ∧ M.1 31 0 i = T.2.2.2.2 i
def IW (i : Nat) (I : IM) (M : AM) : Prop := M.1 34 0 i = b2 I.1 ∧ (I.1 = true → M.1 33 0 (260 * i) = nI (hn I.2.1) ∧ M.1 33 0 (260 * i + 1) = nI (lk I.2.1) ∧ M.1 33 0 (260 * i + 2) = nI (ct I.2.1) ∧ M.1 33 0 (260 * i + 3) = nI (lk I.2.1) ∧ JR 0 (fun k j => M.1 33 0 (260 * i + 4 + 6 * j + k)) I.2.1 (lk I.2.1) ∧ ∀ j, j < 16 → M.1 33 0 (260 * i + 244 + j) = I.2.2 j)
/-- the reference's cells -/
def MW (W : WS) (M : AM) : Prop := MD 0 0 0 W.1 M ∧ M.1 21 0 0 = nI (hn W.1) ∧ (∀ j, j < 16 → M.1 28 0 j = W.2.1 j) ∧ NW W.2.2.1 M ∧ ∀ i, i < 2 → IW i (W.2.2.2 i) M
/-- what holds of the world itself, after k calls -/
def NI (T : NT) : Prop := T.1 ≤ 8 ∧ T.2.1 ≤ 14 ∧ ∀ i, i < T.2.1 → T.2.2.1 i < T.1 ∧ T.2.2.2.1 i < T.1 ∧ T.2.2.1 i ≠ T.2.2.2.1 i ∧ 0 ≤ (T.2.2.2.2 i).toInt ∧ (T.2.2.2.2 i).toInt ≤ 9999
def WI (k : Nat) (W : WS) : Prop := Inv W.1 ∧ lk W.1 ≤ 4000 * k ∧ NI W.2.2.1 ∧ ∀ i, i < 2 → (W.2.2.2 i).1 = true → Inv (W.2.2.2 i).2.1 ∧ lk (W.2.2.2 i).2.1 ≤ 4000 * k
def FC (M M' : AM) : Prop := ∀ a u i, 21 ≤ a → M'.1 a u i = M.1 a u i
def FN (M M' : AM) : Prop := ∀ a u i, a < 21 → M'.1 a u i = M.1 a u i
/-- a change of heap t alone, as the class's world sees it -/
theorem CW_heap {W : WS} {M M' : AM} {A' : AH} (h : CW W M) (hR : CR 0 A' M') (hF : FH 0 M M') : CW (wA W A') M' ∧ FC M M' := by
  obtain ⟨c1, c2, ⟨n1, n2, n3⟩, c4, c5⟩ := h
  have e : ∀ a u i, (a = 0 ∨ 10 < a ∨ u ≠ 0) → M'.1 a u i = M.1 a u i := hF.1
  refine ⟨⟨hR, fun j hj => by rw [e 12 0 j (by omega)]; exact c2 j hj, ⟨by rw [e 13 0 5 (by omega)]; exact n1, by rw [e 13 0 6 (by omega)]; exact n2, fun i hi => by rw [e 14 0 i (by omega), e 15 0 i (by omega), e 16 0 i (by omega)]; exact n3 i hi⟩, fun i hi => ?_, by rw [e 1 3 0 (by omega)]; exact c5⟩, fun a u i ha => e a u i (by omega)⟩
  obtain ⟨i1, i2, i3⟩ := c4 i hi
  refine ⟨by rw [e 20 i 2 (by omega)]; exact i1, by rw [e 1 (i + 1) 0 (by omega)]; exact i2, fun hk' => ?_⟩
  obtain ⟨g1, g2⟩ := i3 hk'
  exact ⟨g1.oth hF (by omega), fun j hj => by rw [e 12 (i + 1) j (by omega)]; exact g2 j hj⟩
theorem CW_same {W : WS} {M : AM} (h : CW W M) : CW W M ∧ FC M M := ⟨h, fun _ _ _ _ => rfl⟩
/-- what the reference's heap calls may change -/
def FX (M M' : AM) : Prop := ∀ a u i, ¬ (a = 21 ∧ u = 0 ∧ (i = 0 ∨ i = 7 ∨ i = 8 ∨ i = 9 ∨ i = 10 ∨ i = 11)) → ¬ (22 ≤ a ∧ a ≤ 27) → M'.1 a u i = M.1 a u i
theorem FX.rf {M : AM} : FX M M := fun _ _ _ _ _ => rfl
theorem FX.tr {M M1 M2 : AM} (h : FX M M1) (h' : FX M1 M2) : FX M M2 := fun a u i q1 q2 => (h' a u i q1 q2).trans (h a u i q1 q2)
theorem FM.X {b n : Nat} {M M' : AM} (h : FM b n M M') : FX M M' := fun a u i q1 q2 => h.1 a u i (by omega) (by omega)
theorem FX.u0 {M M1 : AM} (h : FX M M1) {i : Nat} {v : Int32} (hi : i = 0 ∨ i = 7 ∨ i = 8 ∨ i = 9 ∨ i = 10 ∨ i = 11) : FX M (um M1 21 0 i v) := fun a u i' q1 q2 => by
  rw [um_at, if_neg (by omega)]; exact h a u i' q1 q2
theorem FX.u1 {M M1 : AM} (h : FX M M1) {a i : Nat} {v : Int32} (h1 : 22 ≤ a) (h2 : a ≤ 27) : FX M (um M1 a 0 i v) := fun a' u i' q1 q2 => by
  rw [um_at, if_neg (by omega)]; exact h a' u i' q1 q2
theorem MW_heap {W : WS} {M M' : AM} {A' : AH} (h : MW W M) (hD : MD 0 0 0 A' M') (hn' : M'.1 21 0 0 = nI (hn A')) (hF : FX M M') : MW (wA W A') M' ∧ FN M M' := by
  obtain ⟨c1, c2, c3, ⟨n1, n2, n3⟩, c5⟩ := h
  refine ⟨⟨hD, hn', fun j hj => by rw [hF 28 0 j (by omega) (by omega)]; exact c3 j hj, ⟨by rw [hF 21 0 13 (by omega) (by omega)]; exact n1, by rw [hF 21 0 14 (by omega) (by omega)]; exact n2, fun i hi => by rw [hF 29 0 i (by omega) (by omega), hF 30 0 i (by omega) (by omega), hF 31 0 i (by omega) (by omega)]; exact n3 i hi⟩, fun i hi => ?_⟩, fun a u i ha => hF a u i (by omega) (by omega)⟩
  obtain ⟨i1, i2⟩ := c5 i hi
  have e33 : ∀ x, M'.1 33 0 x = M.1 33 0 x := fun x => hF 33 0 x (by omega) (by omega)
  refine ⟨by rw [hF 34 0 i (by omega) (by omega)]; exact i1, fun hk' => ?_⟩
  have := i2 hk'
  simp only [e33]
  exact this
theorem wA_id (W : WS) : wA W W.1 = W := rfl
theorem MW_same {W : WS} {M M' : AM} (h : MW W M) (hD : MD 0 0 0 W.1 M') (hn' : M'.1 21 0 0 = nI (hn W.1)) (hF : FX M M') : MW W M' ∧ FN M M' := by
  have := MW_heap h hD hn' hF
  rwa [wA_id] at this
section OWN
variable {C : Nat → CP} {d : Nat} {A : AH} {M : AM} {Q : RP}
set_option maxRecDepth 20000 in
theorem m_in (hC : ClA C) {x lo hi : Int32} (h : Q (some (vi (b2 (btw x lo hi)))) M) : C (d + 1) n_X7_in [vi x, vi lo, vi hi] M Q := by
  refine hC.X7_in d _ M Q (fun P go => ?_)
  unfold btw at h
  refine go [] 99 _ _ _ _ ⟨fun c => ?_, fun c => ⟨fun c2 => ?_, fun c2 => ?_⟩⟩
  · rw [decide_eq_false (nle_lt c), Bool.false_and] at h
    exact ⟨rfl, h⟩
  · rw [decide_eq_false (nle_lt c2), Bool.and_false] at h
    exact ⟨rfl, h⟩
  · rw [decide_eq_true (le_toInt c), decide_eq_true (le_toInt c2)] at h
    exact ⟨rfl, h⟩
theorem MD_um {M' : AM} {b l0 c0 : Nat} (h : MD b l0 c0 A M) (h0 : ∀ i, i = 7 ∨ i = 8 ∨ i = 9 → M'.1 21 0 i = M.1 21 0 i) (h1 : ∀ a i, 22 ≤ a → a ≤ 27 → M'.1 a 0 i = M.1 a 0 i) : MD b l0 c0 A M' := by
  obtain ⟨c3, c4, c5, c6, c7⟩ := h
  refine ⟨by rw [h0 7 (by omega)]; exact c3, by rw [h0 8 (by omega)]; exact c4, by rw [h0 9 (by omega)]; exact c5, c6, ?_⟩
  obtain ⟨j1, j2, j3⟩ := c7
  refine ⟨fun j hj => ?_, fun p => ?_, fun p x hx => ?_⟩
  · show M'.1 22 0 (b + j) = _ ∧ M'.1 23 0 (b + j) = _ ∧ M'.1 24 0 (b + j) = _ ∧ M'.1 25 0 (b + j) = _ ∧ M'.1 26 0 (b + j) = _
    rw [h1 22 _ (by omega) (by omega), h1 23 _ (by omega) (by omega), h1 24 _ (by omega) (by omega), h1 25 _ (by omega) (by omega), h1 26 _ (by omega) (by omega)]
    exact j1 j hj
  · have := j2 p
    have e : ∀ x, M'.1 (22 + 5) 0 (b + x) = M.1 (22 + 5) 0 (b + x) := fun x => h1 27 _ (by omega) (by omega)
    simp only [e]
    exact this
  · have := j3 p x hx
    have e : ∀ x, M'.1 (22 + 5) 0 (b + x) = M.1 (22 + 5) 0 (b + x) := fun x => h1 27 _ (by omega) (by omega)
    simp only [e]
    exact this
/-- the state of the main part: data, number of jobs, looked at -/
def MM (A : AH) (M : AM) : Prop := MR 0 0 0 A M ∧ M.1 21 0 0 = nI (hn A)
set_option maxRecDepth 20000 in
theorem m_own (hC : ClA C) (hD : MD 0 0 0 A M) (hn' : M.1 21 0 0 = nI (hn A)) (h : ∀ M', MM A M' → FX M M' → M'.2 = M.2 → Q none M') : C (d + 1) n_X7_own [vr 21 0] M Q := by
  refine hC.X7_own d _ M Q (fun P go => ?_)
  refine go [] 99 _ _ _ _ ?_
  refine h _ ⟨⟨by simp [um_at]; rfl, by simp [um_at]; exact hn', MD_um hD (fun i hi => by rcases hi with e | e | e <;> subst e <;> simp [um_at]) (fun a i h1 h2 => by rw [um_at, if_neg (by omega), um_at, if_neg (by omega)])⟩, by simp [um_at]; exact hn'⟩ ((FX.rf.u0 (by omega)).u0 (by omega)) rfl
theorem btw_has {x : Int32} {n : Nat} (hn' : n < 2 ^ 30) : btw x 0 (nI n - 1) = (decide (¬ x < 0) && decide (¬ nI n ≤ x)) := by
  unfold btw
  have e1 := pk_sub_toInt (a := n) (b := 1) hn' (by omega)
  have e3 : nI 1 = 1 := rfl
  rw [e3] at e1
  have e2 := nI_toInt (n := n) (by omega)
  have e0 : (0 : Int32).toInt = 0 := by decide
  congr 1
  · apply decide_eq_decide.mpr
    rw [Int32.le_iff_toInt_le, Int32.lt_iff_toInt_lt]
    omega
  · apply decide_eq_decide.mpr
    rw [Int32.le_iff_toInt_le, Int32.le_iff_toInt_le]
    omega
set_option maxRecDepth 20000 in
theorem m_isJob (hC : ClA C) (hD : MD 0 0 0 A M) (hn' : M.1 21 0 0 = nI (hn A)) {x : Int32} (h : ∀ M', MM A M' → FX M M' → M'.2 = M.2 → Q (some (vi (b2 (hasJ A x)))) M') : C (d + 2) n_X7_isJob [vr 21 0, vi x] M Q := by
  refine hC.X7_isJob (d + 1) _ M Q (fun P go => ?_)
  refine go [] 99 _ _ _ _ ?_
  refine m_own hC hD hn' (fun M' hM hF h2 => ?_)
  have h48 := hM.1.2.2.2.2.2.1
  refine m_in hC ?_
  refine ⟨bz_b2 _, ?_⟩
  have e := btw_has (x := x) (n := hn A) (by omega)
  rw [← hM.2] at e
  rw [e, hM.2]
  exact h M' hM hF h2
end OWN

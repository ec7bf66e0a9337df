section OPS
theorem C_a2 {C : Nat → CP} {d m : Nat} {v : AV} {x x' y y' : Int32} {M : AM} {Q : RP} (h1 : x = x') (h2 : y = y') (k : C d m [v, vi x', vi y'] M Q) : C d m [v, vi x, vi y] M Q := by rw [h1, h2]; exact k
theorem C_a1 {C : Nat → CP} {d m : Nat} {v : AV} {x x' : Int32} {M : AM} {Q : RP} (h1 : x = x') (k : C d m [v, vi x'] M Q) : C d m [v, vi x] M Q := by rw [h1]; exact k
theorem C_arg {C : Nat → CP} {d y : Nat} {As As' : List AV} {M : AM} {Q : RP} (h : As = As') (k : C d y As' M Q) : C d y As M Q := h ▸ k
variable {C : Nat → CP} {d t : Nat} {A : AH} {M : AM} {Q : RP}
/-- what freeing the children and taking leaves in the rows -/
theorem CR_fre (hR : CR t A M) (hI : Inv A) {j : Nat} (hj0 : hp A j = none) {M' : AM} (e1 : ∀ i, M'.1 1 t i = M.1 1 t i) (e2 : ∀ a i, a = 2 ∨ a = 3 ∨ a = 7 → M'.1 a t i = M.1 a t i) (e4 : ∀ i, i < hn A → M'.1 4 t i = if hp A i = some j then -1 else M.1 4 t i) (e9 : ∀ i, i < hn A → M'.1 9 t i = if hp A i = some j then 0 else M.1 9 t i) (e5 : ∀ i, M'.1 5 t i = if i = j then 0 else M.1 5 t i) (e6 : ∀ i, M'.1 6 t i = if i = j then -1 else M.1 6 t i) (e8 : ∀ i, M'.1 8 t i = if i = j then 0 else M.1 8 t i) : CR t (fre A j) M' := by
  obtain ⟨c1, c2, c3, c4, c5, c6⟩ := hR
  refine ⟨by rw [e1]; exact c1, c2, by rw [e1]; exact c3, by rw [e1]; exact c4, by rw [e1]; exact c5, fun x hx => ?_⟩
  have hx : x < hn A := hx
  obtain ⟨k2, k3, k4, k5, k8, k9, k6⟩ := c6 x hx
  have h7 : M'.1 7 t = M.1 7 t := funext fun i => e2 7 i (by omega)
  refine ⟨by rw [e2 2 x (by omega)]; exact k2, by rw [e2 3 x (by omega)]; exact k3, ?_, ?_, ?_, ?_, ?_⟩
  · rw [e4 x hx]
    show _ = en (if hp A x = some j then none else hp A x)
    split
    · rfl
    · exact k4
  · rw [e5]
    show _ = nI (va_up (hc A) j [] x).length
    by_cases e : x = j
    · subst e; rw [if_pos rfl, up_s]; rfl
    · rw [if_neg e, up_n e]; exact k5
  · rw [e8]
    show _ = b2 (va_up (hs A) j false x)
    by_cases e : x = j
    · subst e; rw [if_pos rfl, up_s]; rfl
    · rw [if_neg e, up_n e]; exact k8
  · rw [e9 x hx]
    show _ = b2 (if hp A x = some j then false else hl A x)
    split
    · rfl
    · exact k9
  · show CH (M'.1 7 t) (M'.1 6 t x) (va_up (hc A) j [] x)
    rw [e6, h7]
    by_cases e : x = j
    · subst e; rw [if_pos rfl, up_s]; rfl
    · rw [if_neg e, up_n e]; exact k6
set_option maxRecDepth 20000 in
/-- freeChildren: the rows, but for 'standing' -/
theorem c_freeChildren (hC : ClA C) (hR : CR t A M) (hI : Inv A) {j : Nat} (hj : j < hn A) (h : ∀ M', FH t M M' → (∀ i, M'.1 1 t i = M.1 1 t i) → (∀ a i, a = 2 ∨ a = 3 ∨ a = 7 ∨ a = 8 → M'.1 a t i = M.1 a t i) → (∀ i, i < hn A → M'.1 4 t i = if hp A i = some j then -1 else M.1 4 t i) → (∀ i, i < hn A → M'.1 9 t i = if hp A i = some j then 0 else M.1 9 t i) → (∀ i, M'.1 5 t i = if i = j then 0 else M.1 5 t i) → (∀ i, M'.1 6 t i = if i = j then -1 else M.1 6 t i) → Q none M') : C (d + 2) n_X2_freeChildren [vr 1 t, vi (nI j)] M Q := by
  have hrm := rm_le t
  have hn1 := hR.2.1
  have cj := cl40 (hR.n hj).2
  have ij := inR (hR.n hj).1
  obtain ⟨-, -, -, -, -, -, k6⟩ := hR.2.2.2.2.2 j hj
  have e0 : M.1 1 t 0 = nI (rm t) := hR.1
  have hlen := hI.rk_lt hj
  refine hC.X2_freeChildren (d + 1) _ M Q (fun P go => ?_)
  have loop : ∀ (todo done : List Nat) (at' : Int32) (M1 : AM), hc A j = done ++ todo → CH (M.1 7 t) at' todo → FH t M M1 → (∀ a i, a ≠ 4 → a ≠ 9 → M1.1 a t i = M.1 a t i) → (∀ i, M1.1 4 t i = if i ∈ done then -1 else M.1 4 t i) → (∀ i, M1.1 9 t i = if i ∈ done then 0 else M.1 9 t i) → P 9 [some (vr 1 t), some (vi (nI j)), some (vi at'), some (vi (nI done.length))] [] M1 := by
    intro todo
    induction todo with
    | nil =>
      intro done at' M1 hk hch hf h1 h4 h9
      have hd1 : hc A j = done := by rw [hk, List.append_nil]
      have fin : Q none (um (um M1 6 t (nI j).toNatClampNeg (-1)) 5 t (nI j).toNatClampNeg 0) := by
        rw [cj]
        refine h _ ((hf.um (by omega) (by omega)).um (by omega) (by omega)) (fun i => ?_) (fun a i q => ?_) (fun i hi => ?_) (fun i hi => ?_) (fun i => ?_) (fun i => ?_)
        · simp [um_at]; exact h1 1 i (by decide) (by decide)
        · rcases q with q | q | q | q <;> subst q <;> simp [um_at] <;> exact h1 _ i (by decide) (by decide)
        · have : (i ∈ done) = (hp A i = some j) := by rw [← hd1]; exact propext (hI.1 i j).symm
          simp [um_at]
          rw [h4]
          simp only [this]
        · have : (i ∈ done) = (hp A i = some j) := by rw [← hd1]; exact propext (hI.1 i j).symm
          simp [um_at]
          rw [h9]
          simp only [this]
        · simp [um_at]
          rw [h1 5 i (by decide) (by decide)]
        · simp [um_at]
          rw [h1 6 i (by decide) (by decide)]
      refine go [] 99 _ _ _ _ ⟨fun _ => ⟨ij, ij, fin⟩, fun _ => ⟨fun _ => ⟨ij, ij, fin⟩, fun c => absurd hch c⟩⟩
    | cons x r ih =>
      intro done at' M1 hk hch hf h1 h4 h9
      have hx := kid_lt hI (x := x) (u := j) (by rw [hk]; simp)
      have hb := hR.n hx.1
      have hdl : done.length < rm t := by
        have : rk A j = done.length + (x :: r).length := by unfold rk; rw [hk, List.length_append]
        simp at this
        omega
      obtain ⟨q1, q2⟩ := hch
      subst q1
      have e0' : M1.1 1 t 0 = nI (rm t) := by rw [h1 1 0 (by decide) (by decide)]; exact e0
      refine go [(9, 4)] 99 _ _ _ _ ⟨fun c => absurd (by rw [e0'] at c; exact c) (nI_ge hdl (by omega)), fun _ => ⟨fun c => absurd c (nI_m1 (by omega)), fun _ => ⟨inR hb.1, ?_⟩⟩⟩
      refine c_makeRoot hC hb.1 ?_
      rw [cl40 hb.2, h1 7 x (by decide) (by decide)]
      have := ih (done ++ [x]) (M.1 7 t x) (um (um M1 4 t x (-1)) 9 t x 0) (by rw [hk]; simp) q2 ((hf.um (by omega) (by omega)).um (by omega) (by omega)) (fun a i g1 g2 => by
        rw [um_at, if_neg (fun e => g2 e.1), um_at, if_neg (fun e => g1 e.1)]; exact h1 a i g1 g2) (fun i => by
        rw [um_at, if_neg (by omega), um_at]
        by_cases e : i = x
        · subst e; simp
        · simp [e, h4]) (fun i => by
        rw [um_at]
        by_cases e : i = x
        · subst e; simp
        · simp [e, um_at, h9])
      rw [List.length_append] at this
      simp only [List.length_singleton] at this
      rw [← nI_1] at this
      exact this
  refine go [(9, 4)] 99 _ _ _ _ ⟨ij, ?_⟩
  rw [cj]
  exact loop (hc A j) [] _ M rfl k6 FH.rf (fun _ _ _ _ => rfl) (fun i => by simp) (fun i => by simp)
set_option maxRecDepth 20000 in
theorem c_settleAll (hC : ClA C) (hR : CR t A M) (hI : Inv A) {f : Nat} (hf : nl A ≤ f) (hfr : f ≤ rm t) (h : ∀ M', CR t (sett f A) M' → FH t M M' → Q none M') : C (d + 3) n_X2_settleAll [vr 1 t] M Q := by
  have hrm := rm_le t
  refine hC.X2_settleAll (d + 2) _ M Q (fun P go => ?_)
  have loop : ∀ (f r : Nat) (B : AH) (M1 : AM), CR t B M1 → Inv B → nl B ≤ f → f + r ≤ rm t → FH t M M1 → (∀ M', CR t (sett f B) M' → FH t M M' → Q none M') → P 2 [some (vr 1 t), some (vi (nI r))] [] M1 := by
    intro f
    induction f with
    | zero =>
      intro r B M1 hR1 hI1 hf1 hr hF h
      have hno : ∀ i j, ¬ IsPair B true i j := fun i j hp => by
        have := (sett_step hI1 hp).2.1
        omega
      refine go [] 99 _ _ _ _ ⟨fun _ => h M1 hR1 hF, fun _ => ?_⟩
      refine c_findPair hC hR1 hI1 true (fun i j M' hp => absurd hp (hno i j)) (fun M' _ hfp => ?_)
      exact ⟨fun _ => h M' (hfp.R hR1) (hF.tr hfp.H), fun c => absurd rfl c⟩
    | succ f ih =>
      intro r B M1 hR1 hI1 hf1 hr hF h
      have e0 : M1.1 1 t 0 = nI (rm t) := hR1.1
      refine go [(2, 2)] 99 _ _ _ _ ⟨fun c => absurd (by rw [e0] at c; exact c) (nI_ge (by omega) (by omega)), fun _ => ?_⟩
      refine c_findPair hC hR1 hI1 true (fun i j M' hp hfp e13 e14 => ?_) (fun M' hno hfp => ?_)
      · have hR2 := hfp.R hR1
        have hs2 := sett_step hI1 hp
        have hi : i < hn B := by have := hp.1; have := hp.2.1; omega
        have hj : j < hn B := hp.2.1
        refine ⟨fun c => absurd c (by decide), fun _ => ?_⟩
        refine C_arg (congrArg (fun z => [vr 1 t, vi z]) e13) (c_cutOff hC hR2 hI1 hi (fun M3 hR3 hF3 hp3 => ?_))
        have g13 := (hp3 13 (by omega)).trans e13
        have g14 := (hp3 14 (by omega)).trans e14
        refine C_arg (congrArg (fun z => [vr 1 t, vi z]) g14) (c_cutOff hC hR3 (inv_cut hI1 i) (j := j) (by rw [cut_n.1]; exact hj) (fun M4 hR4 hF4 hp4 => ?_))
        have k13 := (hp4 13 (by omega)).trans g13
        have k14 := (hp4 14 (by omega)).trans g14
        refine C_a2 k13 k14 (c_linkTwo hC hR4 (inv_cut (inv_cut hI1 i) j) (by have := hp.1; omega) hs2.2.2.1 hs2.2.2.2.1 (by rw [cut_n.1, cut_n.1]; exact hi) (by rw [cut_n.1, cut_n.1]; exact hj) (fun M5 hR5 hF5 => ?_))
        have e : sett (f + 1) B = sett f (link (cutj (cutj B i) j) i j) := by
          show (match pr B true with | none => B | some q => sett f (link (cutj (cutj B q.1) q.2) q.1 q.2)) = _
          rw [pr_some hp]
        rw [e] at h
        have := ih (r + 1) _ M5 hR5 hs2.1 (by have := hs2.2.1; omega) (by omega) ((((hF.tr hfp.H).tr hF3).tr hF4).tr hF5) h
        rw [← nI_1] at this
        exact this
      · refine ⟨fun _ => ?_, fun c => absurd rfl c⟩
        have e : sett (f + 1) B = B := by unfold sett; rw [pr_none hno]
        rw [e] at h
        exact h M' (hfp.R hR1) (hF.tr hfp.H)
  exact go [(2, 2)] 99 _ _ _ _ (loop f 0 A M hR hI hf (by omega) FH.rf h)
set_option maxRecDepth 20000 in
theorem c_joinAll (hC : ClA C) (hR : CR t A M) (hI : Inv A) {f : Nat} (hf : nr A ≤ f) (hfr : f ≤ rm t) (h : ∀ M', CR t (joi f A) M' → FH t M M' → Q (some (vi (nI (lk (joi f A)) - nI (lk A)))) M') : C (d + 3) n_X2_joinAll [vr 1 t] M Q := by
  have hrm := rm_le t
  refine hC.X2_joinAll (d + 2) _ M Q (fun P go => ?_)
  have loop : ∀ (f r : Nat) (B : AH) (M1 : AM), CR t B M1 → Inv B → nr B ≤ f → f + r ≤ rm t → FH t M M1 → (∀ M', CR t (joi f B) M' → FH t M M' → Q (some (vi (nI (lk (joi f B)) - nI (lk A)))) M') → P 7 [some (vr 1 t), some (vi (nI (lk A))), some (vi (nI r))] [] M1 := by
    intro f
    induction f with
    | zero =>
      intro r B M1 hR1 hI1 hf1 hr hF h
      have hno : ∀ i j, ¬ IsPair B false i j := fun i j hp => by
        have := (joi_step hI1 hp).2.1
        omega
      have fin : ∀ M', CR t B M' → FH t M M' → Q (some (vi (M'.1 1 t 11 - nI (lk A)))) M' := fun M' h1 h2 => by
        rw [h1.2.2.2.1]; exact h M' h1 h2
      refine go [] 99 _ _ _ _ ⟨fun _ => fin M1 hR1 hF, fun _ => ?_⟩
      refine c_findPair hC hR1 hI1 false (fun i j M' hp => absurd hp (hno i j)) (fun M' _ hfp => ?_)
      exact ⟨fun _ => fin M' (hfp.R hR1) (hF.tr hfp.H), fun c => absurd rfl c⟩
    | succ f ih =>
      intro r B M1 hR1 hI1 hf1 hr hF h
      have e0 : M1.1 1 t 0 = nI (rm t) := hR1.1
      refine go [(7, 3)] 99 _ _ _ _ ⟨fun c => absurd (by rw [e0] at c; exact c) (nI_ge (by omega) (by omega)), fun _ => ?_⟩
      refine c_findPair hC hR1 hI1 false (fun i j M' hp hfp e13 e14 => ?_) (fun M' hno hfp => ?_)
      · have hR2 := hfp.R hR1
        have hs2 := joi_step hI1 hp
        have hi : i < hn B := by have := hp.1; have := hp.2.1; omega
        have hj : j < hn B := hp.2.1
        refine ⟨fun c => absurd c (by decide), fun _ => ?_⟩
        refine C_a2 e13 e14 (c_linkTwo hC hR2 hI1 (by have := hp.1; omega) hs2.2.2.1 hs2.2.2.2.1 hi hj (fun M5 hR5 hF5 => ?_))
        have e : joi (f + 1) B = joi f (link B i j) := by
          show (match pr B false with | none => B | some q => joi f (link B q.1 q.2)) = _
          rw [pr_some hp]
        rw [e] at h
        have := ih (r + 1) _ M5 hR5 hs2.1 (by have := hs2.2.1; omega) (by omega) ((hF.tr hfp.H).tr hF5) h
        rw [← nI_1] at this
        exact this
      · refine ⟨fun _ => ?_, fun c => absurd rfl c⟩
        have e : joi (f + 1) B = B := by unfold joi; rw [pr_none hno]
        rw [e] at h
        have h1 := hfp.R hR1
        have := h M' h1 (hF.tr hfp.H)
        rw [← h1.2.2.2.1] at this
        exact this
  have e11 := hR.2.2.2.1
  have := loop f 0 A M hR hI hf (by omega) FH.rf h
  rw [← e11] at this
  exact go [(7, 3)] 99 _ _ _ _ this
noncomputable def settle (A : AH) : AH := sett (hn A) A
noncomputable def joinA (A : AH) : AH := joi (hn A) A
noncomputable def takeA (A : AH) (j : Nat) : AH := joinA (settle (fre (cutj A j) j))
noncomputable def lowA (A : AH) (j : Nat) (k : Int32) : AH := match hp A j with
  | none => setk A j k
  | some p => cond (snb (setk A j k) j p) (settle (setl (setk A j k) j)) (setk A j k)
theorem nl_le (A : AH) : nl A ≤ hn A := cnt_le _ _
theorem nr_le (A : AH) : nr A ≤ hn A := cnt_le _ _
theorem CR_setk (hR : CR t A M) {j : Nat} {k : Int32} : CR t (setk A j k) (um M 3 t j k) := by
  obtain ⟨c1, c2, c3, c4, c5, c6⟩ := hR
  refine ⟨by simp [um_at]; exact c1, c2, by simp [um_at]; exact c3, by simp [um_at]; exact c4, by simp [um_at]; exact c5, fun x hx => ?_⟩
  obtain ⟨k2, k3, k4, k5, k8, k9, k6⟩ := c6 x hx
  have e7 : (um M 3 t j k).1 7 t = M.1 7 t := by funext i; simp [um_at]
  refine ⟨by simp [um_at]; exact k2, ?_, by simp [um_at]; exact k4, by simp [um_at]; exact k5, by simp [um_at]; exact k8, by simp [um_at]; exact k9, by rw [e7]; simp [um_at]; exact k6⟩
  show _ = va_up (CLooseHeapLaw_law_r4325_51c37f.hk A) j k x
  by_cases e : x = j
  · subst e; simp [um_at, up_s]
  · rw [up_n e]; simp [um_at, e]; exact k3
theorem CR_setl (hR : CR t A M) {j : Nat} : CR t (setl A j) (um M 9 t j 1) := by
  obtain ⟨c1, c2, c3, c4, c5, c6⟩ := hR
  refine ⟨by simp [um_at]; exact c1, c2, by simp [um_at]; exact c3, by simp [um_at]; exact c4, by simp [um_at]; exact c5, fun x hx => ?_⟩
  obtain ⟨k2, k3, k4, k5, k8, k9, k6⟩ := c6 x hx
  have e7 : (um M 9 t j 1).1 7 t = M.1 7 t := by funext i; simp [um_at]
  refine ⟨by simp [um_at]; exact k2, by simp [um_at]; exact k3, by simp [um_at]; exact k4, by simp [um_at]; exact k5, by simp [um_at]; exact k8, ?_, by rw [e7]; simp [um_at]; exact k6⟩
  show _ = b2 (va_up (hl A) j true x)
  by_cases e : x = j
  · subst e; simp [um_at, up_s]; rfl
  · rw [up_n e]; simp [um_at, e]; exact k9
set_option maxRecDepth 20000 in
theorem c_lowerTo (hC : ClA C) (hR : CR t A M) (hI : Inv A) {j : Nat} {k : Int32} (hj : j < hn A) (hk' : KeyOk k) (h : ∀ M', CR t (lowA A j k) M' → FH t M M' → Q none M') : C (d + 4) n_X2_lowerTo [vr 1 t, vi (nI j), vi k] M Q := by
  have hrm := rm_le t
  have hn1 := hR.2.1
  have cj := cl40 (hR.n hj).2
  have ij := inR (hR.n hj).1
  have hR1 : CR t (setk A j k) (um M 3 t j k) := CR_setk hR
  have hI1 : Inv (setk A j k) := inv_setk hI hk'
  obtain ⟨-, -, k4, -⟩ := hR1.2.2.2.2.2 j hj
  refine hC.X2_lowerTo (d + 3) _ M Q (fun P go => ?_)
  refine go [] 99 _ _ _ _ ⟨ij, ij, ?_⟩
  rw [cj, k4]
  have hpe : hp (setk A j k) j = hp A j := rfl
  rw [hpe]
  cases hjp : hp A j with
  | none =>
    have e : lowA A j k = setk A j k := by unfold lowA; rw [hjp]
    rw [e] at h
    exact ⟨fun _ => h _ hR1 (FH.rf.um (by omega) (by omega)), fun c => absurd rfl c⟩
  | some p =>
    have hp1 := (hI.2.2.1 j p hjp).2.1
    have e : lowA A j k = cond (snb (setk A j k) j p) (settle (setl (setk A j k) j)) (setk A j k) := by unfold lowA; rw [hjp]
    rw [e] at h
    refine ⟨fun c => absurd c (nI_m1 (by omega)), fun _ => ⟨ij, ?_⟩⟩
    refine C_arg (As' := [vr 1 t, vi (nI j), vi (nI p)]) (by rw [cj, k4, hpe, hjp]; rfl) (c_isSooner hC hR1 hj hp1 ?_)
    refine ⟨fun c => ?_, fun c => ⟨ij, ?_⟩⟩
    · rw [b2_0 c] at h
      exact h _ hR1 (FH.rf.um (by omega) (by omega))
    · rw [b2_n0 c] at h
      rw [cj]
      refine c_settleAll hC (CR_setl hR1) (inv_setl hI1 hjp) (nl_le _) hn1 (fun M' g1 g2 => ?_)
      exact h M' g1 (((FH.rf.um (by omega) (by omega)).um (by omega) (by omega)).tr g2)
set_option maxRecDepth 20000 in
theorem c_takeOut (hC : ClA C) (hR : CR t A M) (hI : Inv A) {j : Nat} (hj : j < hn A) (h : ∀ M', CR t (takeA A j) M' → FH t M M' → Q none M') : C (d + 4) n_X2_takeOut [vr 1 t, vi (nI j)] M Q := by
  have hrm := rm_le t
  have hn1 := hR.2.1
  have cj := cl40 (hR.n hj).2
  have ij := inR (hR.n hj).1
  obtain ⟨-, -, k4, -⟩ := hR.2.2.2.2.2 j hj
  refine hC.X2_takeOut (d + 3) _ M Q (fun P go => ?_)
  have tail : ∀ M1, CR t (cutj A j) M1 → FH t M M1 → P 15 [some (vr 1 t), some (vi (nI j))] [] M1 := by
    intro M1 hR1 hF1
    have hI1 := inv_cut hI j
    have hj1 : j < hn (cutj A j) := by rw [cut_n.1]; exact hj
    have hj0 : hp (cutj A j) j = none := by rw [(cut_p hI).1, if_pos rfl]
    refine go [] 99 _ _ _ _ ?_
    refine c_freeChildren hC hR1 hI1 hj1 (fun M2 g1 g2 g3 g4 g5 g6 g7 => ?_)
    refine ⟨ij, ?_⟩
    rw [cj]
    have hR2 : CR t (fre (cutj A j) j) (um M2 8 t j (bz 0)) := by
      refine CR_fre hR1 hI1 hj0 (fun i => ?_) (fun a i q => ?_) (fun i hi => ?_) (fun i hi => ?_) (fun i => ?_) (fun i => ?_) (fun i => ?_)
      · simp [um_at]; exact g2 i
      · rcases q with q | q | q <;> subst q <;> simp [um_at] <;> exact g3 _ i (by omega)
      · simp [um_at]; exact g4 i hi
      · simp [um_at]; exact g5 i hi
      · simp [um_at]; exact g6 i
      · simp [um_at]; exact g7 i
      · rw [um_at]
        by_cases e : i = j
        · subst e; simp; rfl
        · simp [e]; exact g3 8 i (by omega)
    have hI2 := inv_fre hI1 hj0
    have hn2 : hn (fre (cutj A j) j) = hn A := cut_n.1
    refine c_settleAll hC hR2 hI2 (nl_le _) (by rw [hn2]; exact hn1) (fun M3 hR3 hF3 => ?_)
    have hs3 := sett_inv (hn (fre (cutj A j) j)) hI2
    refine c_joinAll hC hR3 hs3.1 (nr_le _) (by rw [hs3.2.1, hn2]; exact hn1) (fun M4 hR4 hF4 => ?_)
    exact h M4 hR4 ((((hF1.tr g1).um (by omega) (by omega)).tr hF3).tr hF4)
  refine go [(15, 2)] 99 _ _ _ _ ⟨ij, ?_⟩
  rw [cj, k4]
  cases hjp : hp A j with
  | none =>
    refine ⟨fun _ => ?_, fun c => absurd rfl c⟩
    have e : cutj A j = A := by unfold cutj; rw [hjp]
    exact tail M (by rw [e]; exact hR) FH.rf
  | some p =>
    have hp1 := (hI.2.2.1 j p hjp).2.1
    refine ⟨fun c => absurd c (nI_m1 (by omega)), fun _ => ?_⟩
    refine c_cutOff hC hR hI hj (fun M1 hR1 hF1 _ => ?_)
    exact tail M1 hR1 hF1
end OPS

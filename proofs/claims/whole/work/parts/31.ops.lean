/-! WHAT EACH CALL ANSWERS, and the class's side of it -/
def fN (x : Int32) (e fb sb : Nat) : Nat := if x = 0 then 0 else (if x < 0 then 2 ^ sb else 0) + (Nat.log2 x.toInt.natAbs + e) * 2 ^ fb + (x.toInt.natAbs - 2 ^ Nat.log2 x.toInt.natAbs) * 2 ^ (fb - Nat.log2 x.toInt.natAbs)
def p_put (W : WS) (a k : Int32) : Int32 × WS := cond (btw a 0 1 && btw k (-9999) 9999) (cond (decide (hn W.1 < 40)) (nI (hn W.1), wA W (addj W.1 a k)) (-1000000004, W)) (-1000000002, W)
noncomputable def p_lower (W : WS) (x k : Int32) : Int32 × WS := cond (hasJ W.1 x) (cond (btw k (-9999) 9999) (cond (hs W.1 (jx x) && decide (k < hk W.1 (jx x))) (b2 (hl (lowA W.1 (jx x) k) (jx x)), wA W (lowA W.1 (jx x) k)) (-1000000003, W)) (-1000000002, W)) (-1000000001, W)
noncomputable def p_take (W : WS) : Int32 × WS := match soonA W.1 with
  | none => (-1000000003, W)
  | some j => (nI j, wA W (takeA W.1 j))
noncomputable def p_drop (W : WS) (x : Int32) : Int32 × WS := cond (hasJ W.1 x) (cond (hs W.1 (jx x)) (nI (cU (hs (takeA W.1 (jx x))) (hn (takeA W.1 (jx x)))), wA W (takeA W.1 (jx x))) (-1000000003, W)) (-1000000001, W)
noncomputable def p_join (W : WS) : Int32 × WS := (nI (lk (joinA W.1)) - nI (lk W.1), wA W (joinA W.1))
def p_clear (W : WS) : Int32 × WS := (nI (hn W.1), (emp, fun _ => -1, W.2.2))
def p_told (W : WS) (w : Int32) : Int32 := if w = 0 then nI (hn W.1) else if w = 1 then nI (cU (hs W.1) (hn W.1)) else if w = 2 then en (soonA W.1) else if w = 3 then nI (cU (isP W.1 false) (hn W.1)) else if w = 4 then nI (cU (hl W.1) (hn W.1)) else if w = 5 then gmU W.1 (hn W.1) else if w = 6 then nI (lk W.1) else if w = 7 then nI (ct W.1) else if w = 8 then lgU W.1 40 (hn W.1) else if w = 9 then nI W.2.2.1.1 else if w = 10 then nI W.2.2.1.2.1 else -1000000002
def p_jv (A : AH) (j : Nat) (w : Int32) : Int32 := if w = 0 then hd A j else if w = 1 then hk A j else if w = 2 then b2 (hs A j) else if w = 3 then en (hp A j) else if w = 4 then nI (rk A j) else if w = 5 then b2 (hl A j) else if w = 6 then nI (dpF A 40 (hp A j)) else if w = 7 then nI (cU (fun x => hs A x && wiF A 40 (some x) j) (hn A)) else if w = 8 then nI (fN (hk A j) 123 23 31) else -1000000002
def p_job (W : WS) (x w : Int32) : Int32 := cond (hasJ W.1 x) (p_jv W.1 (jx x) w) (-1000000001)
def p_child (W : WS) (x k : Int32) : Int32 := cond (hasJ W.1 x) (if 0 ≤ k then en (hc W.1 (jx x))[jx k]? else -1000000002) (-1000000001)
def p_loose (W : WS) (r : Int32) : Int32 := if 0 ≤ r then en (lOf W.1 r) else -1000000002
def p_bits (W : WS) : Int64 := lN (fN (smU W.1 (hn W.1)) 1019 52 63)
def p_seat (f : Nat → Int32) (i : Nat) (x : Int32) : Nat → Int32 := fun j => if j = i then x else if f j = x then -1 else f j
def p_sit (W : WS) (b p x : Int32) : Int32 × WS := cond (btw b 0 1 && hasJ W.1 x) (cond (hs W.1 (jx x)) (-1000000003, W) (cond (btw p 0 7) (cond (decide (b = 1) && decide (hd W.1 (jx x) = 0)) (-1000000012, W) (W.2.1 (8 * jx b + jx p), (W.1, p_seat W.2.1 (8 * jx b + jx p) x, W.2.2))) (-1000000011, W))) (-1000000001, W)
def p_sits (W : WS) (b p : Int32) : Int32 := cond (btw b 0 1) (cond (btw p 0 7) (W.2.1 (8 * jx b + jx p)) (-1000000011)) (-1000000001)
def p_net (W : WS) (n : Int32) : Int32 × WS := cond (btw n 2 8) (nI W.2.2.1.2.1, (W.1, W.2.1, (jx n, 0, W.2.2.1.2.2), W.2.2.2)) (-1000000002, W)
def hasP (T : NT) (x : Int32) : Bool := decide (¬ x < 0) && decide (¬ nI T.1 ≤ x)
def p_road (W : WS) (a b w : Int32) : Int32 × WS := cond (hasP W.2.2.1 a && (hasP W.2.2.1 b && !decide (a = b))) (cond (btw w 0 9999) (cond (decide (W.2.2.1.2.1 < 14)) (nI W.2.2.1.2.1, (W.1, W.2.1, (W.2.2.1.1, W.2.2.1.2.1 + 1, va_up W.2.2.1.2.2.1 W.2.2.1.2.1 (jx a), va_up W.2.2.1.2.2.2.1 W.2.2.1.2.1 (jx b), va_up W.2.2.1.2.2.2.2 W.2.2.1.2.1 w), W.2.2.2)) (-1000000004, W)) (-1000000002, W)) (-1000000001, W)
def p_keep (W : WS) (i : Int32) : Int32 × WS := cond (btw i 0 1) (nI (hn W.1), (W.1, W.2.1, W.2.2.1, va_up W.2.2.2 (jx i) (true, W.1, W.2.1))) (-1000000001, W)
def p_back (W : WS) (i : Int32) : Int32 × WS := cond (btw i 0 1) (cond (W.2.2.2 (jx i)).1 (nI (hn (W.2.2.2 (jx i)).2.1), ((W.2.2.2 (jx i)).2.1, (W.2.2.2 (jx i)).2.2, W.2.2.1, W.2.2.2)) (-1000000003, W)) (-1000000001, W)
theorem btw_nat {x : Int32} {lo hi : Nat} (hlo : lo < 2 ^ 30) (hhi : hi < 2 ^ 30) (h : btw x (nI lo) (nI hi) = true) : x = nI (jx x) ∧ lo ≤ jx x ∧ jx x ≤ hi := by
  unfold btw at h
  simp only [Bool.and_eq_true, decide_eq_true_eq, Int32.le_iff_toInt_le] at h
  rw [nI_toInt (by omega), nI_toInt (by omega)] at h
  have h0 : ¬ x < 0 := by
    rw [Int32.lt_iff_toInt_lt]
    have : (0 : Int32).toInt = 0 := by decide
    omega
  obtain ⟨j, hj, rfl⟩ := nI_of h0
  rw [nI_toInt hj] at h
  have e : jx (nI j) = j := nI_clamp hj
  rw [e]
  exact ⟨rfl, by omega, by omega⟩
theorem btw01 {a : Int32} (h : btw a 0 1 = true) : KindOk a := by
  obtain ⟨h1, -, h3⟩ := btw_nat (lo := 0) (hi := 1) (by omega) (by omega) h
  rw [h1]
  rcases (show jx a = 0 ∨ jx a = 1 by omega) with e | e <;> rw [e]
  · exact Or.inl rfl
  · exact Or.inr rfl
section XOPS
variable {C : Nat → CP} {d k : Nat} {W : WS} {M : AM} {Q : RP}
set_option maxRecDepth 20000 in
theorem c_put (hC : ClA C) (hW : CW W M) (hI : WI k W) {a b : Int32} (h : ∀ M', CW (p_put W a b).2 M' → FC M M' → Q (some (vi (p_put W a b).1)) M') : C (d + 3) n_X6_put [vr 0 0, vi a, vi b] M Q := by
  have hs0 := CW_same hW
  refine hC.X6_put (d + 2) _ M Q (fun P go => ?_)
  refine go [] 99 _ _ _ _ ?_
  unfold p_put at h
  refine c_between hC ⟨fun c => ?_, fun c => ?_⟩
  · rw [b2_0 c, Bool.false_and] at h
    exact h M hs0.1 hs0.2
  · rw [b2_n0 c, Bool.true_and] at h
    refine c_isKey hC ⟨fun c2 => ?_, fun c2 => ?_⟩
    · rw [b2_n0 c2] at h
      refine c_hasRoom hC hW.1 ⟨fun c3 => ?_, fun c3 => ?_⟩
      · have e3 : decide (hn W.1 < 40) = true := b2_n0 c3
        rw [e3] at h
        refine c_add hC hW.1 hI.1 (of_decide_eq_true e3) (fun M' hR hF => ?_)
        have := CW_heap hW hR hF
        exact h M' this.1 this.2
      · have e3 : decide (hn W.1 < 40) = false := b2_0 c3
        rw [e3] at h
        exact h M hs0.1 hs0.2
    · rw [b2_0 c2] at h
      exact h M hs0.1 hs0.2
set_option maxRecDepth 20000 in
theorem c_lower (hC : ClA C) (hW : CW W M) (hI : WI k W) {x y : Int32} (h : ∀ M', CW (p_lower W x y).2 M' → FC M M' → Q (some (vi (p_lower W x y).1)) M') : C (d + 5) n_X6_lower [vr 0 0, vi x, vi y] M Q := by
  have hs0 := CW_same hW
  refine hC.X6_lower (d + 4) _ M Q (fun P go => ?_)
  refine go [] 99 _ _ _ _ ?_
  unfold p_lower at h
  refine c_has hC hW.1 ⟨fun c => ?_, fun c => ?_⟩
  · have e1 := b2_n0 c
    rw [e1] at h
    obtain ⟨hx, hj⟩ := hasJ_ok hI.1 e1
    generalize jx x = j at hx hj h
    subst hx
    refine c_isKey hC ⟨fun c2 => ?_, fun c2 => ?_⟩
    · rw [b2_n0 c2] at h
      refine c_isStanding hC hW.1 hj ⟨fun c3 => ?_, fun c3 => ?_⟩
      · rw [b2_0 c3] at h
        exact h M hs0.1 hs0.2
      · rw [b2_n0 c3] at h
        refine c_keyOf hC hW.1 hj ⟨fun c4 => ?_, fun c4 => ?_⟩
        · rw [decide_eq_true c4] at h
          refine c_lowerTo hC hW.1 hI.1 hj (btw_key (b2_n0 c2)) (fun M' hR hF => ?_)
          have := CW_heap hW hR hF
          have hn1 : hn (lowA W.1 j y) = hn W.1 := by
            unfold lowA settle
            split
            · rfl
            · rename_i p hp1
              cases snb (setk W.1 j y) j p
              · rfl
              · exact (sett_inv _ (inv_setl (inv_setk hI.1 (btw_key (b2_n0 c2))) hp1)).2.1
          refine c_isLoose hC hR (by rw [hn1]; exact hj) ?_
          exact c_flag hC (h M' this.1 this.2)
        · rw [decide_eq_false c4] at h
          exact h M hs0.1 hs0.2
    · rw [b2_0 c2] at h
      exact h M hs0.1 hs0.2
  · rw [b2_0 c] at h
    exact h M hs0.1 hs0.2
set_option maxRecDepth 20000 in
theorem c_take (hC : ClA C) (hW : CW W M) (hI : WI k W) (h : ∀ M', CW (p_take W).2 M' → FC M M' → Q (some (vi (p_take W).1)) M') : C (d + 5) n_X6_take [vr 0 0] M Q := by
  have hs0 := CW_same hW
  refine hC.X6_take (d + 4) _ M Q (fun P go => ?_)
  refine go [] 99 _ _ _ _ ?_
  unfold p_take at h
  refine c_soonest hC hW.1 ?_
  cases e : soonA W.1 with
  | none =>
    rw [e] at h
    exact ⟨fun c => absurd rfl c, fun _ => h M hs0.1 hs0.2⟩
  | some j =>
    rw [e] at h
    have hj := (sstU_lt _ e).1
    have h40 := hI.1.2.2.2.2.2.2.1
    refine ⟨fun _ => ?_, fun c => absurd c (nI_m1 (by omega))⟩
    refine c_takeOut hC hW.1 hI.1 hj (fun M' hR hF => ?_)
    have := CW_heap hW hR hF
    exact h M' this.1 this.2
theorem takeA_inv {A : AH} (hI : Inv A) (j : Nat) : Inv (takeA A j) ∧ hn (takeA A j) = hn A ∧ lk (takeA A j) ≤ lk A + 2 * hn A ∧ hk (takeA A j) = hk A ∧ hs (takeA A j) = va_up (hs A) j false := by
  have h1 := inv_cut hI j
  have h0 : hp (cutj A j) j = none := by rw [(cut_p hI).1, if_pos rfl]
  have h2 := inv_fre h1 h0
  have h3 := sett_inv (hn (fre (cutj A j) j)) h2
  have h4 := joi_inv (hn (sett (hn (fre (cutj A j) j)) (fre (cutj A j) j))) h3.1
  have e1 : hn (fre (cutj A j) j) = hn A := cut_n.1
  have e2 : lk (fre (cutj A j) j) = lk A := cut_n.2.2.2.2
  have e3 : hk (fre (cutj A j) j) = hk A := cut_n.2.2.1
  have e4 : hs (fre (cutj A j) j) = va_up (hs A) j false := by show va_up (hs (cutj A j)) j false = _; rw [cut_n.2.2.2.1]
  refine ⟨h4.1, h4.2.1.trans (h3.2.1.trans e1), ?_, h4.2.2.2.1.trans (h3.2.2.2.1.trans e3), h4.2.2.2.2.1.trans (h3.2.2.2.2.1.trans e4)⟩
  have g1 := h4.2.2.2.2.2.2.1
  have g2 := h3.2.2.2.2.2
  have g3 := h3.2.1
  show lk (joi (hn (sett (hn (fre (cutj A j) j)) (fre (cutj A j) j))) (sett (hn (fre (cutj A j) j)) (fre (cutj A j) j))) ≤ _
  omega
set_option maxRecDepth 20000 in
theorem c_drop (hC : ClA C) (hW : CW W M) (hI : WI k W) {x : Int32} (h : ∀ M', CW (p_drop W x).2 M' → FC M M' → Q (some (vi (p_drop W x).1)) M') : C (d + 5) n_X6_drop [vr 0 0, vi x] M Q := by
  have hs0 := CW_same hW
  refine hC.X6_drop (d + 4) _ M Q (fun P go => ?_)
  refine go [] 99 _ _ _ _ ?_
  unfold p_drop at h
  refine c_has hC hW.1 ⟨fun c => ?_, fun c => ?_⟩
  · have e1 := b2_n0 c
    rw [e1] at h
    obtain ⟨hx, hj⟩ := hasJ_ok hI.1 e1
    generalize jx x = j at hx hj h
    subst hx
    refine c_isStanding hC hW.1 hj ⟨fun c3 => ?_, fun c3 => ?_⟩
    · rw [b2_n0 c3] at h
      refine c_takeOut hC hW.1 hI.1 hj (fun M' hR hF => ?_)
      have := CW_heap hW hR hF
      exact c_standingCount hC hR (h M' this.1 this.2)
    · rw [b2_0 c3] at h
      exact h M hs0.1 hs0.2
  · rw [b2_0 c] at h
    exact h M hs0.1 hs0.2
set_option maxRecDepth 20000 in
theorem c_join (hC : ClA C) (hW : CW W M) (hI : WI k W) (h : ∀ M', CW (p_join W).2 M' → FC M M' → Q (some (vi (p_join W).1)) M') : C (d + 4) n_X6_join [vr 0 0] M Q := by
  refine hC.X6_join (d + 3) _ M Q (fun P go => ?_)
  refine go [] 99 _ _ _ _ ?_
  refine c_joinAll hC hW.1 hI.1 (nr_le _) hI.1.2.2.2.2.2.2.1 (fun M' hR hF => ?_)
  have := CW_heap hW hR hF
  exact h M' this.1 this.2
set_option maxRecDepth 20000 in
theorem c_bempty (hC : ClA C) {t : Nat} (h : ∀ M', Fil 12 t (-1) M M' → Q none M') : C (d + 2) n_X0_empty [vr 11 t] M Q := by
  refine hC.X0_empty (d + 1) _ M Q (fun P go => ?_)
  refine go [] 99 _ _ _ _ ?_
  exact c_fill12 hC (fun M' hf => h M' hf)
set_option maxRecDepth 20000 in
theorem c_clear (hC : ClA C) (hW : CW W M) (h : ∀ M', CW (p_clear W).2 M' → FC M M' → Q (some (vi (p_clear W).1)) M') : C (d + 3) n_X6_clear [vr 0 0] M Q := by
  refine hC.X6_clear (d + 2) _ M Q (fun P go => ?_)
  refine go [] 99 _ _ _ _ ?_
  refine c_count hC hW.1 ?_
  refine c_empty hC hW.1.1 (fun M1 hR hF => ?_)
  have h1 := CW_heap hW hR hF
  refine c_bempty hC (fun M2 hf => ?_)
  have e : ∀ a u i, a ≠ 12 ∨ u ≠ 0 → M2.1 a u i = M1.1 a u i := fun a u i q => by rw [hf.1, if_neg (by omega)]
  obtain ⟨⟨c1, c2, ⟨n1, n2, n3⟩, c4, c5⟩, hfc⟩ := h1
  refine h M2 ⟨c1.fr (fun i _ _ => e 1 0 i (by omega)) (fun a i _ _ => e a 0 i (by omega)), fun j hj => by rw [hf.1, if_pos ⟨rfl, rfl, hj⟩]; rfl, ⟨by rw [e 13 0 5 (by omega)]; exact n1, by rw [e 13 0 6 (by omega)]; exact n2, fun i hi => by rw [e 14 0 i (by omega), e 15 0 i (by omega), e 16 0 i (by omega)]; exact n3 i hi⟩, fun i hi => ?_, by rw [e 1 3 0 (by omega)]; exact c5⟩ (fun a u i ha => by rw [e a u i (by omega)]; exact hfc a u i ha)
  obtain ⟨i1, i2, i3⟩ := c4 i hi
  refine ⟨by rw [e 20 i 2 (by omega)]; exact i1, by rw [e 1 (i + 1) 0 (by omega)]; exact i2, fun hk' => ?_⟩
  obtain ⟨g1, g2⟩ := i3 hk'
  exact ⟨g1.fr (fun i' _ _ => e 1 (i + 1) i' (by omega)) (fun a i' _ _ => e a (i + 1) i' (by omega)), fun j hj => by rw [e 12 (i + 1) j (by omega)]; exact g2 j hj⟩
set_option maxRecDepth 20000 in
theorem c_places (hC : ClA C) {v : Int32} (e : M.1 13 0 5 = v) (h : Q (some (vi v)) M) : C (d + 1) n_X5_places [vr 13 0] M Q := by
  refine hC.X5_places d _ M Q (fun P go => ?_)
  rw [← e] at h
  exact go [] 99 _ _ _ _ h
set_option maxRecDepth 20000 in
theorem c_rcount (hC : ClA C) {v : Int32} (e : M.1 13 0 6 = v) (h : Q (some (vi v)) M) : C (d + 1) n_X5_count [vr 13 0] M Q := by
  refine hC.X5_count d _ M Q (fun P go => ?_)
  rw [← e] at h
  exact go [] 99 _ _ _ _ h
set_option maxRecDepth 20000 in
theorem c_told (hC : ClA C) (hW : CW W M) (hI : WI k W) {w : Int32} (h : Q (some (vi (p_told W w))) M) : C (d + 3) n_X6_told [vr 0 0, vi w] M Q := by
  refine hC.X6_told (d + 2) _ M Q (fun P go => ?_)
  unfold p_told at h
  refine go [] 99 _ _ _ _ ⟨fun e => ?_, fun n0 => ⟨fun e => ?_, fun n1 => ⟨fun e => ?_, fun n2 => ⟨fun e => ?_, fun n3 => ⟨fun e => ?_, fun n4 => ⟨fun e => ?_, fun n5 => ⟨fun e => ?_, fun n6 => ⟨fun e => ?_, fun n7 => ⟨fun e => ?_, fun n8 => ⟨fun e => ?_, fun n9 => ⟨fun e => ?_, fun n10 => ?_⟩⟩⟩⟩⟩⟩⟩⟩⟩⟩⟩
  · subst e; exact c_count hC hW.1 h
  · subst e; exact c_standingCount hC hW.1 h
  · subst e; exact c_soonest hC hW.1 h
  · subst e; exact c_rootCount hC hW.1 hI.1 h
  · subst e; exact c_looseCount hC hW.1 h
  · subst e; exact c_greatestRank hC hW.1 h
  · subst e; exact c_links hC hW.1 h
  · subst e; exact c_cuts hC hW.1 h
  · subst e; exact c_longestRow hC hW.1 hI.1 h
  · subst e; exact c_places hC hW.2.2.1.1 h
  · subst e; exact c_rcount hC hW.2.2.1.2.1 h
  · rw [if_neg n0, if_neg n1, if_neg n2, if_neg n3, if_neg n4, if_neg n5, if_neg n6, if_neg n7, if_neg n8, if_neg n9, if_neg n10] at h
    exact h
set_option maxRecDepth 20000 in
theorem c_child (hC : ClA C) (hW : CW W M) (hI : WI k W) {x y : Int32} (h : Q (some (vi (p_child W x y))) M) : C (d + 2) n_X6_child [vr 0 0, vi x, vi y] M Q := by
  refine hC.X6_child (d + 1) _ M Q (fun P go => ?_)
  refine go [] 99 _ _ _ _ ?_
  unfold p_child at h
  refine c_has hC hW.1 ⟨fun c => ?_, fun c => ?_⟩
  · have e1 := b2_n0 c
    rw [e1] at h
    obtain ⟨hx, hj⟩ := hasJ_ok hI.1 e1
    generalize jx x = j at hx hj h
    subst hx
    have h : Q (some (vi (if 0 ≤ y then en (hc W.1 j)[jx y]? else -1000000002))) M := h
    refine ⟨fun c2 => ?_, fun c2 => ?_⟩
    · rw [if_pos c2] at h
      obtain ⟨q, hq, rfl⟩ := nI_of (x := y) (nlt_le c2)
      have e : jx (nI q) = q := nI_clamp hq
      rw [e] at h
      exact c_childAt hC hW.1 hI.1 hj hq h
    · rw [if_neg c2] at h
      exact h
  · rw [b2_0 c] at h
    exact h
set_option maxRecDepth 20000 in
theorem c_loose (hC : ClA C) (hW : CW W M) {r : Int32} (h : Q (some (vi (p_loose W r))) M) : C (d + 2) n_X6_loose [vr 0 0, vi r] M Q := by
  refine hC.X6_loose (d + 1) _ M Q (fun P go => ?_)
  unfold p_loose at h
  refine go [] 99 _ _ _ _ ⟨fun c => ?_, fun c => ?_⟩
  · rw [if_pos c] at h
    exact c_looseOfRank hC hW.1 h
  · rw [if_neg c] at h
    exact h
end XOPS

section MIMG
variable {C : Nat → CP} {d k : Nat} {W : WS} {M : AM} {Q : RP}
theorem in520 {x : Nat} (h : x < 520) : vp_in (nI x) 520 := vp_in_nI h (by omega)
theorem cl520 {x : Nat} (h : x < 520) : (nI x).toNatClampNeg = x := nI_clamp (by omega)
theorem ip (a c : Nat) : nI a + nI c = nI (a + c) := nI_add a c
theorem ipl (q j : Nat) : nI (260 * q) + 4 + 6 * nI j = nI (260 * q + 4 + 6 * j) := by
  rw [show (4 : Int32) = nI 4 from rfl, show (6 : Int32) = nI 6 from rfl, pk_mul, nI_add, nI_add]
theorem iat (q : Nat) : 260 * nI q = nI (260 * q) := by
  rw [show (260 : Int32) = nI 260 from rfl, pk_mul]
theorem ibn (q j : Nat) : nI (260 * q) + 244 + nI j = nI (260 * q + 244 + j) := by
  rw [show (244 : Int32) = nI 244 from rfl, nI_add, nI_add]
set_option maxRecDepth 20000 in
theorem m_keep (hC : ClA C) (hW : MW W M) (hI : WI k W) {i : Int32} (h : ∀ M', MW (p_keep W i).2 M' → FN M M' → Q (some (vi (p_keep W i).1)) M') : C (d + 2) n_X7_keep [vr 21 0, vi i] M Q := by
  have h40 := hI.1.2.2.2.2.2.2.1
  refine hC.X7_keep (d + 1) _ M Q (fun P go => ?_)
  refine go [(66, 4)] 199 _ _ _ _ ?_
  unfold p_keep at h
  refine m_in hC ⟨fun c => ?_, fun c => ?_⟩
  · have eb := b2_n0 c
    rw [eb] at h
    obtain ⟨hb1, -, hb2⟩ := btw_nat (lo := 0) (hi := 1) (by omega) (by omega) eb
    replace h : ∀ M', MW (W.1, W.2.1, W.2.2.1, va_up W.2.2.2 (jx i) (true, W.1, W.2.1)) M' → FN M M' → Q (some (vi (nI (hn W.1)))) M' := h
    generalize jx i = q at hb1 hb2 h
    subst hb1
    have hIA := hI.1
    obtain ⟨c1, c2, c3, ⟨n1, n2, n3⟩, c5⟩ := hW
    obtain ⟨d7, d8, d9, d48, j1, j2, j3⟩ := c1
    rw [Nat.zero_add] at d7 d8 d9
    have cq : (nI q).toNatClampNeg = q := nI_clamp (by omega)
    -- what stays
    have fr : ∀ (M1 : AM), (∀ a u x, ¬ (a = 33 ∧ u = 0 ∧ 260 * q ≤ x ∧ x < 260 * q + 260) → M1.1 a u x = M.1 a u x) → M1.1 33 0 (260 * q) = nI (hn W.1) → M1.1 33 0 (260 * q + 1) = nI (lk W.1) → M1.1 33 0 (260 * q + 2) = nI (ct W.1) → M1.1 33 0 (260 * q + 3) = nI (lk W.1) → (∀ r x, r < 6 → x < hn W.1 → M1.1 33 0 (260 * q + 4 + 6 * x + r) = M.1 (22 + r) 0 x) → (∀ j, j < 16 → M1.1 33 0 (260 * q + 244 + j) = W.2.1 j) → Q (some (vi (M1.1 21 0 0))) (um M1 34 0 q (bz 1)) := by
      intro M1 e h0 h1 h2 h3 hr hb
      have e' : ∀ a u x, ¬ (a = 33 ∧ u = 0 ∧ 260 * q ≤ x ∧ x < 260 * q + 260) → ¬ (a = 34 ∧ u = 0 ∧ x = q) → (um M1 34 0 q (bz 1)).1 a u x = M.1 a u x := fun a u x g1 g2 => by rw [um_at, if_neg g2]; exact e a u x g1
      have e33 : ∀ x, (um M1 34 0 q (bz 1)).1 33 0 x = M1.1 33 0 x := fun x => by rw [um_at, if_neg (by omega)]
      rw [e 21 0 0 (by omega), c2]
      refine h _ ⟨?_, ?_, ?_, ⟨?_, ?_, ?_⟩, fun x hx => ?_⟩ (fun a u x ha => e' a u x (by omega) (by omega))
      · exact MD_um (M := M) ⟨by rw [Nat.zero_add]; exact d7, by rw [Nat.zero_add]; exact d8, by rw [Nat.zero_add]; exact d9, d48, j1, j2, j3⟩ (fun x _ => e' 21 0 x (by omega) (by omega)) (fun a x _ _ => e' a 0 x (by omega) (by omega))
      · rw [e' 21 0 0 (by omega) (by omega)]; exact c2
      · intro j hj; rw [e' 28 0 j (by omega) (by omega)]; exact c3 j hj
      · rw [e' 21 0 13 (by omega) (by omega)]; exact n1
      · rw [e' 21 0 14 (by omega) (by omega)]; exact n2
      · intro x hx; rw [e' 29 0 x (by omega) (by omega), e' 30 0 x (by omega) (by omega), e' 31 0 x (by omega) (by omega)]; exact n3 x hx
      · show IW x (va_up W.2.2.2 q (true, W.1, W.2.1) x) _
        by_cases ex : x = q
        · subst ex
          rw [up_s]
          refine ⟨by rw [um_at, if_pos ⟨rfl, rfl, rfl⟩]; rfl, fun _ => ⟨by rw [e33]; exact h0, by rw [e33]; exact h1, by rw [e33]; exact h2, by rw [e33]; exact h3, ⟨fun j hj => ?_, fun p => ?_, fun p z hz => ?_⟩, fun j hj => by rw [e33]; exact hb j hj⟩⟩
          · show (um M1 34 0 x (bz 1)).1 33 0 (260 * x + 4 + 6 * j + 0) = _ ∧ (um M1 34 0 x (bz 1)).1 33 0 (260 * x + 4 + 6 * j + 1) = _ ∧ (um M1 34 0 x (bz 1)).1 33 0 (260 * x + 4 + 6 * j + 2) = _ ∧ (um M1 34 0 x (bz 1)).1 33 0 (260 * x + 4 + 6 * j + 3) = _ ∧ (um M1 34 0 x (bz 1)).1 33 0 (260 * x + 4 + 6 * j + 4) = _
            rw [e33, e33, e33, e33, e33, hr 0 j (by omega) hj, hr 1 j (by omega) hj, hr 2 j (by omega) hj, hr 3 j (by omega) hj, hr 4 j (by omega) hj]
            have := j1 j hj
            simpa using this
          · refine List.Pairwise.imp_of_mem (fun {y z} hy hz hyz => ?_) (j2 p)
            show ((um M1 34 0 x (bz 1)).1 33 0 (260 * x + 4 + 6 * y + 5)).toInt < ((um M1 34 0 x (bz 1)).1 33 0 (260 * x + 4 + 6 * z + 5)).toInt
            rw [e33, e33, hr 5 y (by omega) (kid_lt hIA hy).1, hr 5 z (by omega) (kid_lt hIA hz).1]
            simpa using hyz
          · show ((um M1 34 0 x (bz 1)).1 33 0 (260 * x + 4 + 6 * z + 5)).toInt < _
            rw [e33, hr 5 z (by omega) (kid_lt hIA hz).1]
            have := j3 p z hz
            simpa using this
        · rw [up_n ex]
          obtain ⟨i1, i2⟩ := c5 x hx
          have e33' : ∀ y, 260 * x ≤ y → y < 260 * x + 260 → (um M1 34 0 q (bz 1)).1 33 0 y = M.1 33 0 y := fun y g1 g2 => e' 33 0 y (by omega) (by omega)
          refine ⟨by rw [e' 34 0 x (by omega) (by omega)]; exact i1, fun hk' => ?_⟩
          obtain ⟨a0, a1, a2, a3, ⟨b1, b2, b3⟩, a5⟩ := i2 hk'
          have hI2 := (hI.2.2.2 x hx hk').1
          have h402 := hI2.2.2.2.2.2.2.1
          refine ⟨by rw [e33' _ (by omega) (by omega)]; exact a0, by rw [e33' _ (by omega) (by omega)]; exact a1, by rw [e33' _ (by omega) (by omega)]; exact a2, by rw [e33' _ (by omega) (by omega)]; exact a3, ⟨fun j hj => ?_, fun p => ?_, fun p z hz => ?_⟩, fun j hj => by rw [e33' _ (by omega) (by omega)]; exact a5 j hj⟩
          · have := b1 j hj
            show (um M1 34 0 q (bz 1)).1 33 0 (260 * x + 4 + 6 * j + 0) = _ ∧ (um M1 34 0 q (bz 1)).1 33 0 (260 * x + 4 + 6 * j + 1) = _ ∧ (um M1 34 0 q (bz 1)).1 33 0 (260 * x + 4 + 6 * j + 2) = _ ∧ (um M1 34 0 q (bz 1)).1 33 0 (260 * x + 4 + 6 * j + 3) = _ ∧ (um M1 34 0 q (bz 1)).1 33 0 (260 * x + 4 + 6 * j + 4) = _
            rw [e33' _ (by omega) (by omega), e33' _ (by omega) (by omega), e33' _ (by omega) (by omega), e33' _ (by omega) (by omega), e33' _ (by omega) (by omega)]
            exact this
          · refine List.Pairwise.imp_of_mem (fun {y z} hy hz hyz => ?_) (b2 p)
            have l1 := (kid_lt hI2 hy).1
            have l2 := (kid_lt hI2 hz).1
            show ((um M1 34 0 q (bz 1)).1 33 0 (260 * x + 4 + 6 * y + 5)).toInt < ((um M1 34 0 q (bz 1)).1 33 0 (260 * x + 4 + 6 * z + 5)).toInt
            rw [e33' _ (by omega) (by omega), e33' _ (by omega) (by omega)]
            exact hyz
          · have l2 := (kid_lt hI2 hz).1
            show ((um M1 34 0 q (bz 1)).1 33 0 (260 * x + 4 + 6 * z + 5)).toInt < _
            rw [e33' _ (by omega) (by omega)]
            exact b3 p z hz
    -- the bench
    have loop2 : ∀ f y (M1 : AM), y + f = 16 → (∀ a u x, ¬ (a = 33 ∧ u = 0 ∧ 260 * q ≤ x ∧ x < 260 * q + 260) → M1.1 a u x = M.1 a u x) → M1.1 33 0 (260 * q) = nI (hn W.1) → M1.1 33 0 (260 * q + 1) = nI (lk W.1) → M1.1 33 0 (260 * q + 2) = nI (ct W.1) → M1.1 33 0 (260 * q + 3) = nI (lk W.1) → (∀ r x, r < 6 → x < hn W.1 → M1.1 33 0 (260 * q + 4 + 6 * x + r) = M.1 (22 + r) 0 x) → (∀ j, j < y → M1.1 33 0 (260 * q + 244 + j) = W.2.1 j) → P 196 [some (vr 21 0), some (vi (nI q)), some (vi (nI (260 * q))), some (vi (nI y))] [] M1 := by
      intro f
      induction f with
      | zero =>
        intro y M1 hy e h0 h1 h2 h3 hr hb
        have ey : y = 16 := by omega
        subst ey
        refine go [] 99 _ _ _ _ ⟨fun _ => ⟨(show vp_in (nI q) 2 from vp_in_nI (by omega) (by omega)), ?_⟩, fun c => absurd (nI_le (a := 16) (b := 16) (Nat.le_refl _) (by omega)) c⟩
        rw [cq]
        exact fr M1 e h0 h1 h2 h3 hr hb
      | succ f ih =>
        intro y M1 hy e h0 h1 h2 h3 hr hb
        have hy16 : y < 16 := by omega
        have cy : (nI y).toNatClampNeg = y := nI_clamp (by omega)
        have iy : vp_in (nI y) 16 := vp_in_nI hy16 (by omega)
        have key : ∀ v : Int32, v = nI (260 * q + 244 + y) → vp_in v 520 ∧ P 196 [some (vr 21 0), some (vi (nI q)), some (vi (nI (260 * q))), some (vi (nI y + 1))] [] (um M1 33 0 v.toNatClampNeg (M1.1 28 0 y)) := by
          intro v hv
          subst hv
          rw [cl520 (by omega)]
          refine ⟨in520 (by omega), ?_⟩
          have := ih (y + 1) (um M1 33 0 (260 * q + 244 + y) (M1.1 28 0 y)) (by omega) (fun a u x g => by rw [um_at, if_neg (by omega)]; exact e a u x g) (by rw [um_at, if_neg (by omega)]; exact h0) (by rw [um_at, if_neg (by omega)]; exact h1) (by rw [um_at, if_neg (by omega)]; exact h2) (by rw [um_at, if_neg (by omega)]; exact h3) (fun r x g1 g2 => by rw [um_at, if_neg (by omega)]; exact hr r x g1 g2) (fun j hj => by
            rw [um_at]
            by_cases ej : j = y
            · subst ej
              rw [if_pos ⟨rfl, rfl, rfl⟩, e 28 0 j (by omega)]
              exact c3 j hy16
            · rw [if_neg (by omega)]; exact hb j (by omega))
          rw [← nI_1] at this
          exact this
        refine go [(196, 4)] 99 _ _ _ _ ⟨fun c => absurd c (nI_ge (b := 16) hy16 (by omega)), fun _ => ⟨iy, ?_⟩⟩
        rw [cy]
        exact key _ (ibn q y)
    -- the jobs
    have loop1 : ∀ f y (M1 : AM), y + f = hn W.1 → (∀ a u x, ¬ (a = 33 ∧ u = 0 ∧ 260 * q ≤ x ∧ x < 260 * q + 260) → M1.1 a u x = M.1 a u x) → M1.1 33 0 (260 * q) = nI (hn W.1) → M1.1 33 0 (260 * q + 1) = nI (lk W.1) → M1.1 33 0 (260 * q + 2) = nI (ct W.1) → M1.1 33 0 (260 * q + 3) = nI (lk W.1) → (∀ r x, r < 6 → x < y → M1.1 33 0 (260 * q + 4 + 6 * x + r) = M.1 (22 + r) 0 x) → P 66 [some (vr 21 0), some (vi (nI q)), some (vi (nI (260 * q))), some (vi (nI y))] [] M1 := by
      intro f
      induction f with
      | zero =>
        intro y M1 hy e h0 h1 h2 h3 hr
        have ey : y = hn W.1 := by omega
        subst ey
        refine go [(196, 4)] 99 _ _ _ _ ⟨fun _ => ?_, fun c => absurd (by rw [e 21 0 0 (by omega), c2]; exact nI_le (Nat.le_refl _) (by omega)) c⟩
        exact loop2 16 0 M1 (by omega) e h0 h1 h2 h3 hr (fun j hj => absurd hj (Nat.not_lt_zero j))
      | succ f ih =>
        intro y M1 hy e h0 h1 h2 h3 hr
        have hyn : y < hn W.1 := by omega
        have cy : (nI y).toNatClampNeg = y := nI_clamp (by omega)
        have iy : vp_in (nI y) 48 := in48 (by omega)
        have e24 : M1.1 24 0 y = b2 (hs W.1 y) := by
          rw [e 24 0 y (by omega)]
          have := (j1 y hyn).2.2.1
          simpa using this
        have e26 : M1.1 26 0 y = b2 (hl W.1 y) := by
          rw [e 26 0 y (by omega)]
          have := (j1 y hyn).2.2.2.2
          simpa using this
        obtain ⟨pl, hpl⟩ : ∃ pl, pl = 260 * q + 4 + 6 * y := ⟨_, rfl⟩
        have e5 : nI pl + 5 = nI (pl + 5) := nI_add pl 5
        have e4 : nI pl + 4 = nI (pl + 4) := nI_add pl 4
        have e3 : nI pl + 3 = nI (pl + 3) := nI_add pl 3
        have e2 : nI pl + 2 = nI (pl + 2) := nI_add pl 2
        have e1 : nI pl + 1 = nI (pl + 1) := nI_add pl 1
        have last : ∀ M2, (∀ a u x, ¬ (a = 33 ∧ u = 0 ∧ pl ≤ x ∧ x < pl + 6) → M2.1 a u x = M1.1 a u x) → (∀ r, r < 6 → M2.1 33 0 (pl + r) = M.1 (22 + r) 0 y) → P 66 [some (vr 21 0), some (vi (nI q)), some (vi (nI (260 * q))), some (vi (nI y + 1))] [] M2 := by
          intro M2 g1 g2
          have := ih (y + 1) M2 (by omega) (fun a u x g => by rw [g1 a u x (by omega)]; exact e a u x g) (by rw [g1 33 0 _ (by omega)]; exact h0) (by rw [g1 33 0 _ (by omega)]; exact h1) (by rw [g1 33 0 _ (by omega)]; exact h2) (by rw [g1 33 0 _ (by omega)]; exact h3) (fun r x hr1 hx => by
            by_cases ex : x = y
            · subst ex
              rw [← hpl]
              exact g2 r hr1
            · rw [g1 33 0 _ (by omega)]
              exact hr r x hr1 (by omega))
          rw [← nI_1] at this
          exact this
        have t172 : ∀ (M2 : AM) (v : Int32), v = b2 (hl W.1 y) → (∀ a u x, ¬ (a = 33 ∧ u = 0 ∧ pl ≤ x ∧ x < pl + 4) → M2.1 a u x = M1.1 a u x) → (∀ r, r < 4 → M2.1 33 0 (pl + r) = M.1 (22 + r) 0 y) → P 172 [some (vr 21 0), some (vi (nI q)), some (vi (nI (260 * q))), some (vi (nI y)), some (vi (nI pl))] [vi v, vi (nI pl + 4), vr 33 0] M2 := by
          intro M2 v hv g1 g2
          rw [e4]
          refine go [(66, 4)] 99 _ _ _ _ ⟨in520 (by omega), ?_⟩
          refine ⟨iy, by rw [e5]; exact in520 (by omega), ?_⟩
          rw [e5, cl520 (x := pl + 4) (by omega), cl520 (x := pl + 5) (by omega), cy]
          refine last _ (fun a u x g => by rw [um_at, if_neg (by omega), um_at, if_neg (by omega)]; exact g1 a u x (by omega)) (fun r hr1 => ?_)
          rcases (show r < 4 ∨ r = 4 ∨ r = 5 by omega) with q1 | q1 | q1
          · rw [um_at, if_neg (by omega), um_at, if_neg (by omega)]; exact g2 r q1
          · subst q1
            rw [um_at, if_neg (by omega), um_at, if_pos ⟨rfl, rfl, rfl⟩, hv, ← e26]
            exact e 26 0 y (by omega)
          · subst q1
            rw [um_at, if_pos ⟨rfl, rfl, rfl⟩, um_at, if_neg (by omega), g1 27 0 y (by omega)]
            exact e 27 0 y (by omega)
        have t134 : ∀ (M2 : AM) (v : Int32), v = b2 (hs W.1 y) → (∀ a u x, ¬ (a = 33 ∧ u = 0 ∧ pl ≤ x ∧ x < pl + 2) → M2.1 a u x = M1.1 a u x) → (∀ r, r < 2 → M2.1 33 0 (pl + r) = M.1 (22 + r) 0 y) → P 134 [some (vr 21 0), some (vi (nI q)), some (vi (nI (260 * q))), some (vi (nI y)), some (vi (nI pl))] [vi v, vi (nI pl + 2), vr 33 0] M2 := by
          intro M2 v hv g1 g2
          rw [e2]
          refine go [(172, 5)] 99 _ _ _ _ ⟨in520 (by omega), ?_⟩
          refine ⟨iy, by rw [e3]; exact in520 (by omega), ?_⟩
          rw [e3, cl520 (x := pl + 2) (by omega), cl520 (x := pl + 3) (by omega), cy]
          have f1 : ∀ a u x, ¬ (a = 33 ∧ u = 0 ∧ pl ≤ x ∧ x < pl + 4) → (um (um M2 33 0 (pl + 2) v) 33 0 (pl + 3) ((um M2 33 0 (pl + 2) v).1 25 0 y)).1 a u x = M1.1 a u x := fun a u x g => by rw [um_at, if_neg (by omega), um_at, if_neg (by omega)]; exact g1 a u x (by omega)
          have f2 : ∀ r, r < 4 → (um (um M2 33 0 (pl + 2) v) 33 0 (pl + 3) ((um M2 33 0 (pl + 2) v).1 25 0 y)).1 33 0 (pl + r) = M.1 (22 + r) 0 y := fun r hr1 => by
            rcases (show r < 2 ∨ r = 2 ∨ r = 3 by omega) with q1 | q1 | q1
            · rw [um_at, if_neg (by omega), um_at, if_neg (by omega)]; exact g2 r q1
            · subst q1
              rw [um_at, if_neg (by omega), um_at, if_pos ⟨rfl, rfl, rfl⟩, hv, ← e24]
              exact e 24 0 y (by omega)
            · subst q1
              rw [um_at, if_pos ⟨rfl, rfl, rfl⟩, um_at, if_neg (by omega), g1 25 0 y (by omega)]
              exact e 25 0 y (by omega)
          refine ⟨iy, fun c => ?_, fun c => ?_⟩ <;> rw [cy, f1 26 0 y (by omega), e26] at c
          · exact t172 _ 0 (by rw [b2_0 c]; rfl) f1 f2
          · exact t172 _ 1 (by rw [b2_n0 c]; rfl) f1 f2
        have key : ∀ v : Int32, v = nI pl → vp_in (nI y) 48 ∧ vp_in v 520 ∧ vp_in (nI y) 48 ∧ vp_in (v + 1) 520 ∧ vp_in (nI y) 48 ∧ ((um (um M1 33 0 v.toNatClampNeg (M1.1 22 0 (nI y).toNatClampNeg)) 33 0 (v + 1).toNatClampNeg ((um M1 33 0 v.toNatClampNeg (M1.1 22 0 (nI y).toNatClampNeg)).1 23 0 (nI y).toNatClampNeg)).1 24 0 (nI y).toNatClampNeg = 0 → P 134 [some (vr 21 0), some (vi (nI q)), some (vi (nI (260 * q))), some (vi (nI y)), some (vi v)] [vi 0, vi (v + 2), vr 33 0] (um (um M1 33 0 v.toNatClampNeg (M1.1 22 0 (nI y).toNatClampNeg)) 33 0 (v + 1).toNatClampNeg ((um M1 33 0 v.toNatClampNeg (M1.1 22 0 (nI y).toNatClampNeg)).1 23 0 (nI y).toNatClampNeg))) ∧ (¬ (um (um M1 33 0 v.toNatClampNeg (M1.1 22 0 (nI y).toNatClampNeg)) 33 0 (v + 1).toNatClampNeg ((um M1 33 0 v.toNatClampNeg (M1.1 22 0 (nI y).toNatClampNeg)).1 23 0 (nI y).toNatClampNeg)).1 24 0 (nI y).toNatClampNeg = 0 → P 134 [some (vr 21 0), some (vi (nI q)), some (vi (nI (260 * q))), some (vi (nI y)), some (vi v)] [vi 1, vi (v + 2), vr 33 0] (um (um M1 33 0 v.toNatClampNeg (M1.1 22 0 (nI y).toNatClampNeg)) 33 0 (v + 1).toNatClampNeg ((um M1 33 0 v.toNatClampNeg (M1.1 22 0 (nI y).toNatClampNeg)).1 23 0 (nI y).toNatClampNeg))) := by
          intro v hv
          subst hv
          rw [e1, cl520 (x := pl) (by omega), cl520 (x := pl + 1) (by omega), cy]
          have f1 : ∀ a u x, ¬ (a = 33 ∧ u = 0 ∧ pl ≤ x ∧ x < pl + 2) → (um (um M1 33 0 pl (M1.1 22 0 y)) 33 0 (pl + 1) ((um M1 33 0 pl (M1.1 22 0 y)).1 23 0 y)).1 a u x = M1.1 a u x := fun a u x g => by rw [um_at, if_neg (by omega), um_at, if_neg (by omega)]
          have f2 : ∀ r, r < 2 → (um (um M1 33 0 pl (M1.1 22 0 y)) 33 0 (pl + 1) ((um M1 33 0 pl (M1.1 22 0 y)).1 23 0 y)).1 33 0 (pl + r) = M.1 (22 + r) 0 y := fun r hr1 => by
            rcases (show r = 0 ∨ r = 1 by omega) with q1 | q1
            · subst q1
              rw [um_at, if_neg (by omega), um_at, if_pos ⟨rfl, rfl, rfl⟩]
              exact e 22 0 y (by omega)
            · subst q1
              rw [um_at, if_pos ⟨rfl, rfl, rfl⟩, um_at, if_neg (by omega)]
              exact e 23 0 y (by omega)
          refine ⟨iy, in520 (by omega), iy, in520 (by omega), iy, fun c => ?_, fun c => ?_⟩ <;> rw [f1 24 0 y (by omega), e24] at c
          · exact t134 _ 0 (by rw [b2_0 c]; rfl) f1 f2
          · exact t134 _ 1 (by rw [b2_n0 c]; rfl) f1 f2
        refine go [(134, 5)] 99 _ _ _ _ ⟨fun c => absurd (by rw [e 21 0 0 (by omega), c2] at c; exact c) (nI_ge hyn (by omega)), fun _ => ?_⟩
        exact key _ (by rw [hpl]; exact ipl q y)
    -- the head
    have e3 : nI (260 * q) + 3 = nI (260 * q + 3) := nI_add (260 * q) 3
    have e2 : nI (260 * q) + 2 = nI (260 * q + 2) := nI_add (260 * q) 2
    have e1 : nI (260 * q) + 1 = nI (260 * q + 1) := nI_add (260 * q) 1
    have key : ∀ v : Int32, v = nI (260 * q) → vp_in v 520 ∧ vp_in (v + 1) 520 ∧ vp_in (v + 2) 520 ∧ vp_in (v + 3) 520 ∧ P 66 [some (vr 21 0), some (vi (nI q)), some (vi v), some (vi 0)] [] (um (um (um (um M 33 0 v.toNatClampNeg (M.1 21 0 0)) 33 0 (v + 1).toNatClampNeg ((um M 33 0 v.toNatClampNeg (M.1 21 0 0)).1 21 0 8)) 33 0 (v + 2).toNatClampNeg ((um (um M 33 0 v.toNatClampNeg (M.1 21 0 0)) 33 0 (v + 1).toNatClampNeg ((um M 33 0 v.toNatClampNeg (M.1 21 0 0)).1 21 0 8)).1 21 0 9)) 33 0 (v + 3).toNatClampNeg ((um (um (um M 33 0 v.toNatClampNeg (M.1 21 0 0)) 33 0 (v + 1).toNatClampNeg ((um M 33 0 v.toNatClampNeg (M.1 21 0 0)).1 21 0 8)) 33 0 (v + 2).toNatClampNeg ((um (um M 33 0 v.toNatClampNeg (M.1 21 0 0)) 33 0 (v + 1).toNatClampNeg ((um M 33 0 v.toNatClampNeg (M.1 21 0 0)).1 21 0 8)).1 21 0 9)).1 21 0 7)) := by
      intro v hv
      subst hv
      rw [e1, e2, e3, cl520 (x := 260 * q) (by omega), cl520 (x := 260 * q + 1) (by omega), cl520 (x := 260 * q + 2) (by omega), cl520 (x := 260 * q + 3) (by omega)]
      refine ⟨in520 (by omega), in520 (by omega), in520 (by omega), in520 (by omega), ?_⟩
      refine loop1 (hn W.1) 0 _ (by omega) (fun a u x g => by rw [um_at, if_neg (by omega), um_at, if_neg (by omega), um_at, if_neg (by omega), um_at, if_neg (by omega)]) ?_ ?_ ?_ ?_ (fun r x _ hx => absurd hx (Nat.not_lt_zero x))
      · simp [um_at]; exact c2
      · simp [um_at]; exact d8
      · simp [um_at]; exact d9
      · simp [um_at]; exact d7
    exact key _ (iat q)
  · rw [b2_0 c] at h
    exact h M hW (fun _ _ _ _ => rfl)
set_option maxRecDepth 20000 in
theorem m_back (hC : ClA C) (hW : MW W M) (hI : WI k W) {i : Int32} (h : ∀ M', MW (p_back W i).2 M' → FN M M' → Q (some (vi (p_back W i).1)) M') : C (d + 2) n_X7_goBack [vr 21 0, vi i] M Q := by
  refine hC.X7_goBack (d + 1) _ M Q (fun P go => ?_)
  refine go [(78, 4)] 199 _ _ _ _ ?_
  unfold p_back at h
  refine m_in hC ⟨fun c => ?_, fun c => ?_⟩
  rotate_left
  · rw [b2_0 c] at h
    exact h M hW (fun _ _ _ _ => rfl)
  have eb := b2_n0 c
  rw [eb] at h
  obtain ⟨hb1, -, hb2⟩ := btw_nat (lo := 0) (hi := 1) (by omega) (by omega) eb
  replace h : ∀ M', MW (cond (W.2.2.2 (jx i)).1 (nI (hn (W.2.2.2 (jx i)).2.1), ((W.2.2.2 (jx i)).2.1, (W.2.2.2 (jx i)).2.2, W.2.2.1, W.2.2.2)) (-1000000003, W)).2 M' → FN M M' → Q (some (vi (cond (W.2.2.2 (jx i)).1 (nI (hn (W.2.2.2 (jx i)).2.1), ((W.2.2.2 (jx i)).2.1, (W.2.2.2 (jx i)).2.2, W.2.2.1, W.2.2.2)) (-1000000003, W)).1)) M' := h
  generalize jx i = q at hb1 hb2 h
  subst hb1
  have iq : vp_in (nI q) 2 := vp_in_nI (by omega) (by omega)
  have cq : (nI q).toNatClampNeg = q := nI_clamp (by omega)
  refine ⟨iq, ?_⟩
  obtain ⟨i1, i2⟩ := hW.2.2.2.2 q (by omega)
  have hsame := hW
  obtain ⟨c1, c2, c3, ⟨n1, n2, n3⟩, c5⟩ := hW
  refine ⟨fun c => ?_, fun c => ?_⟩ <;> rw [cq, i1] at c
  rotate_left
  · rw [b2_0 c] at h
    exact h M hsame (fun _ _ _ _ => rfl)
  have ek := b2_n0 c
  rw [ek] at h
  obtain ⟨a0, a1, a2, a3, ⟨j1, j2, j3⟩, a5⟩ := i2 ek
  have hIA := (hI.2.2.2 q (by omega) ek).1
  have h40 := hIA.2.2.2.2.2.2.1
  generalize hAA : (W.2.2.2 q).2.1 = A at *
  generalize hBB : (W.2.2.2 q).2.2 = B at *
  replace h : ∀ M', MW (A, B, W.2.2.1, W.2.2.2) M' → FN M M' → Q (some (vi (nI (hn A)))) M' := h
  -- the end
  have fr : ∀ (M1 : AM), (∀ a u x, ¬ (a = 21 ∧ u = 0 ∧ (x = 0 ∨ x = 7 ∨ x = 8 ∨ x = 9)) → ¬ (22 ≤ a ∧ a ≤ 28) → M1.1 a u x = M.1 a u x) → M1.1 21 0 0 = nI (hn A) → M1.1 21 0 8 = nI (lk A) → M1.1 21 0 9 = nI (ct A) → M1.1 21 0 7 = nI (lk A) → (∀ r x, r < 6 → x < hn A → M1.1 (22 + r) 0 x = M.1 33 0 (260 * q + 4 + 6 * x + r)) → (∀ j, j < 16 → M1.1 28 0 j = B j) → Q (some (vi (M1.1 21 0 0))) M1 := by
    intro M1 e h0 h1 h2 h3 hr hb
    rw [h0]
    refine h _ ⟨⟨?_, ?_, ?_, (show 0 + hn A ≤ 48 by omega), ⟨fun j hj => ?_, fun p => ?_, fun p z hz => ?_⟩⟩, h0, hb, ⟨?_, ?_, ?_⟩, fun x hx => ?_⟩ (fun a u x ha => e a u x (by omega) (by omega))
    · rw [Nat.zero_add]; exact h3
    · rw [Nat.zero_add]; exact h1
    · rw [Nat.zero_add]; exact h2
    · show M1.1 (22 + 0) 0 (0 + j) = _ ∧ M1.1 (22 + 1) 0 (0 + j) = _ ∧ M1.1 (22 + 2) 0 (0 + j) = _ ∧ M1.1 (22 + 3) 0 (0 + j) = _ ∧ M1.1 (22 + 4) 0 (0 + j) = _
      rw [Nat.zero_add, hr 0 j (by omega) hj, hr 1 j (by omega) hj, hr 2 j (by omega) hj, hr 3 j (by omega) hj, hr 4 j (by omega) hj]
      have := j1 j hj
      simpa using this
    · refine List.Pairwise.imp_of_mem (fun {y z} hy hz hyz => ?_) (j2 p)
      show (M1.1 (22 + 5) 0 (0 + y)).toInt < (M1.1 (22 + 5) 0 (0 + z)).toInt
      rw [Nat.zero_add, Nat.zero_add, hr 5 y (by omega) (kid_lt hIA hy).1, hr 5 z (by omega) (kid_lt hIA hz).1]
      simpa using hyz
    · show (M1.1 (22 + 5) 0 (0 + z)).toInt < _
      rw [Nat.zero_add, hr 5 z (by omega) (kid_lt hIA hz).1]
      have := j3 p z hz
      simpa using this
    · rw [e 21 0 13 (by omega) (by omega)]; exact n1
    · rw [e 21 0 14 (by omega) (by omega)]; exact n2
    · intro x hx; rw [e 29 0 x (by omega) (by omega), e 30 0 x (by omega) (by omega), e 31 0 x (by omega) (by omega)]; exact n3 x hx
    · have e33 : ∀ x, M1.1 33 0 x = M.1 33 0 x := fun x => e 33 0 x (by omega) (by omega)
      have := c5 x hx
      unfold IW at this ⊢
      simp only [e33, e 34 0 x (by omega) (by omega)]
      exact this
  -- the bench
  have loop2 : ∀ f y (M1 : AM), y + f = 16 → (∀ a u x, ¬ (a = 21 ∧ u = 0 ∧ (x = 0 ∨ x = 7 ∨ x = 8 ∨ x = 9)) → ¬ (22 ≤ a ∧ a ≤ 28) → M1.1 a u x = M.1 a u x) → M1.1 21 0 0 = nI (hn A) → M1.1 21 0 8 = nI (lk A) → M1.1 21 0 9 = nI (ct A) → M1.1 21 0 7 = nI (lk A) → (∀ r x, r < 6 → x < hn A → M1.1 (22 + r) 0 x = M.1 33 0 (260 * q + 4 + 6 * x + r)) → (∀ j, j < y → M1.1 28 0 j = B j) → P 210 [some (vr 21 0), some (vi (nI q)), some (vi (nI (260 * q))), some (vi (nI y))] [] M1 := by
    intro f
    induction f with
    | zero =>
      intro y M1 hy e h0 h1 h2 h3 hr hb
      have ey : y = 16 := by omega
      subst ey
      refine go [] 99 _ _ _ _ ⟨fun _ => ?_, fun c => absurd (nI_le (a := 16) (b := 16) (Nat.le_refl _) (by omega)) c⟩
      exact fr M1 e h0 h1 h2 h3 hr hb
    | succ f ih =>
      intro y M1 hy e h0 h1 h2 h3 hr hb
      have hy16 : y < 16 := by omega
      have cy : (nI y).toNatClampNeg = y := nI_clamp (by omega)
      have iy : vp_in (nI y) 16 := vp_in_nI hy16 (by omega)
      have key : ∀ v : Int32, v = nI (260 * q + 244 + y) → vp_in v 520 ∧ vp_in (nI y) 16 ∧ P 210 [some (vr 21 0), some (vi (nI q)), some (vi (nI (260 * q))), some (vi (nI y + 1))] [] (um M1 28 0 (nI y).toNatClampNeg (M1.1 33 0 v.toNatClampNeg)) := by
        intro v hv
        subst hv
        rw [cl520 (x := 260 * q + 244 + y) (by omega), cy]
        refine ⟨in520 (by omega), iy, ?_⟩
        have := ih (y + 1) (um M1 28 0 y (M1.1 33 0 (260 * q + 244 + y))) (by omega) (fun a u x g g2 => by rw [um_at, if_neg (by omega)]; exact e a u x g g2) (by rw [um_at, if_neg (by omega)]; exact h0) (by rw [um_at, if_neg (by omega)]; exact h1) (by rw [um_at, if_neg (by omega)]; exact h2) (by rw [um_at, if_neg (by omega)]; exact h3) (fun r x g1 g2 => by rw [um_at, if_neg (by omega)]; exact hr r x g1 g2) (fun j hj => by
          rw [um_at]
          by_cases ej : j = y
          · subst ej
            rw [if_pos ⟨rfl, rfl, rfl⟩, e 33 0 _ (by omega) (by omega)]
            exact a5 j hy16
          · rw [if_neg (by omega)]; exact hb j (by omega))
        rw [← nI_1] at this
        exact this
      refine go [(210, 4)] 99 _ _ _ _ ⟨fun c => absurd c (nI_ge (b := 16) hy16 (by omega)), fun _ => ?_⟩
      exact key _ (ibn q y)
  -- the jobs
  have loop1 : ∀ f y (M1 : AM), y + f = hn A → (∀ a u x, ¬ (a = 21 ∧ u = 0 ∧ (x = 0 ∨ x = 7 ∨ x = 8 ∨ x = 9)) → ¬ (22 ≤ a ∧ a ≤ 28) → M1.1 a u x = M.1 a u x) → M1.1 21 0 0 = nI (hn A) → M1.1 21 0 8 = nI (lk A) → M1.1 21 0 9 = nI (ct A) → M1.1 21 0 7 = nI (lk A) → (∀ r x, r < 6 → x < y → M1.1 (22 + r) 0 x = M.1 33 0 (260 * q + 4 + 6 * x + r)) → P 78 [some (vr 21 0), some (vi (nI q)), some (vi (nI (260 * q))), some (vi (nI y))] [] M1 := by
    intro f
    induction f with
    | zero =>
      intro y M1 hy e h0 h1 h2 h3 hr
      have ey : y = hn A := by omega
      subst ey
      refine go [(210, 4)] 99 _ _ _ _ ⟨fun _ => ?_, fun c => absurd (by rw [h0]; exact nI_le (Nat.le_refl _) (by omega)) c⟩
      exact loop2 16 0 M1 (by omega) e h0 h1 h2 h3 hr (fun j hj => absurd hj (Nat.not_lt_zero j))
    | succ f ih =>
      intro y M1 hy e h0 h1 h2 h3 hr
      have hyn : y < hn A := by omega
      have cy : (nI y).toNatClampNeg = y := nI_clamp (by omega)
      have iy : vp_in (nI y) 48 := in48 (by omega)
      obtain ⟨pl, hpl⟩ : ∃ pl, pl = 260 * q + 4 + 6 * y := ⟨_, rfl⟩
      have e24 : M.1 33 0 (pl + 2) = b2 (hs A y) := by
        have := (j1 y hyn).2.2.1
        rw [hpl]
        simpa using this
      have e26 : M.1 33 0 (pl + 4) = b2 (hl A y) := by
        have := (j1 y hyn).2.2.2.2
        rw [hpl]
        simpa using this
      have e5 : nI pl + 5 = nI (pl + 5) := nI_add pl 5
      have e4 : nI pl + 4 = nI (pl + 4) := nI_add pl 4
      have e3 : nI pl + 3 = nI (pl + 3) := nI_add pl 3
      have e2 : nI pl + 2 = nI (pl + 2) := nI_add pl 2
      have e1 : nI pl + 1 = nI (pl + 1) := nI_add pl 1
      have i1' : ∀ r, r < 6 → vp_in (nI (pl + r)) 520 := fun r hr => in520 (by omega)
      have cl' : ∀ r, r < 6 → (nI (pl + r)).toNatClampNeg = pl + r := fun r hr => cl520 (by omega)
      have last : ∀ M2, (∀ a u x, ¬ (22 ≤ a ∧ a ≤ 27 ∧ u = 0 ∧ x = y) → M2.1 a u x = M1.1 a u x) → (∀ r, r < 6 → M2.1 (22 + r) 0 y = M.1 33 0 (pl + r)) → P 78 [some (vr 21 0), some (vi (nI q)), some (vi (nI (260 * q))), some (vi (nI y + 1))] [] M2 := by
        intro M2 g1 g2
        have := ih (y + 1) M2 (by omega) (fun a u x g g' => by rw [g1 a u x (by omega)]; exact e a u x g g') (by rw [g1 21 0 _ (by omega)]; exact h0) (by rw [g1 21 0 _ (by omega)]; exact h1) (by rw [g1 21 0 _ (by omega)]; exact h2) (by rw [g1 21 0 _ (by omega)]; exact h3) (fun r x hr1 hx => by
          by_cases ex : x = y
          · subst ex
            rw [← hpl]
            exact g2 r hr1
          · rw [g1 _ 0 _ (by omega)]
            exact hr r x hr1 (by omega))
        rw [← nI_1] at this
        exact this
      have t186 : ∀ (M2 : AM) (v : Int32), bz v = b2 (hl A y) → (∀ a u x, ¬ (22 ≤ a ∧ a ≤ 27 ∧ u = 0 ∧ x = y) → M2.1 a u x = M1.1 a u x) → (∀ r, r < 4 → M2.1 (22 + r) 0 y = M.1 33 0 (pl + r)) → P 186 [some (vr 21 0), some (vi (nI q)), some (vi (nI (260 * q))), some (vi (nI y)), some (vi (nI pl))] [vi v, vi (nI y), vr 26 0] M2 := by
        intro M2 v hv g1 g2
        refine go [(78, 4)] 99 _ _ _ _ ⟨iy, ?_⟩
        refine ⟨by rw [e5]; exact i1' 5 (by omega), iy, ?_⟩
        rw [e5, cl' 5 (by omega), cy]
        refine last _ (fun a u x g => by rw [um_at, if_neg (by omega), um_at, if_neg (by omega)]; exact g1 a u x (by omega)) (fun r hr1 => ?_)
        rcases (show r < 4 ∨ r = 4 ∨ r = 5 by omega) with q1 | q1 | q1
        · rw [um_at, if_neg (by omega), um_at, if_neg (by omega)]; exact g2 r q1
        · subst q1
          rw [um_at, if_neg (by omega), um_at, if_pos ⟨rfl, rfl, rfl⟩, hv, e26]
        · subst q1
          rw [um_at, if_pos ⟨rfl, rfl, rfl⟩, um_at, if_neg (by omega), g1 33 0 _ (by omega)]
          exact e 33 0 _ (by omega) (by omega)
      have t147 : ∀ (M2 : AM) (v : Int32), bz v = b2 (hs A y) → (∀ a u x, ¬ (22 ≤ a ∧ a ≤ 27 ∧ u = 0 ∧ x = y) → M2.1 a u x = M1.1 a u x) → (∀ r, r < 2 → M2.1 (22 + r) 0 y = M.1 33 0 (pl + r)) → P 147 [some (vr 21 0), some (vi (nI q)), some (vi (nI (260 * q))), some (vi (nI y)), some (vi (nI pl))] [vi v, vi (nI y), vr 24 0] M2 := by
        intro M2 v hv g1 g2
        refine go [(186, 5)] 99 _ _ _ _ ⟨iy, ?_⟩
        refine ⟨by rw [e3]; exact i1' 3 (by omega), iy, ?_⟩
        refine ⟨by rw [e4]; exact i1' 4 (by omega), ?_⟩
        rw [e3, e4, cl' 3 (by omega), cl' 4 (by omega), cy]
        have f1 : ∀ a u x, ¬ (22 ≤ a ∧ a ≤ 27 ∧ u = 0 ∧ x = y) → (um (um M2 24 0 y (bz v)) 25 0 y ((um M2 24 0 y (bz v)).1 33 0 (pl + 3))).1 a u x = M1.1 a u x := fun a u x g => by rw [um_at, if_neg (by omega), um_at, if_neg (by omega)]; exact g1 a u x (by omega)
        have f2 : ∀ r, r < 4 → (um (um M2 24 0 y (bz v)) 25 0 y ((um M2 24 0 y (bz v)).1 33 0 (pl + 3))).1 (22 + r) 0 y = M.1 33 0 (pl + r) := fun r hr1 => by
          rcases (show r < 2 ∨ r = 2 ∨ r = 3 by omega) with q1 | q1 | q1
          · rw [um_at, if_neg (by omega), um_at, if_neg (by omega)]; exact g2 r q1
          · subst q1
            rw [um_at, if_neg (by omega), um_at, if_pos ⟨rfl, rfl, rfl⟩, hv, e24]
          · subst q1
            rw [um_at, if_pos ⟨rfl, rfl, rfl⟩, um_at, if_neg (by omega), g1 33 0 _ (by omega)]
            exact e 33 0 _ (by omega) (by omega)
        have ev : (um (um M2 24 0 y (bz v)) 25 0 y ((um M2 24 0 y (bz v)).1 33 0 (pl + 3))).1 33 0 (pl + 4) = b2 (hl A y) := by
          rw [f1 33 0 _ (by omega), e 33 0 _ (by omega) (by omega), e26]
        refine ⟨fun c => ?_, fun c => ?_⟩ <;> rw [ev] at c
        · exact t186 _ 0 (by revert c; cases hl A y <;> intro c <;> first | rfl | exact absurd rfl c) f1 f2
        · exact t186 _ 1 (by revert c; cases hl A y <;> intro c <;> first | rfl | exact absurd (by decide) c | exact absurd c (by decide)) f1 f2
      have key : ∀ v : Int32, v = nI pl → vp_in v 520 ∧ vp_in (nI y) 48 ∧ vp_in (v + 1) 520 ∧ vp_in (nI y) 48 ∧ vp_in (v + 2) 520 ∧ ((um (um M1 22 0 (nI y).toNatClampNeg (M1.1 33 0 v.toNatClampNeg)) 23 0 (nI y).toNatClampNeg ((um M1 22 0 (nI y).toNatClampNeg (M1.1 33 0 v.toNatClampNeg)).1 33 0 (v + 1).toNatClampNeg)).1 33 0 (v + 2).toNatClampNeg ≠ 1 → P 147 [some (vr 21 0), some (vi (nI q)), some (vi (nI (260 * q))), some (vi (nI y)), some (vi v)] [vi 0, vi (nI y), vr 24 0] (um (um M1 22 0 (nI y).toNatClampNeg (M1.1 33 0 v.toNatClampNeg)) 23 0 (nI y).toNatClampNeg ((um M1 22 0 (nI y).toNatClampNeg (M1.1 33 0 v.toNatClampNeg)).1 33 0 (v + 1).toNatClampNeg))) ∧ ((um (um M1 22 0 (nI y).toNatClampNeg (M1.1 33 0 v.toNatClampNeg)) 23 0 (nI y).toNatClampNeg ((um M1 22 0 (nI y).toNatClampNeg (M1.1 33 0 v.toNatClampNeg)).1 33 0 (v + 1).toNatClampNeg)).1 33 0 (v + 2).toNatClampNeg = 1 → P 147 [some (vr 21 0), some (vi (nI q)), some (vi (nI (260 * q))), some (vi (nI y)), some (vi v)] [vi 1, vi (nI y), vr 24 0] (um (um M1 22 0 (nI y).toNatClampNeg (M1.1 33 0 v.toNatClampNeg)) 23 0 (nI y).toNatClampNeg ((um M1 22 0 (nI y).toNatClampNeg (M1.1 33 0 v.toNatClampNeg)).1 33 0 (v + 1).toNatClampNeg))) := by
        intro v hv
        subst hv
        rw [e1, e2, cl' 1 (by omega), cl' 2 (by omega), cl520 (x := pl) (by omega), cy]
        have f1 : ∀ a u x, ¬ (22 ≤ a ∧ a ≤ 27 ∧ u = 0 ∧ x = y) → (um (um M1 22 0 y (M1.1 33 0 pl)) 23 0 y ((um M1 22 0 y (M1.1 33 0 pl)).1 33 0 (pl + 1))).1 a u x = M1.1 a u x := fun a u x g => by rw [um_at, if_neg (by omega), um_at, if_neg (by omega)]
        have f2 : ∀ r, r < 2 → (um (um M1 22 0 y (M1.1 33 0 pl)) 23 0 y ((um M1 22 0 y (M1.1 33 0 pl)).1 33 0 (pl + 1))).1 (22 + r) 0 y = M.1 33 0 (pl + r) := fun r hr1 => by
          rcases (show r = 0 ∨ r = 1 by omega) with q1 | q1
          · subst q1
            rw [um_at, if_neg (by omega), um_at, if_pos ⟨rfl, rfl, rfl⟩]
            exact e 33 0 _ (by omega) (by omega)
          · subst q1
            rw [um_at, if_pos ⟨rfl, rfl, rfl⟩, um_at, if_neg (by omega)]
            exact e 33 0 _ (by omega) (by omega)
        have ev : (um (um M1 22 0 y (M1.1 33 0 pl)) 23 0 y ((um M1 22 0 y (M1.1 33 0 pl)).1 33 0 (pl + 1))).1 33 0 (pl + 2) = b2 (hs A y) := by
          rw [f1 33 0 _ (by omega), e 33 0 _ (by omega) (by omega), e24]
        refine ⟨in520 (by omega), iy, i1' 1 (by omega), iy, i1' 2 (by omega), fun c => ?_, fun c => ?_⟩ <;> rw [ev] at c
        · exact t147 _ 0 (by revert c; cases hs A y <;> intro c <;> first | rfl | exact absurd rfl c) f1 f2
        · exact t147 _ 1 (by revert c; cases hs A y <;> intro c <;> first | rfl | exact absurd (by decide) c | exact absurd c (by decide)) f1 f2
      refine go [(147, 5)] 99 _ _ _ _ ⟨fun c => absurd (by rw [h0] at c; exact c) (nI_ge hyn (by omega)), fun _ => ?_⟩
      exact key _ (by rw [hpl]; exact ipl q y)
  -- the head
  have e3 : nI (260 * q) + 3 = nI (260 * q + 3) := nI_add (260 * q) 3
  have e2 : nI (260 * q) + 2 = nI (260 * q + 2) := nI_add (260 * q) 2
  have e1 : nI (260 * q) + 1 = nI (260 * q + 1) := nI_add (260 * q) 1
  have key : ∀ v : Int32, v = nI (260 * q) → vp_in v 520 ∧ vp_in (v + 1) 520 ∧ vp_in (v + 2) 520 ∧ vp_in (v + 3) 520 ∧ P 78 [some (vr 21 0), some (vi (nI q)), some (vi v), some (vi 0)] [] (um (um (um (um M 21 0 0 (M.1 33 0 v.toNatClampNeg)) 21 0 8 ((um M 21 0 0 (M.1 33 0 v.toNatClampNeg)).1 33 0 (v + 1).toNatClampNeg)) 21 0 9 ((um (um M 21 0 0 (M.1 33 0 v.toNatClampNeg)) 21 0 8 ((um M 21 0 0 (M.1 33 0 v.toNatClampNeg)).1 33 0 (v + 1).toNatClampNeg)).1 33 0 (v + 2).toNatClampNeg)) 21 0 7 ((um (um (um M 21 0 0 (M.1 33 0 v.toNatClampNeg)) 21 0 8 ((um M 21 0 0 (M.1 33 0 v.toNatClampNeg)).1 33 0 (v + 1).toNatClampNeg)) 21 0 9 ((um (um M 21 0 0 (M.1 33 0 v.toNatClampNeg)) 21 0 8 ((um M 21 0 0 (M.1 33 0 v.toNatClampNeg)).1 33 0 (v + 1).toNatClampNeg)).1 33 0 (v + 2).toNatClampNeg)).1 33 0 (v + 3).toNatClampNeg)) := by
    intro v hv
    subst hv
    rw [e1, e2, e3, cl520 (x := 260 * q) (by omega), cl520 (x := 260 * q + 1) (by omega), cl520 (x := 260 * q + 2) (by omega), cl520 (x := 260 * q + 3) (by omega)]
    refine ⟨in520 (by omega), in520 (by omega), in520 (by omega), in520 (by omega), ?_⟩
    refine loop1 (hn A) 0 _ (by omega) (fun a u x g _ => by rw [um_at, if_neg (by omega), um_at, if_neg (by omega), um_at, if_neg (by omega), um_at, if_neg (by omega)]) ?_ ?_ ?_ ?_ (fun r x _ hx => absurd hx (Nat.not_lt_zero x))
    · simp [um_at]; exact a0
    · simp [um_at]; exact a1
    · simp [um_at]; exact a2
    · simp [um_at]; exact a3
  exact key _ (iat q)
end MIMG

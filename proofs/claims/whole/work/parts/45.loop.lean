/-! THE LAW's LOOP -/
section LOOP
variable {C : Nat → CP} {sl k : Nat} {xs : Nat → Int32} {P : KP} {Q : RP} {W : WS} {M : AM}
theorem li1 (hsl : sl ≤ 2048) (hle : 4 * k + 4 ≤ sl) : vp_in (nI (4 * k) + 1) sl := by rw [nI_1]; exact vp_in_nI (by omega) (by omega)
theorem li2 (hsl : sl ≤ 2048) (hle : 4 * k + 4 ≤ sl) : vp_in (nI (4 * k) + 2) sl := by rw [show nI (4 * k) + 2 = nI (4 * k + 2) from nI_add _ 2]; exact vp_in_nI (by omega) (by omega)
theorem li3 (hsl : sl ≤ 2048) (hle : 4 * k + 4 ≤ sl) : vp_in (nI (4 * k) + 3) sl := by rw [show nI (4 * k) + 3 = nI (4 * k + 3) from nI_add _ 3]; exact vp_in_nI (by omega) (by omega)
set_option maxRecDepth 20000 in
theorem lw_132 (hC : ClA C) (hsl : sl ≤ 2048) (go : Go (tb_law sl xs) (C 8) Q P) (hk : k ≤ 512) (hI : WI k W) (hc : CW W M) (hm : MW W M) (hle : 4 * k + 4 ≤ sl) (nxt : ∀ W' M', WI (k + 1) W' → CW W' M' → MW W' M' → P 18 [some (vr 35 0), some (vr 0 0), some (vr 21 0), some (vi (nI (4 * k) + 4))] [] M') : P 132 [some (vr 35 0), some (vr 0 0), some (vr 21 0), some (vi (nI (4 * k)))] [] M := by
  have i1 := li1 hsl hle
  have i2 := li2 hsl hle
  have i3 := li3 hsl hle
  have hm' := wi_mono hI
  refine go [(18, 4)] 99 _ _ _ _ ?_
  exact ⟨i1, i2, c_put (d := 5) hC hc hI (fun M1 w1 f1 => ⟨i1, i2, m_put (d := 6) hC (MW_FC hm f1) hI (fun M2 w2 f2 => ⟨fun _ => nxt _ M2 (wi_put hI _ _) (CW_FN w1 f2) w2, fun c => absurd rfl c⟩)⟩)⟩
set_option maxRecDepth 20000 in
theorem lw_165 (hC : ClA C) (hsl : sl ≤ 2048) (go : Go (tb_law sl xs) (C 8) Q P) (hk : k ≤ 512) (hI : WI k W) (hc : CW W M) (hm : MW W M) (hle : 4 * k + 4 ≤ sl) (nxt : ∀ W' M', WI (k + 1) W' → CW W' M' → MW W' M' → P 18 [some (vr 35 0), some (vr 0 0), some (vr 21 0), some (vi (nI (4 * k) + 4))] [] M') : P 165 [some (vr 35 0), some (vr 0 0), some (vr 21 0), some (vi (nI (4 * k)))] [] M := by
  have i1 := li1 hsl hle
  have i2 := li2 hsl hle
  have i3 := li3 hsl hle
  have hm' := wi_mono hI
  refine go [(18, 4)] 99 _ _ _ _ ?_
  exact ⟨i1, i2, c_lower (d := 3) hC hc hI (fun M1 w1 f1 => ⟨i1, i2, m_lower (d := 2) hC (MW_FC hm f1) hI hk (fun M2 w2 f2 => ⟨fun _ => nxt _ M2 (wi_lower hI _ _) (CW_FN w1 f2) w2, fun c => absurd rfl c⟩)⟩)⟩
set_option maxRecDepth 20000 in
theorem lw_198 (hC : ClA C) (hsl : sl ≤ 2048) (go : Go (tb_law sl xs) (C 8) Q P) (hk : k ≤ 512) (hI : WI k W) (hc : CW W M) (hm : MW W M) (hle : 4 * k + 4 ≤ sl) (nxt : ∀ W' M', WI (k + 1) W' → CW W' M' → MW W' M' → P 18 [some (vr 35 0), some (vr 0 0), some (vr 21 0), some (vi (nI (4 * k) + 4))] [] M') : P 198 [some (vr 35 0), some (vr 0 0), some (vr 21 0), some (vi (nI (4 * k)))] [] M := by
  have i1 := li1 hsl hle
  have i2 := li2 hsl hle
  have i3 := li3 hsl hle
  have hm' := wi_mono hI
  refine go [(18, 4)] 99 _ _ _ _ ?_
  exact c_take (d := 3) hC hc hI (fun M1 w1 f1 => m_take (d := 2) hC (MW_FC hm f1) hI hk (fun M2 w2 f2 => ⟨fun _ => nxt _ M2 (wi_take hI) (CW_FN w1 f2) w2, fun c => absurd rfl c⟩))
set_option maxRecDepth 20000 in
theorem lw_211 (hC : ClA C) (hsl : sl ≤ 2048) (go : Go (tb_law sl xs) (C 8) Q P) (hk : k ≤ 512) (hI : WI k W) (hc : CW W M) (hm : MW W M) (hle : 4 * k + 4 ≤ sl) (nxt : ∀ W' M', WI (k + 1) W' → CW W' M' → MW W' M' → P 18 [some (vr 35 0), some (vr 0 0), some (vr 21 0), some (vi (nI (4 * k) + 4))] [] M') : P 211 [some (vr 35 0), some (vr 0 0), some (vr 21 0), some (vi (nI (4 * k)))] [] M := by
  have i1 := li1 hsl hle
  have i2 := li2 hsl hle
  have i3 := li3 hsl hle
  have hm' := wi_mono hI
  refine go [(18, 4)] 99 _ _ _ _ ?_
  exact ⟨i1, c_drop (d := 3) hC hc hI (fun M1 w1 f1 => ⟨i1, m_drop (d := 2) hC (MW_FC hm f1) hI hk (fun M2 w2 f2 => ⟨fun _ => nxt _ M2 (wi_drop hI _) (CW_FN w1 f2) w2, fun c => absurd rfl c⟩)⟩)⟩
set_option maxRecDepth 20000 in
theorem lw_234 (hC : ClA C) (hsl : sl ≤ 2048) (go : Go (tb_law sl xs) (C 8) Q P) (hk : k ≤ 512) (hI : WI k W) (hc : CW W M) (hm : MW W M) (hle : 4 * k + 4 ≤ sl) (nxt : ∀ W' M', WI (k + 1) W' → CW W' M' → MW W' M' → P 18 [some (vr 35 0), some (vr 0 0), some (vr 21 0), some (vi (nI (4 * k) + 4))] [] M') : P 234 [some (vr 35 0), some (vr 0 0), some (vr 21 0), some (vi (nI (4 * k)))] [] M := by
  have i1 := li1 hsl hle
  have i2 := li2 hsl hle
  have i3 := li3 hsl hle
  have hm' := wi_mono hI
  refine go [(18, 4)] 99 _ _ _ _ ?_
  exact c_join (d := 4) hC hc hI (fun M1 w1 f1 => m_join (d := 3) hC (MW_FC hm f1) hI hk (fun M2 w2 f2 => ⟨fun _ => nxt _ M2 (wi_join hI) (CW_FN w1 f2) w2, fun c => absurd rfl c⟩))
set_option maxRecDepth 20000 in
theorem lw_247 (hC : ClA C) (hsl : sl ≤ 2048) (go : Go (tb_law sl xs) (C 8) Q P) (hk : k ≤ 512) (hI : WI k W) (hc : CW W M) (hm : MW W M) (hle : 4 * k + 4 ≤ sl) (nxt : ∀ W' M', WI (k + 1) W' → CW W' M' → MW W' M' → P 18 [some (vr 35 0), some (vr 0 0), some (vr 21 0), some (vi (nI (4 * k) + 4))] [] M') : P 247 [some (vr 35 0), some (vr 0 0), some (vr 21 0), some (vi (nI (4 * k)))] [] M := by
  have i1 := li1 hsl hle
  have i2 := li2 hsl hle
  have i3 := li3 hsl hle
  have hm' := wi_mono hI
  refine go [(18, 4)] 99 _ _ _ _ ?_
  exact c_clear (d := 5) hC hc (fun M1 w1 f1 => m_clear (d := 7) hC (MW_FC hm f1) (fun M2 w2 f2 => ⟨fun _ => nxt _ M2 (wi_clear hI) (CW_FN w1 f2) w2, fun c => absurd rfl c⟩))
set_option maxRecDepth 20000 in
theorem lw_260 (hC : ClA C) (hsl : sl ≤ 2048) (go : Go (tb_law sl xs) (C 8) Q P) (hk : k ≤ 512) (hI : WI k W) (hc : CW W M) (hm : MW W M) (hle : 4 * k + 4 ≤ sl) (nxt : ∀ W' M', WI (k + 1) W' → CW W' M' → MW W' M' → P 18 [some (vr 35 0), some (vr 0 0), some (vr 21 0), some (vi (nI (4 * k) + 4))] [] M') : P 260 [some (vr 35 0), some (vr 0 0), some (vr 21 0), some (vi (nI (4 * k)))] [] M := by
  have i1 := li1 hsl hle
  have i2 := li2 hsl hle
  have i3 := li3 hsl hle
  have hm' := wi_mono hI
  refine go [(18, 4)] 99 _ _ _ _ ?_
  exact ⟨i1, i2, c_drift (d := 1) hC hc hI (fun M1 w1 f1 => ⟨i1, i2, m_drift (d := 1) hC (MW_FC hm f1) hI hk (fun M2 w2 f2 => ⟨fun _ => nxt _ M2 (wi_drift hI _ _) (CW_FN w1 f2) w2, fun c => absurd rfl c⟩)⟩)⟩
set_option maxRecDepth 20000 in
theorem lw_293 (hC : ClA C) (hsl : sl ≤ 2048) (go : Go (tb_law sl xs) (C 8) Q P) (hk : k ≤ 512) (hI : WI k W) (hc : CW W M) (hm : MW W M) (hle : 4 * k + 4 ≤ sl) (nxt : ∀ W' M', WI (k + 1) W' → CW W' M' → MW W' M' → P 18 [some (vr 35 0), some (vr 0 0), some (vr 21 0), some (vi (nI (4 * k) + 4))] [] M') : P 293 [some (vr 35 0), some (vr 0 0), some (vr 21 0), some (vi (nI (4 * k)))] [] M := by
  have i1 := li1 hsl hle
  have i2 := li2 hsl hle
  have i3 := li3 hsl hle
  have hm' := wi_mono hI
  refine go [(18, 4)] 99 _ _ _ _ ?_
  exact ⟨i1, c_told (d := 5) hC hc hI ⟨i1, m_told (d := 5) hC hm hI (fun M2 w2 f2 => ⟨fun _ => nxt _ M2 hm' (CW_FN hc f2) w2, fun c => absurd rfl c⟩)⟩⟩
set_option maxRecDepth 20000 in
theorem lw_316 (hC : ClA C) (hsl : sl ≤ 2048) (go : Go (tb_law sl xs) (C 8) Q P) (hk : k ≤ 512) (hI : WI k W) (hc : CW W M) (hm : MW W M) (hle : 4 * k + 4 ≤ sl) (nxt : ∀ W' M', WI (k + 1) W' → CW W' M' → MW W' M' → P 18 [some (vr 35 0), some (vr 0 0), some (vr 21 0), some (vi (nI (4 * k) + 4))] [] M') : P 316 [some (vr 35 0), some (vr 0 0), some (vr 21 0), some (vi (nI (4 * k)))] [] M := by
  have i1 := li1 hsl hle
  have i2 := li2 hsl hle
  have i3 := li3 hsl hle
  have hm' := wi_mono hI
  refine go [(18, 4)] 99 _ _ _ _ ?_
  exact ⟨i1, i2, c_job (d := 5) hC hc hI ⟨i1, i2, m_job (d := 5) hC hm hI (fun M2 w2 f2 => ⟨fun _ => nxt _ M2 hm' (CW_FN hc f2) w2, fun c => absurd rfl c⟩)⟩⟩
set_option maxRecDepth 20000 in
theorem lw_349 (hC : ClA C) (hsl : sl ≤ 2048) (go : Go (tb_law sl xs) (C 8) Q P) (hk : k ≤ 512) (hI : WI k W) (hc : CW W M) (hm : MW W M) (hle : 4 * k + 4 ≤ sl) (nxt : ∀ W' M', WI (k + 1) W' → CW W' M' → MW W' M' → P 18 [some (vr 35 0), some (vr 0 0), some (vr 21 0), some (vi (nI (4 * k) + 4))] [] M') : P 349 [some (vr 35 0), some (vr 0 0), some (vr 21 0), some (vi (nI (4 * k)))] [] M := by
  have i1 := li1 hsl hle
  have i2 := li2 hsl hle
  have i3 := li3 hsl hle
  have hm' := wi_mono hI
  refine go [(18, 4)] 99 _ _ _ _ ?_
  exact ⟨i1, i2, c_child (d := 6) hC hc hI ⟨i1, i2, m_child (d := 5) hC hm hI (fun M2 w2 f2 => ⟨fun _ => nxt _ M2 hm' (CW_FN hc f2) w2, fun c => absurd rfl c⟩)⟩⟩
set_option maxRecDepth 20000 in
theorem lw_382 (hC : ClA C) (hsl : sl ≤ 2048) (go : Go (tb_law sl xs) (C 8) Q P) (hk : k ≤ 512) (hI : WI k W) (hc : CW W M) (hm : MW W M) (hle : 4 * k + 4 ≤ sl) (nxt : ∀ W' M', WI (k + 1) W' → CW W' M' → MW W' M' → P 18 [some (vr 35 0), some (vr 0 0), some (vr 21 0), some (vi (nI (4 * k) + 4))] [] M') : P 382 [some (vr 35 0), some (vr 0 0), some (vr 21 0), some (vi (nI (4 * k)))] [] M := by
  have i1 := li1 hsl hle
  have i2 := li2 hsl hle
  have i3 := li3 hsl hle
  have hm' := wi_mono hI
  refine go [(18, 4)] 99 _ _ _ _ ?_
  exact ⟨i1, c_loose (d := 6) hC hc ⟨i1, m_loose (d := 5) hC hm hI (fun M2 w2 f2 => ⟨fun _ => nxt _ M2 hm' (CW_FN hc f2) w2, fun c => absurd rfl c⟩)⟩⟩
set_option maxRecDepth 20000 in
theorem lw_405 (hC : ClA C) (hsl : sl ≤ 2048) (go : Go (tb_law sl xs) (C 8) Q P) (hk : k ≤ 512) (hI : WI k W) (hc : CW W M) (hm : MW W M) (hle : 4 * k + 4 ≤ sl) (nxt : ∀ W' M', WI (k + 1) W' → CW W' M' → MW W' M' → P 18 [some (vr 35 0), some (vr 0 0), some (vr 21 0), some (vi (nI (4 * k) + 4))] [] M') : P 405 [some (vr 35 0), some (vr 0 0), some (vr 21 0), some (vi (nI (4 * k)))] [] M := by
  have i1 := li1 hsl hle
  have i2 := li2 hsl hle
  have i3 := li3 hsl hle
  have hm' := wi_mono hI
  refine go [(18, 4)] 99 _ _ _ _ ?_
  exact c_bits (d := 6) hC hc hI (m_bits (d := 6) hC hm hI ⟨fun _ => nxt _ M hm' hc hm, fun c => absurd ((lg_cmp_eq _ _).mpr rfl) c⟩)
set_option maxRecDepth 20000 in
theorem lw_419 (hC : ClA C) (hsl : sl ≤ 2048) (go : Go (tb_law sl xs) (C 8) Q P) (hk : k ≤ 512) (hI : WI k W) (hc : CW W M) (hm : MW W M) (hle : 4 * k + 4 ≤ sl) (nxt : ∀ W' M', WI (k + 1) W' → CW W' M' → MW W' M' → P 18 [some (vr 35 0), some (vr 0 0), some (vr 21 0), some (vi (nI (4 * k) + 4))] [] M') : P 419 [some (vr 35 0), some (vr 0 0), some (vr 21 0), some (vi (nI (4 * k)))] [] M := by
  have i1 := li1 hsl hle
  have i2 := li2 hsl hle
  have i3 := li3 hsl hle
  have hm' := wi_mono hI
  refine go [(18, 4)] 99 _ _ _ _ ?_
  exact ⟨i1, i2, i3, c_sit (d := 5) hC hc hI (fun M1 w1 f1 => ⟨i1, i2, i3, m_sit (d := 5) hC (MW_FC hm f1) hI (fun M2 w2 f2 => ⟨fun _ => nxt _ M2 (wi_sit hI _ _ _) (CW_FN w1 f2) w2, fun c => absurd rfl c⟩)⟩)⟩
set_option maxRecDepth 20000 in
theorem lw_462 (hC : ClA C) (hsl : sl ≤ 2048) (go : Go (tb_law sl xs) (C 8) Q P) (hk : k ≤ 512) (hI : WI k W) (hc : CW W M) (hm : MW W M) (hle : 4 * k + 4 ≤ sl) (nxt : ∀ W' M', WI (k + 1) W' → CW W' M' → MW W' M' → P 18 [some (vr 35 0), some (vr 0 0), some (vr 21 0), some (vi (nI (4 * k) + 4))] [] M') : P 462 [some (vr 35 0), some (vr 0 0), some (vr 21 0), some (vi (nI (4 * k)))] [] M := by
  have i1 := li1 hsl hle
  have i2 := li2 hsl hle
  have i3 := li3 hsl hle
  have hm' := wi_mono hI
  refine go [(18, 4)] 99 _ _ _ _ ?_
  exact ⟨i1, i2, c_sits (d := 6) hC hc ⟨i1, i2, m_sits (d := 6) hC hm ⟨fun _ => nxt _ M hm' hc hm, fun c => absurd rfl c⟩⟩⟩
set_option maxRecDepth 20000 in
theorem lw_495 (hC : ClA C) (hsl : sl ≤ 2048) (go : Go (tb_law sl xs) (C 8) Q P) (hk : k ≤ 512) (hI : WI k W) (hc : CW W M) (hm : MW W M) (hle : 4 * k + 4 ≤ sl) (nxt : ∀ W' M', WI (k + 1) W' → CW W' M' → MW W' M' → P 18 [some (vr 35 0), some (vr 0 0), some (vr 21 0), some (vi (nI (4 * k) + 4))] [] M') : P 495 [some (vr 35 0), some (vr 0 0), some (vr 21 0), some (vi (nI (4 * k)))] [] M := by
  have i1 := li1 hsl hle
  have i2 := li2 hsl hle
  have i3 := li3 hsl hle
  have hm' := wi_mono hI
  refine go [(18, 4)] 99 _ _ _ _ ?_
  exact ⟨i1, c_net (d := 6) hC hc (fun M1 w1 f1 => ⟨i1, m_net (d := 6) hC (MW_FC hm f1) (fun M2 w2 f2 => ⟨fun _ => nxt _ M2 (wi_net hI _) (CW_FN w1 f2) w2, fun c => absurd rfl c⟩)⟩)⟩
set_option maxRecDepth 20000 in
theorem lw_518 (hC : ClA C) (hsl : sl ≤ 2048) (go : Go (tb_law sl xs) (C 8) Q P) (hk : k ≤ 512) (hI : WI k W) (hc : CW W M) (hm : MW W M) (hle : 4 * k + 4 ≤ sl) (nxt : ∀ W' M', WI (k + 1) W' → CW W' M' → MW W' M' → P 18 [some (vr 35 0), some (vr 0 0), some (vr 21 0), some (vi (nI (4 * k) + 4))] [] M') : P 518 [some (vr 35 0), some (vr 0 0), some (vr 21 0), some (vi (nI (4 * k)))] [] M := by
  have i1 := li1 hsl hle
  have i2 := li2 hsl hle
  have i3 := li3 hsl hle
  have hm' := wi_mono hI
  refine go [(18, 4)] 99 _ _ _ _ ?_
  exact ⟨i1, i2, i3, c_road (d := 5) hC hc hI (fun M1 w1 f1 => ⟨i1, i2, i3, m_road (d := 5) hC (MW_FC hm f1) hI (fun M2 w2 f2 => ⟨fun _ => nxt _ M2 (wi_road hI _ _ _) (CW_FN w1 f2) w2, fun c => absurd rfl c⟩)⟩)⟩
set_option maxRecDepth 20000 in
theorem lw_561 (hC : ClA C) (hsl : sl ≤ 2048) (go : Go (tb_law sl xs) (C 8) Q P) (hk : k ≤ 512) (hI : WI k W) (hc : CW W M) (hm : MW W M) (hle : 4 * k + 4 ≤ sl) (nxt : ∀ W' M', WI (k + 1) W' → CW W' M' → MW W' M' → P 18 [some (vr 35 0), some (vr 0 0), some (vr 21 0), some (vi (nI (4 * k) + 4))] [] M') : P 561 [some (vr 35 0), some (vr 0 0), some (vr 21 0), some (vi (nI (4 * k)))] [] M := by
  have i1 := li1 hsl hle
  have i2 := li2 hsl hle
  have i3 := li3 hsl hle
  have hm' := wi_mono hI
  refine go [(18, 4)] 99 _ _ _ _ ?_
  exact ⟨i1, i2, c_tree (d := 1) hC hc hI (fun M1 w1 f1 => ⟨i1, i2, m_tree (d := 0) hC (MW_FC hm f1) hI hk (fun M2 w2 f2 => ⟨fun _ => nxt _ M2 hm' (CW_FN w1 f2) w2, fun c => absurd rfl c⟩)⟩)⟩
set_option maxRecDepth 20000 in
theorem lw_594 (hC : ClA C) (hsl : sl ≤ 2048) (go : Go (tb_law sl xs) (C 8) Q P) (hk : k ≤ 512) (hI : WI k W) (hc : CW W M) (hm : MW W M) (hle : 4 * k + 4 ≤ sl) (nxt : ∀ W' M', WI (k + 1) W' → CW W' M' → MW W' M' → P 18 [some (vr 35 0), some (vr 0 0), some (vr 21 0), some (vi (nI (4 * k) + 4))] [] M') : P 594 [some (vr 35 0), some (vr 0 0), some (vr 21 0), some (vi (nI (4 * k)))] [] M := by
  have i1 := li1 hsl hle
  have i2 := li2 hsl hle
  have i3 := li3 hsl hle
  have hm' := wi_mono hI
  refine go [(18, 4)] 99 _ _ _ _ ?_
  exact ⟨i1, i2, c_way (d := 1) hC hc hI (fun M1 w1 f1 => ⟨i1, i2, m_way (d := 0) hC (MW_FC hm f1) hI hk (fun M2 w2 f2 => ⟨fun _ => nxt _ M2 hm' (CW_FN w1 f2) w2, fun c => absurd rfl c⟩)⟩)⟩
set_option maxRecDepth 20000 in
theorem lw_627 (hC : ClA C) (hsl : sl ≤ 2048) (go : Go (tb_law sl xs) (C 8) Q P) (hk : k ≤ 512) (hI : WI k W) (hc : CW W M) (hm : MW W M) (hle : 4 * k + 4 ≤ sl) (nxt : ∀ W' M', WI (k + 1) W' → CW W' M' → MW W' M' → P 18 [some (vr 35 0), some (vr 0 0), some (vr 21 0), some (vi (nI (4 * k) + 4))] [] M') : P 627 [some (vr 35 0), some (vr 0 0), some (vr 21 0), some (vi (nI (4 * k)))] [] M := by
  have i1 := li1 hsl hle
  have i2 := li2 hsl hle
  have i3 := li3 hsl hle
  have hm' := wi_mono hI
  refine go [(18, 4)] 99 _ _ _ _ ?_
  exact ⟨i1, i2, c_ways (d := 1) hC hc hI (fun M1 w1 f1 => ⟨i1, i2, m_ways (d := 0) hC (MW_FC hm f1) hI hk (fun M2 w2 f2 => ⟨fun _ => nxt _ M2 hm' (CW_FN w1 f2) w2, fun c => absurd rfl c⟩)⟩)⟩
set_option maxRecDepth 20000 in
theorem lw_660 (hC : ClA C) (hsl : sl ≤ 2048) (go : Go (tb_law sl xs) (C 8) Q P) (hk : k ≤ 512) (hI : WI k W) (hc : CW W M) (hm : MW W M) (hle : 4 * k + 4 ≤ sl) (nxt : ∀ W' M', WI (k + 1) W' → CW W' M' → MW W' M' → P 18 [some (vr 35 0), some (vr 0 0), some (vr 21 0), some (vi (nI (4 * k) + 4))] [] M') : P 660 [some (vr 35 0), some (vr 0 0), some (vr 21 0), some (vi (nI (4 * k)))] [] M := by
  have i1 := li1 hsl hle
  have i2 := li2 hsl hle
  have i3 := li3 hsl hle
  have hm' := wi_mono hI
  refine go [(18, 4)] 99 _ _ _ _ ?_
  exact ⟨i1, c_keep (d := 5) hC hc hI (fun M1 w1 f1 => ⟨i1, m_keep (d := 6) hC (MW_FC hm f1) hI (fun M2 w2 f2 => ⟨fun _ => nxt _ M2 (wi_keep hI _) (CW_FN w1 f2) w2, fun c => absurd rfl c⟩)⟩)⟩
set_option maxRecDepth 20000 in
theorem lw_683 (hC : ClA C) (hsl : sl ≤ 2048) (go : Go (tb_law sl xs) (C 8) Q P) (hk : k ≤ 512) (hI : WI k W) (hc : CW W M) (hm : MW W M) (hle : 4 * k + 4 ≤ sl) (nxt : ∀ W' M', WI (k + 1) W' → CW W' M' → MW W' M' → P 18 [some (vr 35 0), some (vr 0 0), some (vr 21 0), some (vi (nI (4 * k) + 4))] [] M') : P 683 [some (vr 35 0), some (vr 0 0), some (vr 21 0), some (vi (nI (4 * k)))] [] M := by
  have i1 := li1 hsl hle
  have i2 := li2 hsl hle
  have i3 := li3 hsl hle
  have hm' := wi_mono hI
  refine go [(18, 4)] 99 _ _ _ _ ?_
  exact ⟨i1, c_back (d := 5) hC hc hI (fun M1 w1 f1 => ⟨i1, m_back (d := 6) hC (MW_FC hm f1) hI (fun M2 w2 f2 => ⟨fun _ => nxt _ M2 (wi_back hI _) (CW_FN w1 f2) w2, fun c => absurd rfl c⟩)⟩)⟩
end LOOP

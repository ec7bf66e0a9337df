section LOOP
set_option maxRecDepth 20000 in
theorem law_loop {C : Nat → CP} (hC : ClA C) {sl : Nat} {xs : Nat → Int32} (hsl : sl ≤ 2048) {P : KP} {Q : RP} (go : Go (tb_law sl xs) (C 8) Q P) (hQ : ∀ M, Q (some (vi 1)) M) : ∀ f k W M, sl < 4 * (k + f) → k ≤ 512 → WI k W → CW W M → MW W M → P 18 [some (vr 35 0), some (vr 0 0), some (vr 21 0), some (vi (nI (4 * k)))] [] M := by
  have e4 := pk_sub_toInt (a := sl) (b := 4) (by omega) (by omega)
  rw [show nI 4 = 4 from rfl] at e4
  intro f
  induction f with
  | zero =>
    intro k W M hf hk hI hc hm
    have ei := nI_toInt (n := 4 * k) (by omega)
    refine go [(18, 4)] 99 _ _ _ _ ⟨fun _ => ⟨rfl, hQ M⟩, fun c => absurd ?_ c⟩
    rw [Int32.lt_iff_toInt_lt]
    omega
  | succ f ih =>
    intro k W M hf hk hI hc hm
    have ei := nI_toInt (n := 4 * k) (by omega)
    refine go [(132, 4), (165, 4), (198, 4), (211, 4), (234, 4), (247, 4), (260, 4), (293, 4), (316, 4), (349, 4), (382, 4), (405, 4), (419, 4), (462, 4), (495, 4), (518, 4), (561, 4), (594, 4), (627, 4), (660, 4), (683, 4), (18, 4)] 99 _ _ _ _ ⟨fun _ => ⟨rfl, hQ M⟩, fun c => ?_⟩
    have hle : 4 * k + 4 ≤ sl := by
      rw [Int32.lt_iff_toInt_lt] at c
      omega
    have nxt : ∀ W' M', WI (k + 1) W' → CW W' M' → MW W' M' → P 18 [some (vr 35 0), some (vr 0 0), some (vr 21 0), some (vi (nI (4 * k) + 4))] [] M' := fun W' M' q1 q2 q3 => by
      have := ih (k + 1) W' M' (by omega) (by omega) q1 q2 q3
      rw [show 4 * (k + 1) = 4 * k + 4 by omega, ← nI_add] at this
      exact this
    have i0 : vp_in (nI (4 * k)) sl := vp_in_nI (by omega) (by omega)
    refine ⟨i0, ?_⟩
    exact ⟨fun _ => lw_132 (xs := xs) (P := P) (Q := Q) hC hsl go hk hI hc hm hle nxt, fun _ => ⟨fun _ => lw_165 (xs := xs) (P := P) (Q := Q) hC hsl go hk hI hc hm hle nxt, fun _ => ⟨fun _ => lw_198 (xs := xs) (P := P) (Q := Q) hC hsl go hk hI hc hm hle nxt, fun _ => ⟨fun _ => lw_211 (xs := xs) (P := P) (Q := Q) hC hsl go hk hI hc hm hle nxt, fun _ => ⟨fun _ => lw_234 (xs := xs) (P := P) (Q := Q) hC hsl go hk hI hc hm hle nxt, fun _ => ⟨fun _ => lw_247 (xs := xs) (P := P) (Q := Q) hC hsl go hk hI hc hm hle nxt, fun _ => ⟨fun _ => lw_260 (xs := xs) (P := P) (Q := Q) hC hsl go hk hI hc hm hle nxt, fun _ => ⟨fun _ => lw_293 (xs := xs) (P := P) (Q := Q) hC hsl go hk hI hc hm hle nxt, fun _ => ⟨fun _ => lw_316 (xs := xs) (P := P) (Q := Q) hC hsl go hk hI hc hm hle nxt, fun _ => ⟨fun _ => lw_349 (xs := xs) (P := P) (Q := Q) hC hsl go hk hI hc hm hle nxt, fun _ => ⟨fun _ => lw_382 (xs := xs) (P := P) (Q := Q) hC hsl go hk hI hc hm hle nxt, fun _ => ⟨fun _ => lw_405 (xs := xs) (P := P) (Q := Q) hC hsl go hk hI hc hm hle nxt, fun _ => ⟨fun _ => lw_419 (xs := xs) (P := P) (Q := Q) hC hsl go hk hI hc hm hle nxt, fun _ => ⟨fun _ => lw_462 (xs := xs) (P := P) (Q := Q) hC hsl go hk hI hc hm hle nxt, fun _ => ⟨fun _ => lw_495 (xs := xs) (P := P) (Q := Q) hC hsl go hk hI hc hm hle nxt, fun _ => ⟨fun _ => lw_518 (xs := xs) (P := P) (Q := Q) hC hsl go hk hI hc hm hle nxt, fun _ => ⟨fun _ => lw_561 (xs := xs) (P := P) (Q := Q) hC hsl go hk hI hc hm hle nxt, fun _ => ⟨fun _ => lw_594 (xs := xs) (P := P) (Q := Q) hC hsl go hk hI hc hm hle nxt, fun _ => ⟨fun _ => lw_627 (xs := xs) (P := P) (Q := Q) hC hsl go hk hI hc hm hle nxt, fun _ => ⟨fun _ => lw_660 (xs := xs) (P := P) (Q := Q) hC hsl go hk hI hc hm hle nxt, fun _ => ⟨fun _ => lw_683 (xs := xs) (P := P) (Q := Q) hC hsl go hk hI hc hm hle nxt, fun _ => nxt W M (wi_mono hI) hc hm⟩⟩⟩⟩⟩⟩⟩⟩⟩⟩⟩⟩⟩⟩⟩⟩⟩⟩⟩⟩⟩
end LOOP

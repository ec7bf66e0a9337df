/-! THE LAW'S WALK, from its entry to its end -/
section ST
variable {p : Program} {e : Env} {s : State} {m : MethodId} {below : List Frame} {meth : Method} {c : Code}
/-- from the loop's head on -/
theorem at_18 {l : Launch} {D : va_G} {ad : Nat → Nat → Nat} {cI cB cM : ClassId} {b L : Nat} {xs : Nat → Int32} (hL : L ≤ 2048) (C0 : lw_At p s m meth c b L xs) {M : AM} {H : Heap} {locs : List Loc} {ls : Array Slot} (hK : va_K D vwCl [(cI, .int), (cB, .boolean), (cM, .object "LooseHeap$Image")] s) (hP : HR (l, D, ad, (cI, cB, cM)) M H) (hD : va_D (fun q : Nat => s.heap.size ≤ q) (wsl (l, D, ad, (cI, cB, cM)) M)) (hS : va_S (fun q : Nat => s.heap.size ≤ q) s.heap H locs) (hc : CW W00 M) (hm : MW W00 M) (hb : ad 35 0 = b) (hl : lv_has ls 4 [(3, .int 0), (2, .ref (ad 21 0)), (1, .ref (ad 0 0)), (0, .ref b)]) : W p l e room_1 s m #[Value.ref b] below meth c H locs 71 2524 (lw_Z below #[Value.ref b] s) (F0 m 18 ls []) := by
  obtain ⟨hx, hbc, hr, hml, hown, hts, hX, hbl, hlocks, hgv⟩ := id C0
  have htw : ∀ w ∈ tW, w.before #[Value.ref b] s = true := fun w hw => hts w (List.mem_filter.mp hw).1
  have hAp : Ap (l, D, ad, (cI, cB, cM)) := fun i j p q hi hj he => hD.1 i j _ _ (wsl_at hi) (wsl_at hj) he
  have hV := law_loop (C := Ct (l, D, ad, (cI, cB, cM)) mts) (ct_all hAp) (sl := L) (xs := xs) hL (Q := fun r _ => r = some (vi 1)) (go_of (ok_law hAp 8)) (fun _ => rfl) 513 0 W00 M (by omega) (by omega) wi_00 hc hm
  have hF : Fx (l, D, ad, (cI, cB, cM)) RL code 4 (some .boolean) 8 (some (L, xs)) p room_1 s m #[Value.ref b] meth c 71 2524 (fun q : Nat => s.heap.size ≤ q) := by
    refine ⟨hx, hbc, hr, hml, hown, htw, hK, hlocks, ⟨Nat.le_of_ble_eq_true rfl, Nat.le_of_ble_eq_true rfl, Nat.le_of_ble_eq_true rfl, Nat.le_of_ble_eq_true rfl⟩, fun q hq => ?_, fun q hq => ?_⟩
    · obtain ⟨a, t, ht, rfl⟩ := hq
      obtain ⟨k, hk⟩ := idx_in ht
      exact hD.2 k _ (wsl_at hk)
    · cases hq
      show va_X (ad 35 0) L xs s s.heap ∧ ad 35 0 < s.heap.size ∧ ¬ s.heap.size ≤ ad 35 0
      rw [hb]
      exact ⟨hX, hbl, Nat.not_le.mpr hbl⟩
  refine hV p e room_1 s m #[Value.ref b] below meth c H locs 71 2524 (fun q : Nat => s.heap.size ≤ q) (lw_Z below #[Value.ref b] s) ls hF ⟨hP, hS, ⟨_, hl, ?_⟩, ?_, fun v hv => absurd hv List.not_mem_nil⟩ ?_
  · intro i v hi
    match i, hi with
    | 0, hi =>
      cases hi
      show (0, Value.ref (ad 35 0)) ∈ _
      rw [hb]
      simp
    | 1, hi => cases hi; simp [rv]
    | 2, hi => cases hi; simp [rv]
    | 3, hi => cases hi; simp [rv]; decide
    | i + 4, hi =>
      have hi : ge [] i = some v := hi
      rw [ge_nil] at hi
      cases hi
  · intro i v hi
    match i, hi with
    | 0, hi => cases hi; exact Or.inr ⟨rfl, rfl⟩
    | 1, hi => cases hi; exact Or.inl (by decide)
    | 2, hi => cases hi; exact Or.inl (by decide)
    | 3, hi => cases hi; exact trivial
    | i + 4, hi =>
      have hi : ge [] i = some v := hi
      rw [ge_nil] at hi
      cases hi
  · intro pc' ls' H' locs' r M' hrd hq _ hS'
    subst hq
    refine va_forget (fun q hq => hS'.2.2 q hq) ?_
    refine W.widen (k := 600000) (n := 7302250) (Nat.le_of_ble_eq_true rfl) (Nat.le_of_ble_eq_true rfl) ?_
    exact lw_ret hx hbc hr hlocks hrd.1
theorem whole_start (l : Launch) (hflags : l.flags = flags0) {b L : Nat} {xs : Nat → Int32} (hL : L ≤ 2048) (C0 : lw_At p s m meth c b L xs) : W p l e room_1 s m #[Value.ref b] below meth c s.heap [] 0 0 (lw_Z below #[Value.ref b] s) (entryFrame m ([Value.ref b] : List Value).toArray 4) := by
  obtain ⟨hx, hb, hr, hml, hown, hts, hX, hbl, hlocks, hgv⟩ := id C0
  have htw : ∀ w ∈ tW, w.before #[Value.ref b] s = true := fun w hw => hts w (List.mem_filter.mp hw).1
  have hown' : s.vm.findClass RL = some m.cls := hown
  obtain ⟨A, hAe⟩ : ∃ A : Nat → Prop, A = fun q : Nat => s.heap.size ≤ q := ⟨_, rfl⟩
  have hA : ∀ q : Nat, s.heap.size ≤ q → A q := fun q h => by rw [hAe]; exact h
  obtain ⟨D, hK⟩ := kn_all htw
  obtain ⟨cI, hcI⟩ := ac_int (htw _ w_117)
  obtain ⟨cB, hcB⟩ := ac_bool (htw _ w_118)
  have hnw : va_Nw (.methodLinkNest "LooseHeap" 34 ⟨"LooseHeap$Lots", "<init>", "()V"⟩ "LooseHeap") s := va_Nw.of rfl (hts _ w_167)
  have hao : va_AO "LooseHeap$Image" s := va_AO.of (hts _ w_176)
  have F : CF p c code 4 s #[Value.ref b] RL m A s.heap cI cB := ⟨hx, hb, hml, hown', htw, hA, hcI, hcB⟩
  have I : CV D s [] s.heap [] A s.heap := ⟨hK, fun k q h => by simp at h, ⟨fun i j p q h => by simp at h, fun k q h => by simp at h⟩, va_S.rf⟩
  have hl := lv_entry ([.ref b]) (n := 4) (Nat.le_of_ble_eq_true rfl)
  rw [lg_entry_eq]
  generalize (lg_sl ([.ref b]) ++ List.replicate (4 - (lg_sl ([.ref b])).length) Slot.unset).toArray = ls at hl ⊢
  have hl : lv_has ls 4 [(0, .ref b)] := hl
  refine k_new F I co_X6 (fs := [.null, .null, .null, .null, .null]) (fun j hj => by match j, hj with | 0, _ => rfl | 1, _ => rfl | 2, _ => rfl | 3, _ => rfl | 4, _ => rfl) w_57 w_58 w_46 (Nat.le_of_ble_eq_true rfl) (Nat.le_of_ble_eq_true rfl) dL_law_0 (fun bL H I => ?_)
  have I : CV D s [(bL, .inr (5, [.null, .null, .null, .null, .null]))] H [] A s.heap := I
  refine lv_dup hx hb dL_law_3 rfl ?_
  obtain ⟨j1, j2, j3, j4⟩ := I
  have hPc := j2.sub (ws' := [(bL, .inr (5, [.null, .null, .null, .null, .null]))]) [0] rfl
  have hDc := j3.sub (ws' := [(bL, .inr (5, [.null, .null, .null, .null, .null]))]) [0] (by decide) rfl
  have hFc := va_free (wc := [(bL, .inr (5, [.null, .null, .null, .null, .null]))]) j3 j4 hA [0] rfl
  refine va_callv (va_runI (As := []) (rest := [.ref bL]) (nL := 4) ⟨hx, hb, hml, hown', htw⟩ (i_X6 (D := D) (cI := cI) (cB := cB) bL H.size) ⟨callB_of 0 htw (good_code w_61) rfl rfl rfl (htw _ w_46) (htw _ w_59) ⟨by decide, by decide, by decide +kernel⟩ ⟨Nat.le_of_ble_eq_true rfl, Nat.le_of_ble_eq_true rfl⟩, rfl, htw _ w_60⟩ ⟨fun a U g mk q => by obtain ⟨q0, q1, qP, qK, qD, qi, qz, qn, qo⟩ := q; exact ⟨q0, q1, qP, va_K.moved (u := U) (U := U.calling g mk a) (Vm.Alike.refl U.vm) qK, qD, qi, qz, va_Nw.same (u := U) (U := U.calling g mk a) rfl rfl qn, va_AO.moved (u := U) (U := U.calling g mk a) (Vm.Alike.refl U.vm) qo⟩, fun U hU hW => ⟨rfl, by rw [hU], by rw [hU]; exact hPc, va_K.moved hW.alike j1, hDc.weaken (fun _ _ _ _ => trivial), by rw [hW.alike.findClass]; exact hcI, by rw [hW.alike.findClass]; exact hcB, va_Nw.warmM hW hnw, va_AO.moved hW.alike hao⟩⟩ rfl rfl hl.1 rfl (lv_room (Nat.le_of_ble_eq_true rfl)) dL_law_4 ⟨Nat.le_of_ble_eq_true rfl, Nat.le_of_ble_eq_true rfl⟩) j4 (fun q _ h => hFc q h) hFc (fun u t H1 locs1 ht hvm h5 hB hz1 hk1 j4 => ?_)
  obtain ⟨w, cM⟩ := u
  obtain ⟨hP1, hK1, hD1⟩ := hB
  rw [ht] at hP1
  have hK3 : va_K D vwCl [(cI, .int), (cB, .boolean), (cM, .object "LooseHeap$Image")] s := va_K.moved hvm.symm hK1
  obtain ⟨j2, j3⟩ := va_join (wr := []) (w1 := w) j2 j3 [0] [] rfl rfl (by decide) (by decide) hk1 hFc hP1 hD1
  have I : CV D s w H1 locs1 A s.heap := ⟨j1, j2, j3, j4⟩
  refine lv_astore_n (lv' := [(1, .ref bL), (0, .ref b)]) hx hb dL_law_7 rfl hl (by decide) rfl (fun ls1 hl1 => ?_)
  refine k_new F I co_X7 (fs := [.int 0, .null, .null, .null, .null, .null, .null, .int 0, .int 0, .int 0, .int 0, .int 0, .null, .int 0, .int 0, .null, .null, .null, .null, .int 0, .int 0, .int 0, .null, .null, .long 0]) (fun j hj => by match j, hj with | 0, _ => rfl | 1, _ => rfl | 2, _ => rfl | 3, _ => rfl | 4, _ => rfl | 5, _ => rfl | 6, _ => rfl | 7, _ => rfl | 8, _ => rfl | 9, _ => rfl | 10, _ => rfl | 11, _ => rfl | 12, _ => rfl | 13, _ => rfl | 14, _ => rfl | 15, _ => rfl | 16, _ => rfl | 17, _ => rfl | 18, _ => rfl | 19, _ => rfl | 20, _ => rfl | 21, _ => rfl | 22, _ => rfl | 23, _ => rfl | 24, _ => rfl | j + 25, hj => exact absurd hj (by omega)) w_627 w_628 w_53 (Nat.le_of_ble_eq_true rfl) (Nat.le_of_ble_eq_true rfl) dL_law_8 (fun bM H I => ?_)
  refine lv_dup hx hb dL_law_11 rfl ?_
  refine k_call F I i_X7 rfl w_631 w_53 w_629 w_630 ⟨by decide, by decide, by decide +kernel⟩ ⟨Nat.le_of_ble_eq_true rfl, Nat.le_of_ble_eq_true rfl⟩ hl1.1 (Nat.le_of_ble_eq_true rfl) dL_law_12 ⟨Nat.le_of_ble_eq_true rfl, Nat.le_of_ble_eq_true rfl⟩ (fun wm tym H locs hpm hkm I => ?_)
  refine lv_astore_n (lv' := [(2, .ref bM), (1, .ref bL), (0, .ref b)]) hx hb dL_law_15 rfl hl1 (by decide) rfl (fun ls2 hl2 => ?_)
  refine lv_iconst (v := 0) hx hb dL_law_16 (by decide) ?_
  refine lv_istore_n (lv' := [(3, .int 0), (2, .ref bM), (1, .ref bL), (0, .ref b)]) hx hb dL_law_17 rfl hl2 (by decide) rfl (fun ls3 hl3 => ?_)
  obtain ⟨j1, j2, j3, j4⟩ := I
  obtain ⟨ad, M, ⟨e1, e2, e3⟩, hP, hD, hc, hm⟩ := to_world h5 hpm.1 j2 j3 l b
  subst hAe
  subst e1
  subst e2
  refine W.widen (k := 71) (n := 2524) (Nat.le_of_ble_eq_true rfl) (Nat.le_of_ble_eq_true rfl) ?_
  exact at_18 hL C0 hK3 hP hD j4 hc hm e3 hl3
end ST

section LINKS
variable {C : Nat → CP} {d t : Nat} {A : AH} {M : AM} {Q : RP}
theorem CH_congr {nx nx' : Nat → Int32} : ∀ (l : List Nat) (h : Int32), (∀ x ∈ l, nx' x = nx x) → CH nx h l → CH nx' h l
  | [], h, _, q => q
  | x :: r, h, e, q => ⟨q.1, by rw [e x List.mem_cons_self]; exact CH_congr r _ (fun y hy => e y (List.mem_cons_of_mem _ hy)) q.2⟩
theorem CH_snoc {nx nx' : Nat → Int32} {d z : Nat} (hd1 : nx' d = -1) (hz1 : nx' z = nI d) : ∀ (l : List Nat) (h : Int32), l.Nodup → l.getLast? = some z → (∀ x ∈ l, x ≠ z → nx' x = nx x) → CH nx h l → CH nx' h (l ++ [d])
  | [], h, _, hz, _, _ => by cases hz
  | [x], h, _, hz, _, q => by
    have e : x = z := by simpa using hz
    subst e
    exact ⟨q.1, hz1, hd1⟩
  | x :: y :: r, h, hn', hz, he, q => by
    have hz' : (y :: r).getLast? = some z := by simpa using hz
    have hzm : z ∈ y :: r := List.mem_of_getLast? hz'
    have hx : x ≠ z := fun e => (List.nodup_cons.mp hn').1 (by rw [e]; exact hzm)
    exact ⟨q.1, by rw [he x List.mem_cons_self hx]; exact CH_snoc hd1 hz1 (y :: r) _ (List.nodup_cons.mp hn').2 hz' (fun w hw => he w (List.mem_cons_of_mem _ hw)) q.2⟩
theorem CH_del {nx nx' : Nat → Int32} {j z : Nat} (hz1 : nx' z = nx j) {post : List Nat} : ∀ (l : List Nat) (h : Int32), (l ++ j :: post).Nodup → l.getLast? = some z → (∀ x ∈ l ++ post, x ≠ z → nx' x = nx x) → CH nx h (l ++ j :: post) → CH nx' h (l ++ post)
  | [], h, _, hz, _, _ => by cases hz
  | [x], h, hn', hz, he, q => by
    have e : x = z := by simpa using hz
    subst e
    refine ⟨q.1, ?_⟩
    rw [hz1]
    refine CH_congr post _ (fun y hy => he y (List.mem_append_right _ hy) (fun e => ?_)) q.2.2
    have h1 : x ∉ j :: post := (List.nodup_cons.mp hn').1
    rw [← e] at h1
    exact h1 (List.mem_cons_of_mem _ hy)
  | x :: y :: r, h, hn', hz, he, q => by
    have hz' : (y :: r).getLast? = some z := by simpa using hz
    have hzm : z ∈ y :: r := List.mem_of_getLast? hz'
    have hx : x ≠ z := fun e => (List.nodup_cons.mp hn').1 (by rw [e]; exact List.mem_append_left _ hzm)
    refine ⟨q.1, ?_⟩
    rw [he x List.mem_cons_self hx]
    exact CH_del hz1 (y :: r) _ (List.nodup_cons.mp hn').2 hz' (fun w hw => he w (List.mem_cons_of_mem _ hw)) q.2
theorem kid_lt (hI : Inv A) {x u : Nat} (h : x ∈ hc A u) : x < hn A ∧ hp A x = some u := by
  have h1 := (hI.1 x u).mpr h
  exact ⟨(hI.2.2.1 x u h1).1, h1⟩
set_option maxRecDepth 20000 in
theorem c_besideBefore (hC : ClA C) (hR : CR t A M) (hI : Inv A) {u : Nat} (hu : u < hn A) {job : Int32} {pre post : List Nat} (hk : hc A u = pre ++ post) (hpre : ∀ x ∈ pre, nI x ≠ job) (hpost : post = [] ∨ ∃ y r, post = y :: r ∧ nI y = job) (h : Q (some (vi (en pre.getLast?))) M) : C (d + 1) n_X2_besideBefore [vr 1 t, vi (nI u), vi job] M Q := by
  have hrm := rm_le t
  have hn1 := hR.2.1
  have e0 : M.1 1 t 0 = nI (rm t) := hR.1
  obtain ⟨-, -, -, -, -, -, k6⟩ := hR.2.2.2.2.2 u hu
  have iu := inR (hR.n hu).1
  have hlen : pre.length + post.length < hn A := by
    have := hI.rk_lt hu
    unfold rk at this
    rw [hk, List.length_append] at this
    exact this
  refine hC.X2_besideBefore d _ M Q (fun P go => ?_)
  have loop : ∀ (todo done : List Nat) (at' : Int32), pre = done ++ todo → CH (M.1 7 t) at' (todo ++ post) → P 13 [some (vr 1 t), some (vi (nI u)), some (vi job), some (vi (en done.getLast?)), some (vi at'), some (vi (nI done.length))] [] M := by
    intro todo
    induction todo with
    | nil =>
      intro done at' hd1 hch
      have ed : done = pre := by rw [hd1, List.append_nil]
      subst ed
      refine go [] 99 _ _ _ _ ⟨fun _ => h, fun _ => ⟨fun _ => h, fun c1 => ⟨fun _ => h, fun c2 => ?_⟩⟩⟩
      exfalso
      rcases hpost with e | ⟨y, r, e, e2⟩
      · rw [e] at hch; exact c1 hch
      · rw [e] at hch
        exact c2 (hch.1.trans e2)
    | cons x r ih =>
      intro done at' hd1 hch
      have hxm : x ∈ pre := by rw [hd1]; simp
      have hx := kid_lt hI (x := x) (u := u) (by rw [hk]; exact List.mem_append_left _ hxm)
      have hb := hR.n hx.1
      have hdl : done.length < rm t := by
        have : pre.length = done.length + (x :: r).length := by rw [hd1, List.length_append]
        simp at this
        omega
      obtain ⟨q1, q2⟩ := hch
      subst q1
      refine go [(13, 6)] 99 _ _ _ _ ⟨fun c => absurd (by rw [e0] at c; exact c) (nI_ge hdl (by omega)), fun _ => ⟨fun c => absurd c (nI_m1 (by omega)), fun _ => ⟨fun c => absurd c (hpre x hxm), fun _ => ⟨inR hb.1, ?_⟩⟩⟩⟩
      rw [cl40 hb.2]
      have := ih (done ++ [x]) (M.1 7 t x) (by rw [hd1]; simp) q2
      rw [List.getLast?_append, List.length_append] at this
      simp only [List.getLast?_singleton, Option.some_or, List.length_singleton] at this
      rw [← nI_1] at this
      exact this
  refine go [(13, 6)] 99 _ _ _ _ ⟨iu, ?_⟩
  rw [cl40 (hR.n hu).2]
  exact loop pre [] _ rfl (by rw [← hk]; exact k6)
set_option maxRecDepth 20000 in
theorem c_makeRoot (hC : ClA C) {j : Nat} (hj : j < rm t) (h : Q none (um (um M 4 t j (-1)) 9 t j 0)) : C (d + 1) n_X2_makeRoot [vr 1 t, vi (nI j)] M Q := by
  have hb := rm_le t
  refine hC.X2_makeRoot d _ M Q (fun P go => ?_)
  refine go [] 99 _ _ _ _ ⟨inR hj, inR hj, ?_⟩
  rw [cl40 (by omega)]
  exact h
/-- what LINK leaves in the rows: z is the last that came before, if there is one -/
theorem CR_lnk (hR : CR t A M) (hI : Inv A) {u dn : Nat} (hud : u ≠ dn) (hu0 : hp A u = none) (hd0 : hp A dn = none) (hu : u < hn A) (hdn : dn < hn A) {M' : AM} (e1 : ∀ i, M'.1 1 t i = if i = 11 then nI (lk A) + 1 else M.1 1 t i) (e2 : ∀ a i, a = 2 ∨ a = 3 ∨ a = 8 ∨ a = 9 → M'.1 a t i = M.1 a t i) (e4 : ∀ i, M'.1 4 t i = if i = dn then nI u else M.1 4 t i) (e5 : ∀ i, M'.1 5 t i = if i = u then nI (rk A u) + 1 else M.1 5 t i)
    (e67 : (hc A u = [] ∧ (∀ i, M'.1 6 t i = if i = u then nI dn else M.1 6 t i) ∧ ∀ i, M'.1 7 t i = if i = dn then -1 else M.1 7 t i) ∨ (∃ z, (hc A u).getLast? = some z ∧ (∀ i, M'.1 6 t i = M.1 6 t i) ∧ ∀ i, M'.1 7 t i = if i = dn then -1 else if i = z then nI dn else M.1 7 t i)) : CR t (lnk A u dn) M' := by
  obtain ⟨c1, c2, c3, c4, c5, c6⟩ := hR
  have hdk : ∀ p, dn ∉ hc A p := fun p hm => by rw [(hI.1 dn p).mpr hm] at hd0; cases hd0
  refine ⟨by rw [e1, if_neg (by decide)]; exact c1, c2, by rw [e1, if_neg (by decide)]; exact c3, by rw [e1, if_pos rfl]; exact nI_1 _, by rw [e1, if_neg (by decide)]; exact c5, fun j hj => ?_⟩
  obtain ⟨k2, k3, k4, k5, k8, k9, k6⟩ := c6 j hj
  refine ⟨by rw [e2 2 j (by omega)]; exact k2, by rw [e2 3 j (by omega)]; exact k3, ?_, ?_, by rw [e2 8 j (by omega)]; exact k8, by rw [e2 9 j (by omega)]; exact k9, ?_⟩
  · rw [e4]
    show _ = en (va_up (hp A) dn (some u) j)
    by_cases e : j = dn
    · subst e; rw [if_pos rfl, up_s]; rfl
    · rw [if_neg e, up_n e]; exact k4
  · rw [e5]
    show _ = nI (va_up (hc A) u (hc A u ++ [dn]) j).length
    by_cases e : j = u
    · subst e; rw [if_pos rfl, up_s, List.length_append]; exact nI_1 _
    · rw [if_neg e, up_n e]; exact k5
  · show CH (M'.1 7 t) (M'.1 6 t j) (va_up (hc A) u (hc A u ++ [dn]) j)
    rcases e67 with ⟨g1, g6, g7⟩ | ⟨z, g1, g6, g7⟩
    · by_cases e : j = u
      · subst e
        rw [up_s, g1, g6, if_pos rfl]
        exact ⟨rfl, by rw [g7, if_pos rfl]; rfl⟩
      · rw [up_n e, g6, if_neg e]
        exact CH_congr _ _ (fun x hx => by rw [g7, if_neg (fun q => hdk j (by rw [← q]; exact hx))]) k6
    · have hzm : z ∈ hc A u := List.mem_of_getLast? g1
      by_cases e : j = u
      · subst e
        rw [up_s, g6]
        refine CH_snoc (nx := M.1 7 t) (z := z) (by rw [g7, if_pos rfl]) (by rw [g7, if_neg (fun q => hdk j (by rw [← q]; exact hzm)), if_pos rfl]) _ _ (hI.2.1 j) g1 (fun x hx hne => ?_) k6
        rw [g7, if_neg (fun q => hdk j (by rw [← q]; exact hx)), if_neg hne]
      · rw [up_n e, g6]
        refine CH_congr _ _ (fun x hx => ?_) k6
        rw [g7, if_neg (fun q => hdk j (by rw [← q]; exact hx)), if_neg]
        intro q
        subst q
        have h1 := (hI.1 x j).mpr hx
        rw [(hI.1 x u).mpr hzm] at h1
        cases h1
        exact e rfl
set_option maxRecDepth 20000 in
theorem c_linkTwo (hC : ClA C) (hR : CR t A M) (hI : Inv A) {a b : Nat} (hab : a ≠ b) (ha0 : hp A a = none) (hb0 : hp A b = none) (ha : a < hn A) (hb : b < hn A) (h : ∀ M', CR t (link A a b) M' → FH t M M' → Q none M') : C (d + 2) n_X2_linkTwo [vr 1 t, vi (nI a), vi (nI b)] M Q := by
  have hrm := rm_le t
  have hn1 := hR.2.1
  refine hC.X2_linkTwo (d + 1) _ M Q (fun P go => ?_)
  have tail : ∀ u dn, u ≠ dn → hp A u = none → hp A dn = none → u < hn A → dn < hn A → (∀ M', CR t (lnk A u dn) M' → FH t M M' → Q none M') → P 25 [some (vr 1 t), some (vi (nI a)), some (vi (nI b)), some (vi (nI u))] [vi (nI dn)] M := by
    intro u dn hud hu0 hd0 hu hdn h
    have cu := cl40 (hR.n hu).2
    have cd := cl40 (hR.n hdn).2
    have iu := inR (hR.n hu).1
    have id1 := inR (hR.n hdn).1
    have k5 := (hR.2.2.2.2.2 u hu).2.2.2.1
    have k11 := hR.2.2.2.1
    refine go [] 199 _ _ _ _ ?_
    refine c_besideBefore hC hR hI hu (pre := hc A u) (post := []) (by simp) (fun x hx => nI_m1 (by have := (kid_lt hI hx).1; omega)) (Or.inl rfl) ?_
    cases hz : (hc A u).getLast? with
    | none =>
      have hnil : hc A u = [] := List.getLast?_eq_none_iff.mp hz
      refine ⟨fun c => absurd rfl c, fun _ => ⟨iu, id1, id1, iu, iu, ?_⟩⟩
      rw [cu, cd]
      refine h _ (CR_lnk hR hI hud hu0 hd0 hu hdn (fun i => ?_) (fun a' i q => ?_) (fun i => ?_) (fun i => ?_) (Or.inl ⟨hnil, fun i => ?_, fun i => ?_⟩)) (((((FH.rf.um (by omega) (by omega)).um (by omega) (by omega)).um (by omega) (by omega)).um (by omega) (by omega)).um (by omega) (by omega))
      · simp [um_at, k11]
      · rcases q with q | q | q | q <;> subst q <;> simp [um_at]
      · simp [um_at]
      · simp [um_at, k5]
      · simp [um_at]
      · simp [um_at]
    | some z =>
      have hzm : z ∈ hc A u := List.mem_of_getLast? hz
      have hz1 := (kid_lt hI hzm).1
      have cz := cl40 (hR.n hz1).2
      refine ⟨fun _ => ⟨inR (hR.n hz1).1, id1, id1, iu, iu, ?_⟩, fun c => absurd c (nI_m1 (by omega))⟩
      rw [cu, cd, show en (some z) = nI z from rfl, cz]
      refine h _ (CR_lnk hR hI hud hu0 hd0 hu hdn (fun i => ?_) (fun a' i q => ?_) (fun i => ?_) (fun i => ?_) (Or.inr ⟨z, hz, fun i => ?_, fun i => ?_⟩)) (((((FH.rf.um (by omega) (by omega)).um (by omega) (by omega)).um (by omega) (by omega)).um (by omega) (by omega)).um (by omega) (by omega))
      · simp [um_at, k11]
      · rcases q with q | q | q | q <;> subst q <;> simp [um_at]
      · simp [um_at]
      · simp [um_at, k5]
      · simp [um_at]
      · simp [um_at]
  refine go [(25, 4)] 99 _ _ _ _ ?_
  refine c_isSooner hC hR ha hb ?_
  unfold link at h
  refine ⟨fun c => ?_, fun c => ?_⟩
  · rw [b2_0 c] at h
    refine ⟨fun _ => ?_, fun c2 => absurd (nI_inj (by omega) (by omega) c2) (Ne.symm hab)⟩
    exact tail b a (Ne.symm hab) hb0 ha0 hb ha h
  · rw [b2_n0 c] at h
    refine ⟨fun c2 => absurd rfl c2, fun _ => ?_⟩
    exact tail a b hab ha0 hb0 ha hb h
/-- what CUT leaves in the rows -/
theorem CR_cut (hR : CR t A M) (hI : Inv A) {p j : Nat} (hjp : hp A j = some p) {pre post : List Nat} (hkk : hc A p = pre ++ j :: post) {M' : AM} (e1 : ∀ i, M'.1 1 t i = if i = 12 then nI (ct A) + 1 else M.1 1 t i) (e2 : ∀ a i, a = 2 ∨ a = 3 ∨ a = 8 → M'.1 a t i = M.1 a t i) (e4 : ∀ i, M'.1 4 t i = if i = j then -1 else M.1 4 t i) (e5 : ∀ i, M'.1 5 t i = if i = p then nI (rk A p) - 1 else M.1 5 t i) (e9 : ∀ i, M'.1 9 t i = if i = j then 0 else M.1 9 t i)
    (e67 : (pre = [] ∧ (∀ i, M'.1 6 t i = if i = p then M.1 7 t j else M.1 6 t i) ∧ ∀ i, M'.1 7 t i = M.1 7 t i) ∨ (∃ z, pre.getLast? = some z ∧ (∀ i, M'.1 6 t i = M.1 6 t i) ∧ ∀ i, M'.1 7 t i = if i = z then M.1 7 t j else M.1 7 t i)) : CR t (cutj A j) M' := by
  obtain ⟨c1, c2, c3, c4, c5, c6⟩ := hR
  have hnd := hI.2.1 p
  rw [hkk] at hnd
  have hjpre : j ∉ pre := fun hm => by
    have := (List.nodup_append.mp hnd).2.2 j hm j List.mem_cons_self
    exact this rfl
  have her : (hc A p).erase j = pre ++ post := by
    rw [hkk, List.erase_append_right _ hjpre, List.erase_cons_head]
  have ecut : cutj A j = (hn A, hd A, hk A, hs A, va_up (hp A) j none, va_up (hl A) j false, va_up (hc A) p (pre ++ post), lk A, ct A + 1) := by
    unfold cutj
    rw [hjp]
    show (hn A, hd A, _, hs A, va_up (hp A) j none, va_up (hl A) j false, va_up (hc A) p ((hc A p).erase j), lk A, ct A + 1) = _
    rw [her]
  rw [ecut]
  have hrkp : rk A p = (pre ++ post).length + 1 := by unfold rk; rw [hkk]; simp; omega
  refine ⟨by rw [e1, if_neg (by decide)]; exact c1, c2, by rw [e1, if_neg (by decide)]; exact c3, by rw [e1, if_neg (by decide)]; exact c4, by rw [e1, if_pos rfl]; exact nI_1 _, fun x hx => ?_⟩
  obtain ⟨k2, k3, k4, k5, k8, k9, k6⟩ := c6 x hx
  refine ⟨by rw [e2 2 x (by omega)]; exact k2, by rw [e2 3 x (by omega)]; exact k3, ?_, ?_, by rw [e2 8 x (by omega)]; exact k8, ?_, ?_⟩
  · rw [e4]
    show _ = en (va_up (hp A) j none x)
    by_cases e : x = j
    · subst e; rw [if_pos rfl, up_s]; rfl
    · rw [if_neg e, up_n e]; exact k4
  · rw [e5]
    show _ = nI (va_up (hc A) p (pre ++ post) x).length
    by_cases e : x = p
    · subst e; rw [if_pos rfl, up_s, hrkp, nI_pred]
    · rw [if_neg e, up_n e]; exact k5
  · rw [e9]
    show _ = b2 (va_up (hl A) j false x)
    by_cases e : x = j
    · subst e; rw [if_pos rfl, up_s]; rfl
    · rw [if_neg e, up_n e]; exact k9
  · show CH (M'.1 7 t) (M'.1 6 t x) (va_up (hc A) p (pre ++ post) x)
    rcases e67 with ⟨g1, g6, g7⟩ | ⟨z, g1, g6, g7⟩
    · have h7 : M'.1 7 t = M.1 7 t := funext g7
      by_cases e : x = p
      · subst e
        rw [up_s, g6, if_pos rfl, h7, g1]
        rw [hkk, g1] at k6
        exact k6.2
      · rw [up_n e, g6, if_neg e, h7]
        exact k6
    · have hzm : z ∈ pre := List.mem_of_getLast? g1
      by_cases e : x = p
      · subst e
        rw [up_s, g6]
        rw [hkk] at k6
        exact CH_del (nx := M.1 7 t) (by rw [g7, if_pos rfl]) pre _ hnd g1 (fun y hy hne => by rw [g7, if_neg hne]) k6
      · rw [up_n e, g6]
        refine CH_congr _ _ (fun y hy => ?_) k6
        rw [g7, if_neg]
        intro q
        subst q
        have h1 := (hI.1 y x).mpr hy
        rw [(hI.1 y p).mpr (by rw [hkk]; exact List.mem_append_left _ hzm)] at h1
        cases h1
        exact e rfl
set_option maxRecDepth 20000 in
theorem c_cutOff (hC : ClA C) (hR : CR t A M) (hI : Inv A) {j : Nat} (hj : j < hn A) (h : ∀ M', CR t (cutj A j) M' → FH t M M' → (∀ i, 13 ≤ i → M'.1 1 t i = M.1 1 t i) → Q none M') : C (d + 2) n_X2_cutOff [vr 1 t, vi (nI j)] M Q := by
  have hrm := rm_le t
  have hn1 := hR.2.1
  have cj := cl40 (hR.n hj).2
  have ij := inR (hR.n hj).1
  obtain ⟨-, -, k4, -⟩ := hR.2.2.2.2.2 j hj
  refine hC.X2_cutOff (d + 1) _ M Q (fun P go => ?_)
  refine go [] 199 _ _ _ _ ⟨ij, ?_⟩
  rw [cj, k4]
  cases hjp : hp A j with
  | none =>
    refine ⟨fun c => absurd rfl c, fun _ => ?_⟩
    have e : cutj A j = A := by unfold cutj; rw [hjp]
    rw [e] at h
    exact h M hR FH.rf (fun _ _ => rfl)
  | some p =>
    have hp1 := (hI.2.2.1 j p hjp).2.1
    refine ⟨fun _ => ?_, fun c => absurd c (nI_m1 (by omega))⟩
    have hjm : j ∈ hc A p := (hI.1 j p).mp hjp
    obtain ⟨pre, post, hk⟩ := List.append_of_mem hjm
    have hnd := hI.2.1 p
    rw [hk] at hnd
    have hjpre : ∀ x ∈ pre, nI x ≠ nI j := fun x hx e => by
      have hx1 := (kid_lt hI (x := x) (u := p) (by rw [hk]; exact List.mem_append_left _ hx)).1
      have e2 : x = j := nI_inj (by omega) (by omega) e
      exact (List.nodup_append.mp hnd).2.2 x hx j List.mem_cons_self e2
    have cp := cl40 (hR.n hp1).2
    have ip := inR (hR.n hp1).1
    have k5 := (hR.2.2.2.2.2 p hp1).2.2.2.1
    have k12 := hR.2.2.2.2.1
    refine c_besideBefore hC hR hI hp1 hk hjpre (Or.inr ⟨j, post, rfl, rfl⟩) ?_
    cases hz : pre.getLast? with
    | none =>
      have hnil : pre = [] := List.getLast?_eq_none_iff.mp hz
      refine ⟨fun c => absurd rfl c, fun _ => ⟨ij, ip, ip, ip, ?_⟩⟩
      rw [show en (some p) = nI p from rfl, cp, cj]
      refine c_makeRoot hC (hR.n hj).1 ?_
      refine h _ (CR_cut hR hI hjp hk (fun i => ?_) (fun a' i q => ?_) (fun i => ?_) (fun i => ?_) (fun i => ?_) (Or.inl ⟨hnil, fun i => ?_, fun i => ?_⟩)) (((((FH.rf.um (by omega) (by omega)).um (by omega) (by omega)).um (by omega) (by omega)).um (by omega) (by omega)).um (by omega) (by omega)) (fun i hi => by simp [um_at, show i ≠ 12 from fun e => absurd hi (by omega)])
      · simp [um_at, k12]
      · rcases q with q | q | q <;> subst q <;> simp [um_at]
      · simp [um_at]
      · simp [um_at, k5]
      · simp [um_at]
      · simp [um_at]
      · simp [um_at]
    | some z =>
      have hzm : z ∈ pre := List.mem_of_getLast? hz
      have hz1 := (kid_lt hI (x := z) (u := p) (by rw [hk]; exact List.mem_append_left _ hzm)).1
      have cz := cl40 (hR.n hz1).2
      refine ⟨fun _ => ⟨ij, inR (hR.n hz1).1, ip, ip, ?_⟩, fun c => absurd c (nI_m1 (by omega))⟩
      rw [show en (some p) = nI p from rfl, show en (some z) = nI z from rfl, cp, cj, cz]
      refine c_makeRoot hC (hR.n hj).1 ?_
      refine h _ (CR_cut hR hI hjp hk (fun i => ?_) (fun a' i q => ?_) (fun i => ?_) (fun i => ?_) (fun i => ?_) (Or.inr ⟨z, hz, fun i => ?_, fun i => ?_⟩)) (((((FH.rf.um (by omega) (by omega)).um (by omega) (by omega)).um (by omega) (by omega)).um (by omega) (by omega)).um (by omega) (by omega)) (fun i hi => by simp [um_at, show i ≠ 12 from fun e => absurd hi (by omega)])
      · simp [um_at, k12]
      · rcases q with q | q | q <;> subst q <;> simp [um_at]
      · simp [um_at]
      · simp [um_at, k5]
      · simp [um_at]
      · simp [um_at]
      · simp [um_at]
end LINKS

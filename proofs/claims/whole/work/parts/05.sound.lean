/-! SOUNDNESS OF THE ABSTRACT MACHINE over the kit's judgement W -/
/-- the tables' words that stay -/
def tW : List Cond := lw_tbl.filter goodWord
theorem tW_in {w : Cond} (h : w ∈ lw_tbl) (hg : goodWord w = true) : w ∈ tW := List.mem_filter.mpr ⟨h, hg⟩
abbrev GX : Type := Launch × va_G × (Nat → Nat → Nat) × (ClassId × ClassId × ClassId)
def cnt : Nat → Nat
  | 0 => 1
  | 1 | 2 | 3 | 4 | 5 | 6 | 7 | 8 | 9 | 10 => 4
  | 11 | 12 => 3
  | 13 | 14 | 15 | 16 | 17 | 18 | 19 => 1
  | 20 => 2
  | 21 | 22 | 23 | 24 | 25 | 26 | 27 | 28 | 29 | 30 | 31 | 32 | 33 | 34 => 1
  | _ => 0
def idx : List (Nat × Nat) := (List.range 35).flatMap fun a => (List.range (cnt a)).map fun t => (a, t)
def rv (G : GX) : AV → Value
  | .inl x => .int x
  | .inr (.inl x) => .long x
  | .inr (.inr (a, t)) => .ref (G.2.2.1 a t)
def cel (G : GX) (M : AM) (a t : Nat) : va_E := match a with
  | 0 => .inr (5, [.ref (G.2.2.1 1 0), .ref (G.2.2.1 11 0), .ref (G.2.2.1 13 0), .ref (G.2.2.1 18 0), .ref (G.2.2.1 19 0)])
  | 1 => .inr (1, [.int (M.1 1 t 0), .ref (G.2.2.1 2 t), .ref (G.2.2.1 3 t), .ref (G.2.2.1 4 t), .ref (G.2.2.1 5 t), .ref (G.2.2.1 6 t), .ref (G.2.2.1 7 t), .ref (G.2.2.1 8 t), .ref (G.2.2.1 9 t), .ref (G.2.2.1 10 t), .int (M.1 1 t 10), .int (M.1 1 t 11), .int (M.1 1 t 12), .int (M.1 1 t 13), .int (M.1 1 t 14)])
  | 11 => .inr (0, [.ref (G.2.2.1 12 t)])
  | 13 => .inr (4, [.ref (G.2.2.1 14 0), .ref (G.2.2.1 15 0), .ref (G.2.2.1 16 0), .ref (G.2.2.1 17 0), .ref (G.2.2.1 1 3), .int (M.1 13 t 5), .int (M.1 13 t 6), .int (M.1 13 t 7)])
  | 18 => .inr (3, [.long (M.2 0)])
  | 19 => .inl (G.2.2.2.2.2, 2, .inr (.inr (.inr (.inr (fun j => some (G.2.2.1 20 j))))))
  | 20 => .inr (2, [.ref (G.2.2.1 1 (t + 1)), .ref (G.2.2.1 11 (t + 1)), .int (M.1 20 t 2)])
  | 21 => .inr (6, [.int (M.1 21 t 0), .ref (G.2.2.1 22 0), .ref (G.2.2.1 23 0), .ref (G.2.2.1 24 0), .ref (G.2.2.1 25 0), .ref (G.2.2.1 26 0), .ref (G.2.2.1 27 0), .int (M.1 21 t 7), .int (M.1 21 t 8), .int (M.1 21 t 9), .int (M.1 21 t 10), .int (M.1 21 t 11), .ref (G.2.2.1 28 0), .int (M.1 21 t 13), .int (M.1 21 t 14), .ref (G.2.2.1 29 0), .ref (G.2.2.1 30 0), .ref (G.2.2.1 31 0), .ref (G.2.2.1 32 0), .int (M.1 21 t 19), .int (M.1 21 t 20), .int (M.1 21 t 21), .ref (G.2.2.1 33 0), .ref (G.2.2.1 34 0), .long (M.2 1)])
  | a => .inl (if aty a = 0 then G.2.2.2.1 else G.2.2.2.2.1, aln a t, .inl (M.1 a t))
def wsl (G : GX) (M : AM) : va_W := idx.map fun q => (G.2.2.1 q.1 q.2, cel G M q.1 q.2)
abbrev HR (G : GX) (M : AM) (H : Heap) : Prop := va_P G.2.1 vwCl (wsl G M) H
def tys3 (G : GX) : List (ClassId × FieldType) := [(G.2.2.2.1, .int), (G.2.2.2.2.1, .boolean), (G.2.2.2.2.2, .object "LooseHeap$Image")]
abbrev KO (G : GX) (U : State) : Prop := va_K G.2.1 vwCl (tys3 G) U
def Aq (G : GX) : Nat → Prop := fun q => ∃ a t : Nat, t < cnt a ∧ q = G.2.2.1 a t
/-- the world's cells are apart -/
def Ap (G : GX) : Prop := ∀ (i j : Nat) (p q : Nat × Nat), idx[i]? = some p → idx[j]? = some q → G.2.2.1 p.1 p.2 = G.2.2.1 q.1 q.2 → i = j
def vv : AV → Prop
  | .inr (.inr (a, t)) => t < cnt a ∨ (a = 35 ∧ t = 0)
  | _ => True
theorem idx_in {a t : Nat} (h : t < cnt a) : ∃ k : Nat, idx[k]? = some (a, t) := by
  have ha : a < 35 := by
    rcases Nat.lt_or_ge a 35 with h1 | h1
    · exact h1
    · obtain ⟨b, rfl⟩ : ∃ b, a = b + 35 := ⟨a - 35, by omega⟩
      have : cnt (b + 35) = 0 := rfl
      omega
  have hm : (a, t) ∈ idx := List.mem_flatMap.mpr ⟨a, List.mem_range.mpr ha, List.mem_map.mpr ⟨t, List.mem_range.mpr h, rfl⟩⟩
  exact List.getElem?_of_mem hm
theorem idx_ok {k : Nat} {q : Nat × Nat} (h : idx[k]? = some q) : q.2 < cnt q.1 := by
  obtain ⟨a, -, h1⟩ := List.mem_flatMap.mp (List.mem_of_getElem? h)
  obtain ⟨t, h2, rfl⟩ := List.mem_map.mp h1
  exact List.mem_range.mp h2
theorem wsl_at {G : GX} {M : AM} {k a t : Nat} (h : idx[k]? = some (a, t)) : (wsl G M)[k]? = some (G.2.2.1 a t, cel G M a t) := by
  simp [wsl, h]
theorem wsl_inv {G : GX} {M : AM} {k : Nat} {q : Nat × va_E} (h : (wsl G M)[k]? = some q) : ∃ p : Nat × Nat, idx[k]? = some p ∧ q = (G.2.2.1 p.1 p.2, cel G M p.1 p.2) := by
  simp only [wsl, List.getElem?_map] at h
  cases hi : idx[k]? with
  | none => rw [hi] at h; cases h
  | some p => rw [hi] at h; exact ⟨p, rfl, (Option.some.inj h).symm⟩
theorem Ap.D {G : GX} (h : Ap G) {A : Nat → Prop} (hA : ∀ q, Aq G q → A q) (M : AM) : va_D A (wsl G M) := by
  refine ⟨fun i j p q hi hj he => ?_, fun k q hk => ?_⟩
  · obtain ⟨p', h1, rfl⟩ := wsl_inv hi
    obtain ⟨q', h2, rfl⟩ := wsl_inv hj
    exact h i j p' q' h1 h2 he
  · obtain ⟨p', h1, rfl⟩ := wsl_inv hk
    exact hA _ ⟨p'.1, p'.2, idx_ok h1, rfl⟩
theorem Ap.inj {G : GX} (h : Ap G) {k k' : Nat} {p q : Nat × Nat} (h1 : idx[k]? = some p) (h2 : idx[k']? = some q) (hpq : k ≠ k') : p ≠ q := fun e => hpq (h k k' p q h1 h2 (by rw [e]))
theorem wsl_set {G : GX} (hAp : Ap G) {M M' : AM} {k a t : Nat} {e : va_E} (h : idx[k]? = some (a, t)) (he : e = cel G M' a t) (ho : ∀ a' t', (a', t') ≠ (a, t) → cel G M' a' t' = cel G M a' t') : (wsl G M).set k (G.2.2.1 a t, e) = wsl G M' := by
  apply List.ext_getElem?
  intro j
  by_cases hj : j = k
  · subst hj
    have hl : j < (wsl G M).length := by
      simp only [wsl, List.length_map]
      exact (List.getElem?_eq_some_iff.mp h).1
    rw [List.getElem?_set_self hl, wsl_at h, he]
  · rw [List.getElem?_set_ne (Ne.symm hj)]
    simp only [wsl, List.getElem?_map]
    cases hi : idx[j]? with
    | none => rfl
    | some p =>
      show some (_, cel G M p.1 p.2) = some (_, cel G M' p.1 p.2)
      rw [ho p.1 p.2 (hAp.inj hi h hj)]
-- locals
def LR (G : GX) (ls : Array Slot) (mL : Nat) (L : List (Option AV)) : Prop := ∃ l, lv_has ls mL l ∧ ∀ i v, ge L i = some v → (i, rv G v) ∈ l
theorem LR.at {G : GX} {ls : Array Slot} {mL : Nat} {L : List (Option AV)} (h : LR G ls mL L) {i : Nat} {v : AV} (hi : ge L i = some v) : ls[i]? = some (.val (rv G v)) := by
  obtain ⟨l, h1, h2⟩ := h
  exact h1.2.2 _ (h2 i v hi)
theorem ge_nil (j : Nat) : ge [] j = none := by cases j <;> rfl
theorem ge_se (i : Nat) : ∀ (L : List (Option AV)) (v : Option AV) (j : Nat) (w : AV), ge (se L i v) j = some w → (j = i ∧ v = some w) ∨ (j ≠ i ∧ ge L j = some w ∧ (j + 1 = i → isl (some w) = false)) := by
  induction i with
  | zero =>
    intro L v j w h
    cases L with
    | nil =>
      cases j with
      | zero => exact Or.inl ⟨rfl, h⟩
      | succ j => simp [se, ge, ge_nil] at h
    | cons x r =>
      cases j with
      | zero => exact Or.inl ⟨rfl, h⟩
      | succ j => exact Or.inr ⟨by omega, h, by omega⟩
  | succ i ih =>
    intro L v j w h
    cases L with
    | nil =>
      cases j with
      | zero => simp [se, ge] at h
      | succ j =>
        rcases ih [] v j w h with ⟨h1, h2⟩ | ⟨h1, h2, h3⟩
        · exact Or.inl ⟨by omega, h2⟩
        · rw [ge_nil] at h2; cases h2
    | cons x r =>
      cases i with
      | zero =>
        cases j with
        | zero =>
          have h' : cond (isl x) none x = some w := h
          cases hx : isl x with
          | true => rw [hx] at h'; cases h'
          | false =>
            rw [hx] at h'
            have h'' : x = some w := h'
            exact Or.inr ⟨by omega, h'', fun _ => by rw [← h'']; exact hx⟩
        | succ j =>
          rcases ih r v j w h with ⟨h1, h2⟩ | ⟨h1, h2, h3⟩
          · exact Or.inl ⟨by omega, h2⟩
          · exact Or.inr ⟨by omega, h2, by omega⟩
      | succ i =>
        cases j with
        | zero => exact Or.inr ⟨by omega, h, by omega⟩
        | succ j =>
          rcases ih r v j w h with ⟨h1, h2⟩ | ⟨h1, h2, h3⟩
          · exact Or.inl ⟨by omega, h2⟩
          · exact Or.inr ⟨by omega, h2, fun e => h3 (by omega)⟩
theorem rv_cat (G : GX) (w : AV) : (rv G w).category = cat1 w := by
  rcases w with x | x | ⟨a, t⟩ <;> rfl
theorem isl_cat (w : AV) : isl (some w) = false → ¬ cat1 w = 2 := by
  rcases w with x | x | ⟨a, t⟩ <;> simp [isl, cat1]
theorem LR.st1 {G : GX} {mL i : Nat} {L : List (Option AV)} {l : List (Nat × Value)} (h2 : ∀ i v, ge L i = some v → (i, rv G v) ∈ l) (x : Int32) : ∀ j w, ge (se L i (some (.inl x))) j = some w → (j, rv G w) ∈ ((i, Value.int x) :: l.filter (fun q => !(q.1 == i) && !(q.1 + 1 == i && q.2.category == 2))) := by
  intro j w h
  rcases ge_se i L _ j w h with ⟨rfl, h4⟩ | ⟨h4, h5, h6⟩
  · cases h4
    exact List.mem_cons_self
  · refine List.mem_cons_of_mem _ (List.mem_filter.mpr ⟨h2 j w h5, ?_⟩)
    have h7 : (j == i) = false := by simpa using h4
    by_cases h8 : j + 1 = i
    · have h9 := isl_cat w (h6 h8)
      rw [← rv_cat G] at h9
      simp [h7, h9]
    · simp [h7, h8]
theorem LR.st2 {G : GX} {mL i : Nat} {L : List (Option AV)} {l : List (Nat × Value)} (h2 : ∀ i v, ge L i = some v → (i, rv G v) ∈ l) (x : Int64) : ∀ j w, ge (se (se L (i + 1) none) i (some (.inr (.inl x)))) j = some w → (j, rv G w) ∈ ((i, Value.long x) :: l.filter (fun q => !(q.1 == i) && (!(q.1 == i + 1) && !(q.1 + 1 == i && q.2.category == 2)))) := by
  intro j w h
  rcases ge_se i _ _ j w h with ⟨rfl, h4⟩ | ⟨h4, h5, h6⟩
  · cases h4
    exact List.mem_cons_self
  · rcases ge_se (i + 1) L _ j w h5 with ⟨-, h7⟩ | ⟨h7, h8, -⟩
    · cases h7
    · refine List.mem_cons_of_mem _ (List.mem_filter.mpr ⟨h2 j w h8, ?_⟩)
      have h9 : (j == i) = false := by simpa using h4
      have h10 : (j == i + 1) = false := by simpa using h7
      by_cases h11 : j + 1 = i
      · have h12 := isl_cat w (h6 h11)
        rw [← rv_cat G] at h12
        simp [h9, h10, h12]
      · simp [h9, h10, h11]
-- the judgement of a method's body
def VL (L : List (Option AV)) : Prop := ∀ i v, ge L i = some v → vv v
def VS (S : List AV) : Prop := ∀ v ∈ S, vv v
theorem VS.tl {v : AV} {S : List AV} (h : VS (v :: S)) : VS S := fun w hw => h w (List.mem_cons_of_mem _ hw)
theorem VS.hd {v : AV} {S : List AV} (h : VS (v :: S)) : vv v := h v List.mem_cons_self
theorem VS.cons {v : AV} {S : List AV} (hv : vv v) (h : VS S) : VS (v :: S) := fun w hw => (List.mem_cons.mp hw).elim (fun e => by rw [e]; exact hv) (h w)
theorem VL.se {L : List (Option AV)} {i : Nat} {v : Option AV} (h : VL L) (hv : ∀ w, v = some w → vv w) : VL (se L i v) := fun j w hj => (ge_se i L v j w hj).elim (fun q => hv w q.2) (fun q => h j w q.2.1)
def rd (cc : ByteArray) (rt : Option FieldType) (pc : Nat) : Option AV → Prop
  | some (.inl v) => decode cc pc = .ok (.ireturn, 1) ∧ (rt = some .int ∨ (rt = some .boolean ∧ bz v = v))
  | some (.inr (.inl _)) => decode cc pc = .ok (.lreturn, 1) ∧ rt = some .long
  | some (.inr (.inr _)) => False
  | none => decode cc pc = .ok (.return_, 1) ∧ rt = none
abbrev SX : Type := Option (Nat × (Nat → Int32))
def Fx (G : GX) (own : String) (cc : ByteArray) (mL : Nat) (rt : Option FieldType) (d : Nat) (sx : SX) (p : Program) (R : Room) (s : State) (m : MethodId) (args : Array Value) (meth : Method) (c : Code) (cells slots : Nat) (A : Nat → Prop) : Prop :=
  p.tables.exec = Jvm.exec ∧ c.code = cc ∧ meth.sig.returnType = rt ∧ c.maxLocals = mL ∧ s.vm.findClass own = some m.cls ∧ (∀ w ∈ tW, w.before args s = true) ∧ KO G s ∧ meth.locks = false ∧ (d + 1 ≤ R.frames ∧ 40 * (d + 1) ≤ R.locals ∧ cells ≤ R.cells ∧ slots ≤ R.slots) ∧ (∀ q, Aq G q → A q) ∧ (∀ q, sx = some q → va_X (G.2.2.1 35 0) q.1 q.2 s s.heap ∧ G.2.2.1 35 0 < s.heap.size ∧ ¬ A (G.2.2.1 35 0))
def Iv (G : GX) (M : AM) (H : Heap) (A : Nat → Prop) (s : State) (locs : List Loc) (ls : Array Slot) (mL : Nat) (L : List (Option AV)) (S : List AV) : Prop :=
  HR G M H ∧ va_S A s.heap H locs ∧ LR G ls mL L ∧ VL L ∧ VS S
def V (G : GX) (own : String) (cc : ByteArray) (mL : Nat) (rt : Option FieldType) (d : Nat) (sx : SX) (Q : RP) : KP := fun pc L S M =>
  ∀ (p : Program) (e : Env) (R : Room) (s : State) (m : MethodId) (args : Array Value) (below : List Frame) (meth : Method) (c : Code) (H : Heap) (locs : List Loc) (cells slots : Nat) (A : Nat → Prop) (Z : State → Prop) (ls : Array Slot),
    Fx G own cc mL rt d sx p R s m args meth c cells slots A → Iv G M H A s locs ls mL L S →
    (∀ (pc' : Nat) (ls' : Array Slot) (H' : Heap) (locs' : List Loc) (r : Option AV) (M' : AM), rd cc rt pc' r → Q r M' → HR G M' H' → va_S A s.heap H' locs' → W p G.1 e R s m args below meth c H' locs' cells slots Z (F0 m pc' ls' (r.toList.map (rv G)))) →
    W p G.1 e R s m args below meth c H locs cells slots Z (F0 m pc ls (S.map (rv G)))
def mQ (G : GX) (Q : RP) : Array Value → State → Outcome → State → Prop := fun _ st oc t => (∃ (r : Option AV) (M' : AM), oc = .returned (r.map (rv G)) ∧ Q r M' ∧ (∀ v, r = some v → vv v) ∧ HR G M' t.heap) ∧ va_F (Aq G) st t
def roomOf (d : Nat) : Room := { frames := d, cells := 0, slots := 0, locals := 40 * d }
abbrev MT : Type := MethodName × ByteArray × Nat × Option FieldType
def Ct (G : GX) (mts : Nat → Option MT) (d : Nat) : CP := fun y As M Q => ∃ r : MT, mts y = some r ∧ ((∀ v ∈ As, vv v ∧ cat1 v = 1) → As.length ≤ r.2.2.1 → Met G.1 r.1 (.code r.1 r.2.1 r.2.2.1 r.2.2.2 :: tW) (roomOf d) (va_Pc (As.map (rv G)) (fun U => HR G M U.heap ∧ KO G U)) (mQ G Q) 0 0 (Aq G))
def Snd (G : GX) (mts : Nat → Option MT) (own : String) (cc : ByteArray) (mL : Nat) (rt : Option FieldType) (d : Nat) (sx : SX) (pc : Nat) (i : Ins) : Prop :=
  ∀ (Q : RP) (K : KP), (∀ pc L S M, K pc L S M → V G own cc mL rt d sx Q pc L S M) → ∀ L S M, i (Ct G mts d) L S M Q K → V G own cc mL rt d sx Q pc L S M

/-! THE BITS OF A NUMBER -/
theorem l_shlN (n : Nat) (s : Int64) (k : Nat) (hs : (s.toBitVec.smod 64).toNat = k) : lN n <<< s = lN (n * 2 ^ k) := by
  apply Int64.toBitVec_inj.mp
  apply BitVec.eq_of_toNat_eq
  show ((BitVec.ofNat 64 n) <<< (s.toBitVec.smod 64).toNat).toNat = (BitVec.ofNat 64 (n * 2 ^ k)).toNat
  rw [hs, BitVec.toNat_shiftLeft, Nat.shiftLeft_eq, BitVec.toNat_ofNat, BitVec.toNat_ofNat, Nat.mod_mul_mod]
theorem l_shrN {n : Nat} (h : n < 2 ^ 63) (s : Int64) (k : Nat) (hs : (s.toBitVec.smod 64).toNat = k) : lN n >>> s = lN (n / 2 ^ k) := by
  apply Int64.toInt_inj.mp
  have h2 : n / 2 ^ k ≤ n := Nat.div_le_self _ _
  have e : (lN n >>> s).toInt = (lN n).toInt >>> k := by
    show ((lN n).toBitVec.sshiftRight (s.toBitVec.smod 64).toNat).toInt = _
    rw [hs, BitVec.toInt_sshiftRight]
    rfl
  rw [e, pk_lT h, pk_lT (by omega), Int.shiftRight_eq_div_pow]
  rfl
theorem l_orN (a b : Nat) : lN a ||| lN b = lN (a ||| b) := by
  apply Int64.toBitVec_inj.mp
  show BitVec.ofNat 64 a ||| BitVec.ofNat 64 b = BitVec.ofNat 64 (a ||| b)
  exact BitVec.ofNat_or.symm
theorem s64 : ∀ i : Fin 64, (((nI i.1).toInt64 &&& 63).toBitVec.smod 64).toNat = i.1 := by decide
theorem s64' {i : Nat} (h : i < 64) : (((nI i).toInt64 &&& 63).toBitVec.smod 64).toNat = i := s64 ⟨i, h⟩
theorem s32 : ∀ i : Fin 32, ((nI i.1 &&& 31).toBitVec.smod 32).toNat = i.1 := by decide
theorem s32' {i : Nat} (h : i < 32) : ((nI i &&& 31).toBitVec.smod 32).toNat = i := s32 ⟨i, h⟩
theorem shl_l (n i : Nat) (h : i < 64) : lN n <<< ((nI i).toInt64 &&& 63) = lN (n * 2 ^ i) := l_shlN n _ i (s64' h)
theorem eB8 : ∀ p : Fin 20, (nI p.1 + -4).toInt64 + ((1 : Int64) <<< ((nI 8 - 1).toInt64 &&& 63)) - 1 = lN (p.1 + 123) := by decide
theorem eB11 : ∀ p : Fin 20, (nI p.1 + -4).toInt64 + ((1 : Int64) <<< ((nI 11 - 1).toInt64 &&& 63)) - 1 = lN (p.1 + 1019) := by decide
def BP (eb fb e sb : Nat) : Prop := (eb = 8 ∧ fb = 23 ∧ e = 123 ∧ sb = 31) ∨ (eb = 11 ∧ fb = 52 ∧ e = 1019 ∧ sb = 63)
theorem bits_eq {eb fb e sb sg p m : Nat} (hP : BP eb fb e sb) (hp : p < 20) (h1 : 2 ^ p ≤ m) (h2 : m < 2 ^ (p + 1)) :
    ((lN sg <<< ((nI eb + nI fb).toInt64 &&& 63)) ||| (((nI p + -4).toInt64 + ((1 : Int64) <<< ((nI eb - 1).toInt64 &&& 63)) - 1) <<< ((nI fb).toInt64 &&& 63))) ||| ((lN m - ((1 : Int64) <<< ((nI p).toInt64 &&& 63))) <<< ((nI fb - nI p).toInt64 &&& 63)) = lN (sg * 2 ^ sb + (p + e) * 2 ^ fb + (m - 2 ^ p) * 2 ^ (fb - p)) := by
  have hf : fb < 64 ∧ 20 ≤ fb ∧ sb = eb + fb ∧ sb < 64 ∧ 20 + e ≤ 2 ^ eb ∧ (nI p + -4).toInt64 + ((1 : Int64) <<< ((nI eb - 1).toInt64 &&& 63)) - 1 = lN (p + e) := by
    rcases hP with ⟨a, b, c, d⟩ | ⟨a, b, c, d⟩ <;> subst a <;> subst b <;> subst c <;> subst d
    · exact ⟨by omega, by omega, by omega, by omega, by omega, eB8 ⟨p, hp⟩⟩
    · exact ⟨by omega, by omega, by omega, by omega, by omega, eB11 ⟨p, hp⟩⟩
  obtain ⟨f1, f2, f3, f4, f5, f6⟩ := hf
  have e1 : (1 : Int64) <<< ((nI p).toInt64 &&& 63) = lN (2 ^ p) := by
    have := shl_l 1 p (by omega)
    rw [Nat.one_mul] at this
    exact this
  rw [f6, e1, lN_sub h1, nI_add, ← f3, pk_sub (by omega), shl_l _ _ f4, shl_l _ _ f1, shl_l _ _ (by omega), l_orN, l_orN]
  have q1 : (p + e) * 2 ^ fb < 2 ^ sb := by
    rw [f3, Nat.pow_add]
    exact (Nat.mul_lt_mul_right (Nat.two_pow_pos fb)).mpr (by omega)
  have q2 : (m - 2 ^ p) * 2 ^ (fb - p) < 2 ^ fb := by
    have : 2 ^ fb = 2 ^ p * 2 ^ (fb - p) := by rw [← Nat.pow_add]; congr 1; omega
    rw [this]
    refine (Nat.mul_lt_mul_right (Nat.two_pow_pos _)).mpr ?_
    rw [Nat.pow_succ] at h2
    omega
  have o1 := Nat.two_pow_add_eq_or_of_lt q1 sg
  have o2 := Nat.two_pow_add_eq_or_of_lt q2 (sg * 2 ^ eb + (p + e))
  rw [Nat.mul_comm (2 ^ sb) sg] at o1
  have e3 : 2 ^ fb * (sg * 2 ^ eb + (p + e)) = sg * 2 ^ sb + (p + e) * 2 ^ fb := by
    rw [f3, Nat.pow_add, Nat.mul_add, Nat.mul_comm (2 ^ fb) (p + e), ← Nat.mul_assoc sg, Nat.mul_comm (2 ^ fb) (sg * 2 ^ eb)]
  rw [e3] at o2
  rw [← o1, ← o2]
theorem abs_l {x : Int32} (h0 : ¬ x = 0) : (if 0 < x.toInt64 then x.toInt64 else -x.toInt64) = lN x.toInt.natAbs := by
  apply Int64.toInt_inj.mp
  have h1 := Int32.toInt_lt x
  have h2 := Int32.le_toInt x
  rw [pk_lT (by omega)]
  have hz : (0 : Int64).toInt = 0 := by decide
  by_cases q : 0 < x.toInt64
  · rw [if_pos q]
    rw [Int64.lt_iff_toInt_lt, Int32.toInt_toInt64] at q
    rw [Int32.toInt_toInt64]
    omega
  · rw [if_neg q]
    rw [Int64.lt_iff_toInt_lt, Int32.toInt_toInt64] at q
    rw [Int64.toInt_neg, Int32.toInt_toInt64, Int.bmod_def]
    split <;> omega
theorem fN_nz {x : Int32} (h0 : ¬ x = 0) (e fb sb : Nat) : fN x e fb sb = (if x < 0 then 1 else 0) * 2 ^ sb + (Nat.log2 x.toInt.natAbs + e) * 2 ^ fb + (x.toInt.natAbs - 2 ^ Nat.log2 x.toInt.natAbs) * 2 ^ (fb - Nat.log2 x.toInt.natAbs) := by
  unfold fN
  rw [if_neg h0]
  by_cases q : x < 0
  · rw [if_pos q, if_pos q, Nat.one_mul]
  · rw [if_neg q, if_neg q, Nat.zero_mul]
theorem log_ok {x : Int32} (h0 : ¬ x = 0) (hx : x.toInt.natAbs < 2 ^ 20) : x.toInt.natAbs ≠ 0 ∧ Nat.log2 x.toInt.natAbs < 20 ∧ 2 ^ Nat.log2 x.toInt.natAbs ≤ x.toInt.natAbs ∧ x.toInt.natAbs < 2 ^ (Nat.log2 x.toInt.natAbs + 1) := by
  have hz : (0 : Int32).toInt = 0 := by decide
  have h1 : x.toInt.natAbs ≠ 0 := fun e => h0 (Int32.toInt_inj.mp (by omega))
  exact ⟨h1, (Nat.log2_lt h1).mpr hx, Nat.log2_self_le h1, Nat.lt_log2_self⟩
section BITS
variable {C : Nat → CP} {d k : Nat} {W : WS} {A : AH} {M : AM} {Q : RP}
set_option maxRecDepth 20000 in
theorem c_bitsOf (hC : ClA C) {x : Int32} {eb fb e sb : Nat} (hP : BP eb fb e sb) (hx : x.toInt.natAbs < 2 ^ 20) (h : Q (some (.inr (.inl (lN (fN x e fb sb))))) M) : C (d + 1) n_X1_bitsOf [vi x, vi (nI eb), vi (nI fb)] M Q := by
  refine hC.X1_bitsOf d _ M Q (fun P go => ?_)
  refine go [(18, 7)] 99 _ _ _ _ ⟨fun c => ?_, fun c => ?_⟩
  rotate_left
  · subst c
    have : fN 0 e fb sb = 0 := by unfold fN; rw [if_pos rfl]
    rw [this] at h
    exact h
  rw [fN_nz c] at h
  obtain ⟨g1, g2, g3, g4⟩ := log_ok c hx
  have ea := abs_l c
  generalize x.toInt.natAbs = m at *
  generalize hp : Nat.log2 m = p at *
  have loop : ∀ f i, i + f = 20 → P 18 [some (vi x), some (vi (nI eb)), some (vi (nI fb)), some (.inr (.inl (lN m))), none, some (vi (nI (min (i - 1) p))), some (vi (nI i))] [] M := by
    intro f
    induction f with
    | zero =>
      intro i hi
      have ei : i = 20 := by omega
      subst ei
      have em : min (20 - 1) p = p := by omega
      rw [em]
      refine go [] 99 _ _ _ _ ⟨fun _ => ⟨fun c2 => ?_, fun c2 => ?_⟩, fun c2 => absurd (Int32.le_refl _) c2⟩
      · have q : ¬ x < 0 := fun q => by
          rw [Int32.le_iff_toInt_le] at c2
          rw [Int32.lt_iff_toInt_lt] at q
          omega
        rw [if_neg q, ← bits_eq (sg := 0) hP g2 g3 g4] at h
        exact h
      · have q : x < 0 := by
          rw [Int32.le_iff_toInt_le] at c2
          rw [Int32.lt_iff_toInt_lt]
          omega
        rw [if_pos q, ← bits_eq (sg := 1) hP g2 g3 g4] at h
        exact h
    | succ f ih =>
      intro i hi
      have hi20 : i < 20 := by omega
      have nx := ih (i + 1) (by omega)
      rw [← nI_1] at nx
      have e1 : lN m >>> ((nI i).toInt64 &&& 63) = lN (m / 2 ^ i) := l_shrN (by omega) _ i (s64' (by omega))
      have hle : m / 2 ^ i ≤ m := Nat.div_le_self _ _
      have e2 : lg_cmp (lN m >>> ((nI i).toInt64 &&& 63)) 0 = 0 ↔ m / 2 ^ i = 0 := by
        rw [lg_cmp_eq, e1]
        exact pk_lEQ (a := m / 2 ^ i) (b := 0) (by omega) (by omega)
      have e3 : m / 2 ^ i = 0 ↔ ¬ i ≤ p := by
        rw [← hp, Nat.le_log2 g1, Nat.div_eq_zero_iff]
        have := Nat.two_pow_pos i
        omega
      refine go [(18, 7)] 99 _ _ _ _ ⟨fun c2 => absurd c2 (nI_ge (b := 20) hi20 (by omega)), fun _ => ⟨fun c2 => ?_, fun c2 => ?_⟩⟩
      · have q := e3.mp (e2.mp c2)
        rw [show min (i + 1 - 1) p = min (i - 1) p by omega] at nx
        exact nx
      · have q : i ≤ p := by
          rcases Nat.lt_or_ge p i with w | w
          · exact absurd (e2.mpr (e3.mpr (by omega))) c2
          · exact w
        rw [show min (i + 1 - 1) p = i by omega] at nx
        exact nx
  have st := loop 20 0 (by omega)
  rw [show min (0 - 1) p = 0 by omega, ← ea] at st
  exact st
set_option maxRecDepth 20000 in
theorem m_power (hC : ClA C) {m : Nat} (h0 : m ≠ 0) (hm : m < 2 ^ 20) (h : Q (some (vi (nI (Nat.log2 m)))) M) : C (d + 1) n_X7_power [vi (nI m)] M Q := by
  refine hC.X7_power d _ M Q (fun P go => ?_)
  have hp20 : Nat.log2 m < 20 := (Nat.log2_lt h0).mpr hm
  have loop : ∀ f i, i + f = Nat.log2 m → P 2 [some (vi (nI m)), some (vi (nI i))] [] M := by
    intro f
    have e1 : ∀ i, i < 20 → nI m >>> ((nI i + 1) &&& 31) = nI (m / 2 ^ (i + 1)) := fun i hi => by
      rw [nI_1]
      exact pk_shrN (by omega) _ (i + 1) (s32' (by omega))
    have e3 : ∀ i, m / 2 ^ (i + 1) = 0 ↔ ¬ (i + 1) ≤ Nat.log2 m := fun i => by
      rw [Nat.le_log2 h0, Nat.div_eq_zero_iff]
      have := Nat.two_pow_pos (i + 1)
      omega
    have e4 : ∀ i, m / 2 ^ (i + 1) < 2 ^ 31 := fun i => by
      have := Nat.div_le_self m (2 ^ (i + 1))
      omega
    induction f with
    | zero =>
      intro i hi
      have ei : i = Nat.log2 m := by omega
      refine go [] 99 _ _ _ _ ⟨fun _ => by rw [← ei] at h; exact h, fun c => absurd ?_ c⟩
      rw [e1 i (by omega), (e3 i).mpr (by omega)]
      exact Int32.le_refl _
    | succ f ih =>
      intro i hi
      have nx := ih (i + 1) (by omega)
      rw [← nI_1] at nx
      refine go [(2, 2)] 99 _ _ _ _ ⟨fun c => ?_, fun _ => nx⟩
      rw [e1 i (by omega)] at c
      have := (nI_le0 (e4 i)).mp c
      have := (e3 i).mp (Nat.eq_zero_of_not_pos this)
      omega
  have := loop (Nat.log2 m) 0 (by omega)
  exact go [(2, 2)] 99 _ _ _ _ this
theorem neg_n {x : Int32} (h : x < 0) (hx : x.toInt.natAbs < 2 ^ 20) : -x = nI x.toInt.natAbs := by
  apply Int32.toInt_inj.mp
  rw [Int32.lt_iff_toInt_lt] at h
  have hz : (0 : Int32).toInt = 0 := by decide
  rw [Int32.toInt_neg, nI_toInt (by omega), Int.bmod_def]
  split <;> omega
theorem pos_n {x : Int32} (h : ¬ x < 0) : x = nI x.toInt.natAbs := by
  apply Int32.toInt_inj.mp
  rw [Int32.lt_iff_toInt_lt] at h
  have hz : (0 : Int32).toInt = 0 := by decide
  have := Int32.toInt_lt x
  rw [nI_toInt (by omega)]
  omega
theorem shl_i {n i : Nat} (h : i < 32) (hb : n * 2 ^ i < 2 ^ 32) : nI n <<< (nI i &&& 31) = nI (n * 2 ^ i) := pk_shlN _ i (s32' h) hb
theorem frac_lt {m p fb : Nat} (h2 : m < 2 ^ (p + 1)) (hf : p ≤ fb) : (m - 2 ^ p) * 2 ^ (fb - p) < 2 ^ fb := by
  have : 2 ^ fb = 2 ^ p * 2 ^ (fb - p) := by rw [← Nat.pow_add]; congr 1; omega
  rw [this]
  refine (Nat.mul_lt_mul_right (Nat.two_pow_pos _)).mpr ?_
  rw [Nat.pow_succ] at h2
  have := Nat.two_pow_pos p
  omega
set_option maxRecDepth 20000 in
theorem m_bitsOf (hC : ClA C) {x : Int32} (hx : x.toInt.natAbs < 2 ^ 20) (h : Q (some (vi (nI (fN x 123 23 31)))) M) : C (d + 2) n_X7_bitsOf [vi x] M Q := by
  refine hC.X7_bitsOf (d + 1) _ M Q (fun P go => ?_)
  refine go [(16, 1)] 99 _ _ _ _ ⟨fun c => ?_, fun c => ?_⟩
  rotate_left
  · subst c
    have : fN 0 123 23 31 = 0 := by unfold fN; rw [if_pos rfl]
    rw [this] at h
    exact h
  rw [fN_nz c] at h
  obtain ⟨g1, g2, g3, g4⟩ := log_ok c hx
  have en := @neg_n x
  have ep := @pos_n x
  have t16 : P 16 [some (vi x)] [vi (nI x.toInt.natAbs)] M := by
    clear en ep
    generalize x.toInt.natAbs = m at *
    refine go [] 99 _ _ _ _ ?_
    refine m_power hC g1 hx ?_
    have hfr := frac_lt (fb := 23) g4 (by omega)
    generalize Nat.log2 m = p at *
    have e1 : (1 : Int32) <<< (nI p &&& 31) = nI (2 ^ p) := by
      have := shl_i (n := 1) (i := p) (by omega) (by rw [Nat.one_mul]; omega)
      rw [Nat.one_mul] at this
      exact this
    have e2 : (nI m - ((1 : Int32) <<< (nI p &&& 31))) <<< ((23 - nI p) &&& 31) = nI ((m - 2 ^ p) * 2 ^ (23 - p)) := by
      rw [e1, pk_sub g3, show (23 : Int32) = nI 23 from rfl, pk_sub (by omega), shl_i (by omega) (by omega)]
    have e3 : (nI p + 123) <<< ((23 : Int32) &&& 31) = nI ((p + 123) * 2 ^ 23) := by
      rw [show nI p + 123 = nI (p + 123) from nI_add p 123, show (23 : Int32) = nI 23 from rfl, shl_i (by omega) (by omega)]
    refine ⟨fun c2 => ?_, fun c2 => ?_⟩
    · have q : ¬ x < 0 := fun q => by
        rw [Int32.le_iff_toInt_le] at c2
        rw [Int32.lt_iff_toInt_lt] at q
        omega
      rw [if_neg q] at h
      have e4 : (nI p + 123) <<< ((23 : Int32) &&& 31) + ((nI m - ((1 : Int32) <<< (nI p &&& 31))) <<< ((23 - nI p) &&& 31)) + 0 = nI (0 * 2 ^ 31 + (p + 123) * 2 ^ 23 + (m - 2 ^ p) * 2 ^ (23 - p)) := by
        rw [e2, e3, nI_add, show (0 : Int32) = nI 0 from rfl, nI_add]
        exact congrArg nI (by omega)
      rw [← e4] at h
      exact h
    · have q : x < 0 := by
        rw [Int32.le_iff_toInt_le] at c2
        rw [Int32.lt_iff_toInt_lt]
        omega
      rw [if_pos q] at h
      have e4 : (nI p + 123) <<< ((23 : Int32) &&& 31) + ((nI m - ((1 : Int32) <<< (nI p &&& 31))) <<< ((23 - nI p) &&& 31)) + (-2147483648) = nI (1 * 2 ^ 31 + (p + 123) * 2 ^ 23 + (m - 2 ^ p) * 2 ^ (23 - p)) := by
        rw [e2, e3, nI_add, show (-2147483648 : Int32) = nI (2 ^ 31) by decide, nI_add]
        exact congrArg nI (by omega)
      rw [← e4] at h
      exact h
  refine ⟨fun c2 => ?_, fun c2 => ?_⟩
  · have q : ¬ x < 0 := fun q => by
      rw [Int32.le_iff_toInt_le] at c2
      rw [Int32.lt_iff_toInt_lt] at q
      omega
    rw [← ep q] at t16
    exact t16
  · have q : x < 0 := by
      rw [Int32.le_iff_toInt_le] at c2
      rw [Int32.lt_iff_toInt_lt]
      omega
    rw [← en q hx] at t16
    exact t16
theorem key_abs {x : Int32} (h : KeyOk x) : x.toInt.natAbs < 2 ^ 20 := by unfold KeyOk at h; omega
theorem smU_bd (hI : Inv A) : ∀ j, j ≤ hn A → -(9999 * (j : Int)) ≤ (smU A j).toInt ∧ (smU A j).toInt ≤ 9999 * (j : Int) := by
  have h40 := hI.2.2.2.2.2.2.1
  intro j
  induction j with
  | zero =>
    intro _
    have : (smU A 0).toInt = 0 := by unfold smU; decide
    omega
  | succ j ih =>
    intro hj
    have h1 := ih (by omega)
    unfold smU
    cases hs A j with
    | false => show _ ≤ (smU A j).toInt ∧ (smU A j).toInt ≤ _; omega
    | true =>
      have hk' := (hI.2.2.2.2.2.2.2 j (by omega)).1
      unfold KeyOk at hk'
      have e : (smU A j + hk A j).toInt = (smU A j).toInt + (hk A j).toInt := by
        rw [Int32.toInt_add, Int.bmod_def]
        split <;> omega
      show _ ≤ (smU A j + hk A j).toInt ∧ (smU A j + hk A j).toInt ≤ _
      omega
theorem sm_abs (hI : Inv A) : (smU A (hn A)).toInt.natAbs < 2 ^ 20 := by
  have h40 := hI.2.2.2.2.2.2.1
  have := smU_bd hI (hn A) (Nat.le_refl _)
  omega
set_option maxRecDepth 20000 in
theorem c_bits (hC : ClA C) (hW : CW W M) (hI : WI k W) (h : Q (some (.inr (.inl (p_bits W)))) M) : C (d + 2) n_X6_bits [vr 0 0] M Q := by
  refine hC.X6_bits (d + 1) _ M Q (fun P go => ?_)
  refine go [] 99 _ _ _ _ ?_
  refine c_sumOfKeys hC hW.1 ?_
  exact c_bitsOf (eb := 11) (fb := 52) (e := 1019) (sb := 63) hC (.inr ⟨rfl, rfl, rfl, rfl⟩) (sm_abs hI.1) h
set_option maxRecDepth 20000 in
theorem c_job (hC : ClA C) (hW : CW W M) (hI : WI k W) {x w : Int32} (h : Q (some (vi (p_job W x w))) M) : C (d + 3) n_X6_job [vr 0 0, vi x, vi w] M Q := by
  refine hC.X6_job (d + 2) _ M Q (fun P go => ?_)
  unfold p_job at h
  refine go [] 99 _ _ _ _ ?_
  refine c_has hC hW.1 ⟨fun c => ?_, fun c => ?_⟩
  · have e1 := b2_n0 c
    rw [e1] at h
    obtain ⟨hx, hj⟩ := hasJ_ok hI.1 e1
    generalize jx x = j at hx hj h
    subst hx
    replace h : Q (some (vi (p_jv W.1 j w))) M := h
    unfold p_jv at h
    refine ⟨fun e => ?_, fun n0 => ⟨fun e => ?_, fun n1 => ⟨fun e => ?_, fun n2 => ⟨fun e => ?_, fun n3 => ⟨fun e => ?_, fun n4 => ⟨fun e => ?_, fun n5 => ⟨fun e => ?_, fun n6 => ⟨fun e => ?_, fun n7 => ⟨fun e => ?_, fun n8 => ?_⟩⟩⟩⟩⟩⟩⟩⟩⟩
    · subst e; exact c_kindOf hC hW.1 hj h
    · subst e; exact c_keyOf hC hW.1 hj h
    · subst e; exact c_isStanding hC hW.1 hj (c_flag hC h)
    · subst e; exact c_aboveOf hC hW.1 hj h
    · subst e; exact c_rankOf hC hW.1 hj h
    · subst e; exact c_isLoose hC hW.1 hj (c_flag hC h)
    · subst e; exact c_depthOf hC hW.1 hI.1 hj h
    · subst e; exact c_sizeOf hC hW.1 hI.1 hj h
    · subst e
      refine c_keyOf hC hW.1 hj ?_
      refine c_bitsOf (eb := 8) (fb := 23) (e := 123) (sb := 31) hC (.inl ⟨rfl, rfl, rfl, rfl⟩) (key_abs (hI.1.2.2.2.2.2.2.2 j hj).1) ?_
      replace h : Q (some (vi (nI (fN (hk W.1 j) 123 23 31)))) M := h
      rw [← lN_i] at h
      exact h
    · rw [if_neg n0, if_neg n1, if_neg n2, if_neg n3, if_neg n4, if_neg n5, if_neg n6, if_neg n7, if_neg n8] at h
      exact h
  · rw [b2_0 c] at h
    exact h
/-- a job that has gone -/
theorem wiF_s {u : Nat} (hI : Inv A) : ∀ f o, (∀ x, o = some x → hs A x = true) → wiF A f o u = true → hs A u = true := by
  intro f
  induction f with
  | zero =>
    intro o ho h
    exact ho u (of_decide_eq_true h)
  | succ f ih =>
    intro o ho h
    cases o with
    | none => cases h
    | some x =>
      replace h : (if x = u then true else wiF A f (hp A x) u) = true := h
      by_cases e : x = u
      · rw [← e]; exact ho x rfl
      · rw [if_neg e] at h
        exact ih (hp A x) (fun y hy => (hI.2.2.1 x y hy).2.2.2) h
theorem gone {j : Nat} (hI : Inv A) (h : hs A j = false) : hp A j = none ∧ rk A j = 0 ∧ hl A j = false ∧ cU (fun x => hs A x && wiF A 40 (some x) j) (hn A) = 0 := by
  have h1 : hp A j = none := by
    cases e : hp A j with
    | none => rfl
    | some p => have := (hI.2.2.1 j p e).2.2.1; rw [h] at this; cases this
  refine ⟨h1, ?_, ?_, ?_⟩
  · have : hc A j = [] := by
      cases e : hc A j with
      | nil => rfl
      | cons a r =>
        have := (hI.1 a j).mpr (by rw [e]; exact List.mem_cons_self)
        have := (hI.2.2.1 a j this).2.2.2
        rw [h] at this; cases this
    show (hc A j).length = 0
    rw [this]; rfl
  · cases e : hl A j with
    | false => rfl
    | true => exact absurd h1 (hI.2.2.2.1 j e)
  · have : (fun x => hs A x && wiF A 40 (some x) j) = fun _ => false := by
      funext x
      cases e : hs A x with
      | false => rfl
      | true =>
        cases e2 : wiF A 40 (some x) j with
        | false => rfl
        | true =>
          have := wiF_s hI 40 (some x) (fun y hy => by cases hy; exact e) e2
          rw [h] at this; cases this
    rw [this]
    unfold cU
    simp
set_option maxRecDepth 20000 in
theorem m_job (hC : ClA C) (hW : MW W M) (hI : WI k W) {x w : Int32} (h : ∀ M', MW W M' → FN M M' → Q (some (vi (p_job W x w))) M') : C (d + 3) n_X7_job [vr 21 0, vi x, vi w] M Q := by
  refine hC.X7_job (d + 2) _ M Q (fun P go => ?_)
  unfold p_job at h
  refine go [] 99 _ _ _ _ ?_
  refine m_isJob hC hW.1 hW.2.1 (fun M1 hM1 hF1 _ => ?_)
  have hs0 := MW_same hW hM1.D hM1.2 hF1
  replace h := h M1 hs0.1 hs0.2
  refine ⟨fun c => ?_, fun c => ?_⟩
  · have e1 := b2_n0 c
    rw [e1] at h
    obtain ⟨hx, hj⟩ := hasJ_ok hI.1 e1
    generalize jx x = j at hx hj h
    subst hx
    replace h : Q (some (vi (p_jv W.1 j w))) M1 := h
    unfold p_jv at h
    obtain ⟨-, ij, cj, kd, kk, ks, kp, kl⟩ := hM1.1.row hj
    rw [Nat.zero_add] at ij cj kd kk ks kp kl
    have hg := @gone W.1 j hI.1
    refine m_in hC ⟨fun c2 => ⟨ij, ?_⟩, fun c2 => ?_⟩
    · obtain ⟨b1, -, b3⟩ := btw_nat (lo := 0) (hi := 8) (by omega) (by omega) (b2_n0 c2)
      refine ⟨fun e => ?_, fun n0 => ⟨fun e => ?_, fun n1 => ⟨fun e => ?_, fun n2 => ⟨fun e => ?_, fun n3 => ⟨fun e => ?_, fun n4 => ⟨fun e => ?_, fun n5 => ⟨fun e => ?_, fun n6 => ⟨fun e => ?_, fun n7 => ?_⟩⟩⟩⟩⟩⟩⟩⟩
      · subst e
        replace h : Q (some (vi (hd W.1 j))) M1 := h
        rw [← kd] at h
        exact ⟨ij, by rw [cj]; exact h⟩
      · subst e
        replace h : Q (some (vi (hk W.1 j))) M1 := h
        rw [← kk] at h
        exact ⟨ij, by rw [cj]; exact h⟩
      · subst e
        replace h : Q (some (vi (b2 (hs W.1 j)))) M1 := h
        refine ⟨fun q => ?_, fun q => ?_⟩ <;> rw [cj, ks] at q
        · rw [b2_0 q] at h; exact h
        · rw [b2_n0 q] at h; exact h
      · subst e
        replace h : Q (some (vi (en (hp W.1 j)))) M1 := h
        refine ⟨fun q => ?_, fun q => ⟨ij, ?_⟩⟩
        · rw [cj, ks] at q
          rw [(hg (b2_0 q)).1] at h; exact h
        · rw [cj, kp, enb0]; exact h
      · subst e
        replace h : Q (some (vi (nI (rk W.1 j)))) M1 := h
        refine ⟨fun q => ?_, fun q => ?_⟩
        · rw [cj, ks] at q
          rw [(hg (b2_0 q)).2.1] at h; exact h
        · exact C_arg (As' := [vr 21 0, vi (nI (0 + j))]) (by rw [Nat.zero_add]) (m_rank hC hM1.1 hI.1 hj h)
      · subst e
        replace h : Q (some (vi (b2 (hl W.1 j)))) M1 := h
        refine ⟨fun q => ?_, fun q => ⟨ij, fun q2 => ?_, fun q2 => ?_⟩⟩ <;> rw [cj, ks] at q
        · rw [(hg (b2_0 q)).2.2.1] at h; exact h
        · rw [cj, kl] at q2
          rw [b2_0 q2] at h; exact h
        · rw [cj, kl] at q2
          rw [b2_n0 q2] at h; exact h
      · subst e
        replace h : Q (some (vi (nI (dpF W.1 40 (hp W.1 j))))) M1 := h
        refine ⟨fun q => ?_, fun q => ?_⟩
        · rw [cj, ks] at q
          rw [(hg (b2_0 q)).1] at h; exact h
        · exact m_depth hC hM1.1 hI.1 hj h
      · subst e
        replace h : Q (some (vi (nI (cU (fun x => hs W.1 x && wiF W.1 40 (some x) j) (hn W.1))))) M1 := h
        refine ⟨fun q => ?_, fun q => ?_⟩
        · rw [cj, ks] at q
          rw [(hg (b2_0 q)).2.2.2] at h; exact h
        · exact m_under hC hM1 hI.1 hj h
      · have e8 : w = 8 := by
          rw [b1]
          have hne : ∀ i : Nat, i < 8 → jx w = i → w = nI i := fun i _ e => by rw [← e]; exact b1
          rcases (show jx w = 0 ∨ jx w = 1 ∨ jx w = 2 ∨ jx w = 3 ∨ jx w = 4 ∨ jx w = 5 ∨ jx w = 6 ∨ jx w = 7 ∨ jx w = 8 by omega) with q | q | q | q | q | q | q | q | q
          · exact absurd (hne 0 (by omega) q) n0
          · exact absurd (hne 1 (by omega) q) n1
          · exact absurd (hne 2 (by omega) q) n2
          · exact absurd (hne 3 (by omega) q) n3
          · exact absurd (hne 4 (by omega) q) n4
          · exact absurd (hne 5 (by omega) q) n5
          · exact absurd (hne 6 (by omega) q) n6
          · exact absurd (hne 7 (by omega) q) n7
          · rw [q]; rfl
        subst e8
        replace h : Q (some (vi (nI (fN (hk W.1 j) 123 23 31)))) M1 := h
        refine ⟨ij, ?_⟩
        exact C_arg (As' := [vi (hk W.1 j)]) (by rw [cj, kk]; rfl) (m_bitsOf hC (key_abs (hI.1.2.2.2.2.2.2.2 j hj).1) h)
    · have hb := b2_0 c2
      have hne : ∀ v : Int32, btw v 0 8 = true → ¬ w = v := fun v hv e => by rw [e, hv] at hb; cases hb
      rw [if_neg (hne 0 (by decide)), if_neg (hne 1 (by decide)), if_neg (hne 2 (by decide)), if_neg (hne 3 (by decide)), if_neg (hne 4 (by decide)), if_neg (hne 5 (by decide)), if_neg (hne 6 (by decide)), if_neg (hne 7 (by decide)), if_neg (hne 8 (by decide))] at h
      exact h
  · rw [b2_0 c] at h
    exact h
set_option maxRecDepth 20000 in
theorem m_bits (hC : ClA C) (hW : MW W M) (hI : WI k W) (h : Q (some (.inr (.inl (p_bits W)))) M) : C (d + 2) n_X7_bits [vr 21 0] M Q := by
  have h40 := hI.1.2.2.2.2.2.2.1
  obtain ⟨hD, hn0, -⟩ := hW
  have hj1 := hD.2.2.2.2.1
  have hIA := hI.1
  unfold p_bits at h
  generalize W.1 = A at hn0 h40 hIA h hj1
  refine hC.X7_bits (d + 1) _ M Q (fun P go => ?_)
  have hx := sm_abs hIA
  have fin : P 40 [some (vr 21 0), some (vi (smU A (hn A)))] [] M := by
    generalize smU A (hn A) = x at h hx
    refine go [(56, 2)] 99 _ _ _ _ ⟨fun c => ?_, fun c => ?_⟩
    rotate_left
    · subst c
      have : fN 0 1019 52 63 = 0 := by unfold fN; rw [if_pos rfl]
      rw [this] at h
      exact h
    rw [fN_nz c] at h
    obtain ⟨g1, g2, g3, g4⟩ := log_ok c hx
    have en := @neg_n x
    have ep := @pos_n x
    have t56 : P 56 [some (vr 21 0), some (vi x)] [vi (nI x.toInt.natAbs)] M := by
      clear en ep
      generalize x.toInt.natAbs = m at *
      refine go [] 99 _ _ _ _ ?_
      refine m_power hC g1 hx ?_
      generalize Nat.log2 m = p at *
      have e1 : (1 : Int32) <<< (nI p &&& 31) = nI (2 ^ p) := by
        have := shl_i (n := 1) (i := p) (by omega) (by rw [Nat.one_mul]; omega)
        rw [Nat.one_mul] at this
        exact this
      have e2 : (nI m - ((1 : Int32) <<< (nI p &&& 31))).toInt64 <<< ((52 - nI p).toInt64 &&& 63) = lN ((m - 2 ^ p) * 2 ^ (52 - p)) := by
        rw [e1, pk_sub g3, nI_l (by omega), show (52 : Int32) = nI 52 from rfl, pk_sub (by omega), shl_l _ _ (by omega)]
      have e3 : (nI p + 1019).toInt64 <<< ((52 : Int32).toInt64 &&& 63) = lN ((p + 1019) * 2 ^ 52) := by
        rw [show nI p + 1019 = nI (p + 1019) from nI_add p 1019, nI_l (by omega), show (52 : Int32) = nI 52 from rfl, shl_l _ _ (by omega)]
      refine ⟨fun c2 => ?_, fun c2 => ?_⟩
      · have q : ¬ x < 0 := fun q => by
          rw [Int32.le_iff_toInt_le] at c2
          rw [Int32.lt_iff_toInt_lt] at q
          omega
        rw [if_neg q] at h
        have e4 : (nI p + 1019).toInt64 <<< ((52 : Int32).toInt64 &&& 63) + ((nI m - ((1 : Int32) <<< (nI p &&& 31))).toInt64 <<< ((52 - nI p).toInt64 &&& 63)) + 0 = lN (0 * 2 ^ 63 + (p + 1019) * 2 ^ 52 + (m - 2 ^ p) * 2 ^ (52 - p)) := by
          rw [e2, e3, lN_add, show (0 : Int64) = lN 0 from rfl, lN_add]
          exact congrArg lN (by omega)
        rw [← e4] at h
        exact h
      · have q : x < 0 := by
          rw [Int32.le_iff_toInt_le] at c2
          rw [Int32.lt_iff_toInt_lt]
          omega
        rw [if_pos q] at h
        have e4 : (nI p + 1019).toInt64 <<< ((52 : Int32).toInt64 &&& 63) + ((nI m - ((1 : Int32) <<< (nI p &&& 31))).toInt64 <<< ((52 - nI p).toInt64 &&& 63)) + (-9223372036854775808) = lN (1 * 2 ^ 63 + (p + 1019) * 2 ^ 52 + (m - 2 ^ p) * 2 ^ (52 - p)) := by
          rw [e2, e3, lN_add, show (-9223372036854775808 : Int64) = lN (2 ^ 63) by decide, lN_add]
          exact congrArg lN (by omega)
        rw [← e4] at h
        exact h
    refine ⟨fun c2 => ?_, fun c2 => ?_⟩
    · have q : ¬ x < 0 := fun q => by
        rw [Int32.le_iff_toInt_le] at c2
        rw [Int32.lt_iff_toInt_lt] at q
        omega
      rw [← ep q] at t56
      exact t56
    · have q : x < 0 := by
        rw [Int32.le_iff_toInt_le] at c2
        rw [Int32.lt_iff_toInt_lt]
        omega
      rw [← en q hx] at t56
      exact t56
  have loop : ∀ f j, j + f = hn A → P 4 [some (vr 21 0), some (vi (smU A j)), some (vi (nI j))] [] M := by
    intro f
    induction f with
    | zero =>
      intro j hj
      have ej : j = hn A := by omega
      subst ej
      exact go [(40, 2)] 99 _ _ _ _ ⟨fun _ => fin, fun c => absurd (by rw [hn0]; exact nI_le (Nat.le_refl _) (by omega)) c⟩
    | succ f ih =>
      intro j hj
      have hjn : j < hn A := by omega
      have ij : vp_in (nI j) 48 := in48 (by omega)
      have cj : (nI j).toNatClampNeg = j := nI_clamp (by omega)
      have r := hj1 j hjn
      simp only [Nat.zero_add] at r
      obtain ⟨-, r1, r2, -, -⟩ := r
      have nx := ih (j + 1) (by omega)
      rw [← nI_1] at nx
      unfold smU at nx
      refine go [(4, 3)] 99 _ _ _ _ ⟨fun c => absurd (by rw [hn0] at c; exact c) (nI_ge hjn (by omega)), fun _ => ⟨ij, fun c => ?_, fun c => ⟨ij, ?_⟩⟩⟩ <;> rw [cj] at c
      · have c : b2 (hs A j) = 0 := by rw [← r2]; exact c
        rw [b2_0 c] at nx
        have e0 : smU A j + 0 = smU A j := Int32.add_zero _
        have nx : P 4 [some (vr 21 0), some (vi (smU A j)), some (vi (nI j + 1))] [] M := nx
        rw [← e0] at nx
        exact nx
      · have c : ¬ b2 (hs A j) = 0 := by rw [← r2]; exact c
        rw [b2_n0 c, ← r1] at nx
        rw [cj]
        exact nx
  exact go [(4, 3)] 99 _ _ _ _ (loop (hn A) 0 (by omega))
end BITS

/-! THE ABSTRACT MACHINE: a method is a table of instructions over numbered cells. A cell is (kind, instance); what it holds of ints is M.1 kind instance place. -/
abbrev AV : Type := Int32 ⊕ (Int64 ⊕ (Nat × Nat))
abbrev AM : Type := (Nat → Nat → Nat → Int32) × (Nat → Int64)
abbrev RP : Type := Option AV → AM → Prop
abbrev KP : Type := Nat → List (Option AV) → List AV → AM → Prop
abbrev CP : Type := Nat → List AV → AM → RP → Prop
abbrev Ins : Type := CP → List (Option AV) → List AV → AM → RP → KP → Prop
abbrev vi (x : Int32) : AV := .inl x
abbrev vl (x : Int64) : AV := .inr (.inl x)
abbrev vr (a t : Nat) : AV := .inr (.inr (a, t))
def um (M : AM) (a t i : Nat) (v : Int32) : AM := (fun a' t' i' => if a' = a ∧ t' = t ∧ i' = i then v else M.1 a' t' i', M.2)
def ul (M : AM) (k : Nat) (v : Int64) : AM := (M.1, fun k' => if k' = k then v else M.2 k')
/-- places of THE HEAP's rows: 40, of the net's own 8 -/
def rm (t : Nat) : Nat := if t = 3 then 8 else 40
/-- length of a row -/
def aln : Nat → Nat → Nat
  | 2, t | 3, t | 4, t | 5, t | 6, t | 7, t | 8, t | 9, t | 10, t => rm t
  | 12, _ | 28, _ => 16
  | 14, _ | 15, _ | 16, _ | 29, _ | 30, _ | 31, _ => 14
  | 17, _ | 32, _ => 8
  | 22, _ | 23, _ | 24, _ | 25, _ | 26, _ | 27, _ => 48
  | 33, _ => 520
  | 34, _ => 2
  | _, _ => 0
/-- 0: a row of ints, 1: of booleans, 2: neither -/
def aty : Nat → Nat
  | 2 | 3 | 4 | 5 | 6 | 7 | 10 | 12 | 14 | 15 | 16 | 17 | 22 | 23 | 25 | 27 | 28 | 29 | 30 | 31 | 32 | 33 => 0
  | 8 | 9 | 24 | 26 | 34 => 1
  | _ => 2
/-- the class of an object of a kind, by its place in vwCl -/
def acl : Nat → Nat
  | 0 => 5 | 1 => 1 | 11 => 0 | 13 => 4 | 18 => 3 | 20 => 2 | 21 => 6 | _ => 99
def ge : List (Option AV) → Nat → Option AV
  | [], _ => none
  | x :: _, 0 => x
  | _ :: r, i + 1 => ge r i
def isl : Option AV → Bool
  | some (.inr (.inl _)) => true
  | _ => false
def se : List (Option AV) → Nat → Option AV → List (Option AV)
  | [], 0, v => [v]
  | [], i + 1, v => none :: se [] i v
  | _ :: r, 0, v => v :: r
  | x :: r, 1, v => cond (isl x) none x :: se r 0 v
  | x :: r, i + 2, v => x :: se r (i + 1) v
def ag : Nat → List AV → List AV → List AV
  | 0, _, acc => acc
  | _ + 1, [], acc => acc
  | k + 1, v :: S, acc => ag k S (v :: acc)
def dr : Nat → List AV → List AV
  | 0, S => S
  | _ + 1, [] => []
  | k + 1, _ :: S => dr k S
def cat1 : AV → Nat
  | .inr (.inl _) => 2
  | _ => 1
def cats : List AV → Nat
  | [] => 0
  | v :: S => cat1 v + cats S
def al1 : List AV → Bool
  | [] => true
  | v :: S => Nat.beq (cat1 v) 1 && al1 S
def bz (x : Int32) : Int32 := x &&& 1
-- constants, locals, the stack
def i_li (i n : Nat) : Ins := fun _ L S M _ K => match ge L i with
  | some (.inl v) => K n L (.inl v :: S) M
  | _ => False
def i_la (i n : Nat) : Ins := fun _ L S M _ K => match ge L i with
  | some (.inr (.inr v)) => K n L (.inr (.inr v) :: S) M
  | _ => False
def i_ll (i n : Nat) : Ins := fun _ L S M _ K => match ge L i with
  | some (.inr (.inl v)) => K n L (.inr (.inl v) :: S) M
  | _ => False
def i_st (i n : Nat) : Ins := fun _ L S M _ K => match S with
  | .inl x :: S' => K n (se L i (some (.inl x))) S' M
  | _ => False
def i_st2 (i n : Nat) : Ins := fun _ L S M _ K => match S with
  | .inr (.inl x) :: S' => K n (se (se L (i + 1) none) i (some (.inr (.inl x)))) S' M
  | _ => False
def i_inc (i : Nat) (d : Int32) (n : Nat) : Ins := fun _ L S M _ K => match ge L i with
  | some (.inl x) => K n (se L i (some (.inl (x + d)))) S M
  | _ => False
def i_c (v : Int32) (n : Nat) : Ins := fun _ L S M _ K => K n L (.inl v :: S) M
def i_cl (v : Int64) (n : Nat) : Ins := fun _ L S M _ K => K n L (.inr (.inl v) :: S) M
def i_dup (n : Nat) : Ins := fun _ L S M _ K => match S with
  | .inl x :: S' => K n L (.inl x :: .inl x :: S') M
  | .inr (.inr x) :: S' => K n L (.inr (.inr x) :: .inr (.inr x) :: S') M
  | _ => False
def i_dup2 (n : Nat) : Ins := fun _ L S M _ K => match S with
  | .inl x :: .inr (.inr y) :: S' => K n L (.inl x :: .inr (.inr y) :: .inl x :: .inr (.inr y) :: S') M
  | _ => False
def i_pop (n : Nat) : Ins := fun _ L S M _ K => match S with
  | .inl _ :: S' => K n L S' M
  | _ => False
-- numbers
def i_add (n : Nat) : Ins := fun _ L S M _ K => match S with
  | .inl y :: .inl x :: S' => K n L (.inl (x + y) :: S') M
  | _ => False
def i_sub (n : Nat) : Ins := fun _ L S M _ K => match S with
  | .inl y :: .inl x :: S' => K n L (.inl (x - y) :: S') M
  | _ => False
def i_mul (n : Nat) : Ins := fun _ L S M _ K => match S with
  | .inl y :: .inl x :: S' => K n L (.inl (x * y) :: S') M
  | _ => False
def i_or (n : Nat) : Ins := fun _ L S M _ K => match S with
  | .inl y :: .inl x :: S' => K n L (.inl (x ||| y) :: S') M
  | _ => False
def i_and (n : Nat) : Ins := fun _ L S M _ K => match S with
  | .inl y :: .inl x :: S' => K n L (.inl (x &&& y) :: S') M
  | _ => False
def i_shl (n : Nat) : Ins := fun _ L S M _ K => match S with
  | .inl y :: .inl x :: S' => K n L (.inl (x <<< (y &&& 31)) :: S') M
  | _ => False
def i_shr (n : Nat) : Ins := fun _ L S M _ K => match S with
  | .inl y :: .inl x :: S' => K n L (.inl (x >>> (y &&& 31)) :: S') M
  | _ => False
def i_neg (n : Nat) : Ins := fun _ L S M _ K => match S with
  | .inl x :: S' => K n L (.inl (-x) :: S') M
  | _ => False
def i_2l (n : Nat) : Ins := fun _ L S M _ K => match S with
  | .inl x :: S' => K n L (.inr (.inl x.toInt64) :: S') M
  | _ => False
def l_2i (n : Nat) : Ins := fun _ L S M _ K => match S with
  | .inr (.inl x) :: S' => K n L (.inl x.toInt32 :: S') M
  | _ => False
def l_add (n : Nat) : Ins := fun _ L S M _ K => match S with
  | .inr (.inl y) :: .inr (.inl x) :: S' => K n L (.inr (.inl (x + y)) :: S') M
  | _ => False
def l_sub (n : Nat) : Ins := fun _ L S M _ K => match S with
  | .inr (.inl y) :: .inr (.inl x) :: S' => K n L (.inr (.inl (x - y)) :: S') M
  | _ => False
def l_mul (n : Nat) : Ins := fun _ L S M _ K => match S with
  | .inr (.inl y) :: .inr (.inl x) :: S' => K n L (.inr (.inl (x * y)) :: S') M
  | _ => False
def l_or (n : Nat) : Ins := fun _ L S M _ K => match S with
  | .inr (.inl y) :: .inr (.inl x) :: S' => K n L (.inr (.inl (x ||| y)) :: S') M
  | _ => False
def l_rem (n : Nat) : Ins := fun _ L S M _ K => match S with
  | .inr (.inl y) :: .inr (.inl x) :: S' => ¬ y = 0 ∧ K n L (.inr (.inl (x - x / y * y)) :: S') M
  | _ => False
def l_cmp (n : Nat) : Ins := fun _ L S M _ K => match S with
  | .inr (.inl y) :: .inr (.inl x) :: S' => K n L (.inl (lg_cmp x y) :: S') M
  | _ => False
def l_shl (n : Nat) : Ins := fun _ L S M _ K => match S with
  | .inl y :: .inr (.inl x) :: S' => K n L (.inr (.inl (x <<< (y.toInt64 &&& 63))) :: S') M
  | _ => False
def l_shr (n : Nat) : Ins := fun _ L S M _ K => match S with
  | .inl y :: .inr (.inl x) :: S' => K n L (.inr (.inl (x >>> (y.toInt64 &&& 63))) :: S') M
  | _ => False
def i_max (n : Nat) : Ins := fun _ L S M _ K => match S with
  | .inl y :: .inl x :: S' => cond (Nat.ble (cats S') 8) (K n L (.inl (if x < y then y else x) :: S') M) False
  | _ => False
def i_min (n : Nat) : Ins := fun _ L S M _ K => match S with
  | .inl y :: .inl x :: S' => cond (Nat.ble (cats S') 8) (K n L (.inl (if y < x then y else x) :: S') M) False
  | _ => False
def l_abs (n : Nat) : Ins := fun _ L S M _ K => match S with
  | .inr (.inl x) :: S' => cond (Nat.ble (cats S') 8) (K n L (.inr (.inl (if 0 < x then x else -x)) :: S') M) False
  | _ => False
-- fields
def i_gI (c j n : Nat) : Ins := fun _ L S M _ K => match S with
  | .inr (.inr (a, t)) :: S' => cond (Nat.beq (acl a) c) (K n L (.inl (M.1 a t j) :: S') M) False
  | _ => False
def i_gL (c k n : Nat) : Ins := fun _ L S M _ K => match S with
  | .inr (.inr (a, _)) :: S' => cond (Nat.beq (acl a) c) (K n L (.inr (.inl (M.2 k)) :: S') M) False
  | _ => False
def i_gR (c : Nat) (f : Nat → Nat × Nat) (n : Nat) : Ins := fun _ L S M _ K => match S with
  | .inr (.inr (a, t)) :: S' => cond (Nat.beq (acl a) c) (K n L (.inr (.inr (f t)) :: S') M) False
  | _ => False
def i_pI (c j n : Nat) : Ins := fun _ L S M _ K => match S with
  | .inl v :: .inr (.inr (a, t)) :: S' => cond (Nat.beq (acl a) c) (K n L S' (um M a t j v)) False
  | _ => False
def i_pZ (c j n : Nat) : Ins := fun _ L S M _ K => match S with
  | .inl v :: .inr (.inr (a, t)) :: S' => cond (Nat.beq (acl a) c) (bz v = v ∧ K n L S' (um M a t j v)) False
  | _ => False
def i_pL (c k n : Nat) : Ins := fun _ L S M _ K => match S with
  | .inr (.inl v) :: .inr (.inr (a, _)) :: S' => cond (Nat.beq (acl a) c) (K n L S' (ul M k v)) False
  | _ => False
-- rows
def i_ia (n : Nat) : Ins := fun _ L S M _ K => match S with
  | .inl i :: .inr (.inr (a, t)) :: S' => cond (Nat.beq (aty a) 0) (vp_in i (aln a t) ∧ K n L (.inl (M.1 a t i.toNatClampNeg) :: S') M) False
  | _ => False
def i_ba (n : Nat) : Ins := fun _ L S M _ K => match S with
  | .inl i :: .inr (.inr (a, t)) :: S' => cond (Nat.beq (aty a) 1) (vp_in i (aln a t) ∧ K n L (.inl (M.1 a t i.toNatClampNeg) :: S') M) False
  | _ => False
def i_is (n : Nat) : Ins := fun _ L S M _ K => match S with
  | .inl v :: .inl i :: .inr (.inr (a, t)) :: S' => cond (Nat.beq (aty a) 0) (vp_in i (aln a t) ∧ K n L S' (um M a t i.toNatClampNeg v)) False
  | _ => False
def i_bs (n : Nat) : Ins := fun _ L S M _ K => match S with
  | .inl v :: .inl i :: .inr (.inr (a, t)) :: S' => cond (Nat.beq (aty a) 1) (vp_in i (aln a t) ∧ K n L S' (um M a t i.toNatClampNeg (bz v))) False
  | _ => False
def i_al (n : Nat) : Ins := fun _ L S M _ K => match S with
  | .inr (.inr (a, t)) :: S' => cond (Nat.ble (aty a) 1) (K n L (.inl (nI (aln a t)) :: S') M) False
  | _ => False
def i_aa (n : Nat) : Ins := fun _ L S M _ K => match S with
  | .inl i :: .inr (.inr (a, _)) :: S' => cond (Nat.beq a 19) (vp_in i 2 ∧ K n L (.inr (.inr (20, i.toNatClampNeg)) :: S') M) False
  | _ => False
/-- System.arraycopy of the whole of a bench's row -/
def i_acp (n : Nat) : Ins := fun _ L S M _ K => match S with
  | .inl c :: .inl d :: .inr (.inr (a, t)) :: .inl p :: .inr (.inr (a', t')) :: S' => cond (Nat.beq a 12 && Nat.beq a' 12 && Nat.ble (cats S') 8) (c = 16 ∧ d = 0 ∧ p = 0 ∧ K n L S' (fun x y z => if x = 12 ∧ y = t then va_cpy (M.1 12 t') (M.1 12 t) 0 0 16 z else M.1 x y z, M.2)) False
  | _ => False
-- the script
def i_sl (sl : Nat) (xs : Nat → Int32) (n : Nat) : Ins := fun _ L S M _ K => match S with
  | .inl i :: .inr (.inr (a, _)) :: S' => cond (Nat.beq a 35) (vp_in i sl ∧ K n L (.inl (xs i.toNatClampNeg) :: S') M) False
  | _ => False
def i_sn (sl n : Nat) : Ins := fun _ L S M _ K => match S with
  | .inr (.inr (a, _)) :: S' => cond (Nat.beq a 35) (K n L (.inl (nI sl) :: S') M) False
  | _ => False
-- branches
def i_go (g : Nat) : Ins := fun _ L S M _ K => K g L S M
def i_if_eq (g n : Nat) : Ins := fun _ L S M _ K => match S with
  | .inl x :: S' => (x = 0 → K g L S' M) ∧ (¬ x = 0 → K n L S' M)
  | _ => False
def i_if_ne (g n : Nat) : Ins := fun _ L S M _ K => match S with
  | .inl x :: S' => (¬ x = 0 → K g L S' M) ∧ (x = 0 → K n L S' M)
  | _ => False
def i_if_lt (g n : Nat) : Ins := fun _ L S M _ K => match S with
  | .inl x :: S' => (x < 0 → K g L S' M) ∧ (¬ x < 0 → K n L S' M)
  | _ => False
def i_if_ge (g n : Nat) : Ins := fun _ L S M _ K => match S with
  | .inl x :: S' => (0 ≤ x → K g L S' M) ∧ (¬ 0 ≤ x → K n L S' M)
  | _ => False
def i_if_gt (g n : Nat) : Ins := fun _ L S M _ K => match S with
  | .inl x :: S' => (0 < x → K g L S' M) ∧ (¬ 0 < x → K n L S' M)
  | _ => False
def i_if_le (g n : Nat) : Ins := fun _ L S M _ K => match S with
  | .inl x :: S' => (x ≤ 0 → K g L S' M) ∧ (¬ x ≤ 0 → K n L S' M)
  | _ => False
def i_ic_eq (g n : Nat) : Ins := fun _ L S M _ K => match S with
  | .inl y :: .inl x :: S' => (x = y → K g L S' M) ∧ (¬ x = y → K n L S' M)
  | _ => False
def i_ic_ne (g n : Nat) : Ins := fun _ L S M _ K => match S with
  | .inl y :: .inl x :: S' => (¬ x = y → K g L S' M) ∧ (x = y → K n L S' M)
  | _ => False
def i_ic_lt (g n : Nat) : Ins := fun _ L S M _ K => match S with
  | .inl y :: .inl x :: S' => (x < y → K g L S' M) ∧ (¬ x < y → K n L S' M)
  | _ => False
def i_ic_ge (g n : Nat) : Ins := fun _ L S M _ K => match S with
  | .inl y :: .inl x :: S' => (y ≤ x → K g L S' M) ∧ (¬ y ≤ x → K n L S' M)
  | _ => False
def i_ic_gt (g n : Nat) : Ins := fun _ L S M _ K => match S with
  | .inl y :: .inl x :: S' => (y < x → K g L S' M) ∧ (¬ y < x → K n L S' M)
  | _ => False
def i_ic_le (g n : Nat) : Ins := fun _ L S M _ K => match S with
  | .inl y :: .inl x :: S' => (x ≤ y → K g L S' M) ∧ (¬ x ≤ y → K n L S' M)
  | _ => False
def swk (x : Int32) (d : Nat) (K : Nat → Prop) : List (Int32 × Nat) → Prop
  | [] => K d
  | (v, g) :: r => (x = v → K g) ∧ (¬ x = v → swk x d K r)
def i_sw (tb : List (Int32 × Nat)) (d : Nat) : Ins := fun _ L S M _ K => match S with
  | .inl x :: S' => swk x d (fun g => K g L S' M) tb
  | _ => False
-- calls and ends
def i_cs (y k n : Nat) : Ins := fun C L S M _ K => cond (Nat.ble (cats (dr k S)) 8 && Nat.ble k S.length && al1 (ag k S [])) (C y (ag k S []) M (fun r M' => K n L (r.toList ++ dr k S) M')) False
def i_cv (y k c n : Nat) : Ins := fun C L S M _ K => match ag k S [] with
  | .inr (.inr (a, t)) :: r => cond (Nat.ble (cats (dr k S)) 8 && Nat.ble k S.length && al1 r && Nat.beq (acl a) c) (C y (.inr (.inr (a, t)) :: r) M (fun r M' => K n L (r.toList ++ dr k S) M')) False
  | _ => False
def i_ri : Ins := fun _ _ S M Q _ => match S with
  | [.inl v] => Q (some (.inl v)) M
  | _ => False
def i_rz : Ins := fun _ _ S M Q _ => match S with
  | [.inl v] => bz v = v ∧ Q (some (.inl v)) M
  | _ => False
def i_rl : Ins := fun _ _ S M Q _ => match S with
  | [.inr (.inl v)] => Q (some (.inr (.inl v))) M
  | _ => False
def i_rv : Ins := fun _ _ S M Q _ => match S with
  | [] => Q none M
  | _ => False
-- the run
def ft : List (Nat × Ins) → Nat → Ins
  | [], _ => fun _ _ _ _ _ _ => False
  | (q, i) :: r, pc => cond (Nat.beq q pc) i (ft r pc)
def el : Nat → List (Nat × Nat) → Option Nat
  | _, [] => none
  | p, (q, k) :: r => cond (Nat.beq p q) (some k) (el p r)
/-- n steps at most, to the next stop; a stop (pc, k) keeps the first k locals alone -/
def run (tb : List (Nat × Ins)) (C : CP) (Q : RP) (P : KP) (st : List (Nat × Nat)) : Nat → KP
  | 0 => P
  | n + 1 => fun pc L S M => match el pc st with
    | some k => P pc (L.take k) S M
    | none => ft tb pc C L S M Q (run tb C Q P st n)
/-- P is closed under the table's steps, any number of them, to the next stop -/
abbrev Go (tb : List (Nat × Ins)) (C : CP) (Q : RP) (P : KP) : Prop := ∀ (st : List (Nat × Nat)) (n pc : Nat) (L : List (Option AV)) (S : List AV) (M : AM), ft tb pc C L S M Q (run tb C Q P st n) → P pc L S M
/-- C is closed under the methods: what every closed P says at the entry holds of the call -/
abbrev Cl1 (C : Nat → CP) (y : Nat) (tb : List (Nat × Ins)) : Prop := ∀ (d : Nat) (As : List AV) (M : AM) (Q : RP), (∀ P : KP, Go tb (C d) Q P → P 0 (As.map some) [] M) → C (d + 1) y As M Q

/-! THE SMALL MACHINE: a pure picture of the class's own instructions over whole numbers; part 06 says that the machine follows it. -/
abbrev vI (z : Int) : mV := .inl z
abbrev vL (z : Int) : mV := .inr (.inl z)
abbrev vO (o : Nat) : mV := .inr (.inr (.inl o))
abbrev vA (a : Nat) : mV := .inr (.inr (.inr a))
abbrev mH : Type := (Nat → Int) × (Nat → Nat → Int)
abbrev mL : Type := List (Option mV)
abbrev mC : Type := Nat × mL × List mV × mH
def m2 : mV → Bool
  | .inr (.inl _) => true
  | _ => false
def mSet {α : Type} : List α → Nat → α → List α
  | [], _, _ => []
  | _ :: l, 0, x => x :: l
  | a :: l, n + 1, x => a :: mSet l n x
def mLt {α : Type} : List α → Nat → Bool
  | [], _ => false
  | _ :: _, 0 => true
  | _ :: l, n + 1 => mLt l n
/-- the local behind which a long ends before i is no more -/
def mCut : mL → Nat → mL
  | L, 0 => L
  | L, i + 1 => match mNth L i with
    | some (some (.inr (.inl _))) => mSet L i none
    | _ => L
def mPut (L : mL) (i : Nat) (v : mV) : mL := match v with
  | .inr (.inl z) => mSet (mSet (mCut L i) i (some (vL z))) (i + 1) none
  | v => mSet (mCut L i) i (some v)
def mCat : List mV → Nat
  | [] => 0
  | .inr (.inl _) :: l => mCat l + 2
  | _ :: l => mCat l + 1
def mFlat : List mV → mL
  | [] => []
  | .inr (.inl z) :: l => some (vL z) :: none :: mFlat l
  | v :: l => some v :: mFlat l
def mPad : Nat → mL → mL
  | 0, L => L
  | n + 1, [] => none :: mPad n []
  | n + 1, a :: L => a :: mPad n L
def mTake : Nat → List mV → List mV → Option (List mV × List mV)
  | 0, acc, S => some (acc, S)
  | _ + 1, _, [] => none
  | n + 1, acc, v :: S => mTake n (v :: acc) S
def mPush : Option mV → List mV → List mV
  | none, S => S
  | some v, S => v :: S
abbrev inR (z : Int) : Prop := -2147483648 ≤ z ∧ z < 2147483648
abbrev inL (z : Int) : Prop := -9223372036854775808 ≤ z ∧ z < 9223372036854775808
def jI (z : Int) : Int32 := Int32.ofInt z
def jL (z : Int) : Int64 := Int64.ofInt z
def bAnd (x y : Int) : Int := (jI x &&& jI y).toInt
def bOr (x y : Int) : Int := (jI x ||| jI y).toInt
def bXor (x y : Int) : Int := (jI x ^^^ jI y).toInt
def bShl (x y : Int) : Int := (jI x <<< (jI y &&& 31)).toInt
def bShr (x y : Int) : Int := (jI x >>> (jI y &&& 31)).toInt
def sgn (x y : Int) : Int := if x < y then -1 else if x = y then 0 else 1
def up {α : Type} (f : Nat → α) (k : Nat) (x : α) : Nat → α := fun i => if i = k then x else f i
def cpy (f g : Nat → Int) (sp dp n : Nat) : Nat → Int := fun k => if dp ≤ k ∧ k < dp + n then f (sp + (k - dp)) else g k
def holds : ClassFile.Cond → Int → Int → Prop
  | .eq, x, y => x = y
  | .ne, x, y => x ≠ y
  | .lt, x, y => x < y
  | .ge, x, y => y ≤ x
  | .gt, x, y => y < x
  | .le, x, y => x ≤ y
/-- a step; a branch; a call; an end -/
abbrev mR : Type := Option ((Option Prop × mC) ⊕ (Prop × Prop × Nat × Nat × mL × List mV × mH) ⊕ (Option Prop × Nat × List mV × Nat × mL × List mV × mH) ⊕ (Option Prop × Option mV × mH))
abbrev rS (g : Prop) (pc : Nat) (L : mL) (S : List mV) (h : mH) : mR := some (.inl (some g, pc, L, S, h))
abbrev rT (pc : Nat) (L : mL) (S : List mV) (h : mH) : mR := some (.inl (none, pc, L, S, h))
def gd (g : Option Prop) (X : Prop) : Prop := match g with
  | none => X
  | some g => g ∧ X
theorem gd_imp {g : Option Prop} {X Y : Prop} (h : gd g X) (k : X → Y) : gd g Y := by
  cases g with
  | none => exact k h
  | some g => exact ⟨h.1, k h.2⟩
theorem gd_out {g : Option Prop} {X : Prop} (h : gd g X) : X := by
  cases g with
  | none => exact h
  | some g => exact h.2
abbrev rB (g c : Prop) (p q : Nat) (L : mL) (S : List mV) (h : mH) : mR := some (.inr (.inl (g, c, p, q, L, S, h)))
abbrev rC (g : Option Prop) (m : Nat) (a : List mV) (pc : Nat) (L : mL) (S : List mV) (h : mH) : mR := some (.inr (.inr (.inl (g, m, a, pc, L, S, h))))
abbrev rE (g : Option Prop) (v : Option mV) (h : mH) : mR := some (.inr (.inr (.inr (g, v, h))))
/-! cO: the class of an object; fK: the kind of a class's field (0 int, 1 long, 2 array, 3 object); sO: the object that a field holds; aN: an array's length, aK: its kind (0 int, 1 long, 2 boolean); mA: how many arguments a method takes (with its receiver); mS: whether it is static; mK: its class; mW: its locals; 999: the script -/
def mLen (h : mH) (a : Nat) : Int := if a = 999 then h.1 999 else (aN a : Int)
def mLoad (pc : Nat) (L : mL) (S : List mV) (h : mH) (i : Nat) (k : Nat) : mR := match mNth L i, k with
  | some (some (.inl z)), 0 => rT pc L (vI z :: S) h
  | some (some (.inr (.inl z))), 1 => rT pc L (vL z :: S) h
  | some (some (.inr (.inr (.inl o)))), 2 => rT pc L (vO o :: S) h
  | some (some (.inr (.inr (.inr a)))), 2 => rT pc L (vA a :: S) h
  | _, _ => none
def mStore (pc : Nat) (L : mL) (S : List mV) (h : mH) (i : Nat) (k : Nat) : mR := match S, k, mLt L i, mLt L (i + 1) with
  | .inl z :: S, 0, true, _ => rT pc (mPut L i (vI z)) S h
  | .inr (.inl z) :: S, 1, _, true => rT pc (mPut L i (vL z)) S h
  | .inr (.inr (.inl o)) :: S, 2, true, _ => rT pc (mPut L i (vO o)) S h
  | .inr (.inr (.inr a)) :: S, 2, true, _ => rT pc (mPut L i (vA a)) S h
  | _, _, _, _ => none
def mGet (g : Prop) (pc : Nat) (L : mL) (S : List mV) (h : mH) (k : Nat) (o f : Nat) : mR := match k with
  | 0 => rS g pc L (vI (h.1 (16 * o + f)) :: S) h
  | 1 => rS g pc L (vL (h.1 (16 * o + f)) :: S) h
  | 2 => rS g pc L (vA (16 * o + f) :: S) h
  | _ => rS g pc L (vO (sO o f) :: S) h
def mPutf (g : Prop) (pc : Nat) (L : mL) (S : List mV) (h : mH) (k : Nat) (v : mV) (o f : Nat) : mR := match v, k with
  | .inl z, 0 => rS g pc L S (up h.1 (16 * o + f) z, h.2)
  | .inr (.inl z), 1 => rS g pc L S (up h.1 (16 * o + f) z, h.2)
  | _, _ => none
def mCall (pc : Nat) (L : mL) (S : List mV) (h : mH) (m : Nat) (st : Bool) : mR := match mTake (mA m) [] S with
  | some (args, rest) => match Nat.ble (mCat rest) 8, Nat.ble (mFlat args).length (mW m) with
    | true, true => match st, mS m, args with
      | true, true, args => rC none m args (pc + 3) L rest h
      | false, false, .inr (.inr (.inl o)) :: args => rC (some (cO o = mK m)) m (vO o :: args) (pc + 3) L rest h
      | _, _, _ => none
    | _, _ => none
  | none => none
def stp (e : mE) (pc : Nat) (L : mL) (S : List mV) (h : mH) : mR := match e.1 with
  | .aload i => mLoad (pc + 2) L S h i 2
  | .aload_n i => mLoad (pc + 1) L S h i.val 2
  | .iload i => mLoad (pc + 2) L S h i 0
  | .iload_n i => mLoad (pc + 1) L S h i.val 0
  | .lload i => mLoad (pc + 2) L S h i 1
  | .lload_n i => mLoad (pc + 1) L S h i.val 1
  | .astore i => mStore (pc + 2) L S h i 2
  | .astore_n i => mStore (pc + 1) L S h i.val 2
  | .istore i => mStore (pc + 2) L S h i 0
  | .istore_n i => mStore (pc + 1) L S h i.val 0
  | .lstore i => mStore (pc + 2) L S h i 1
  | .lstore_n i => mStore (pc + 1) L S h i.val 1
  | .iconst _ => rT (pc + 1) L (vI e.2.2.2 :: S) h
  | .bipush _ => rT (pc + 2) L (vI e.2.2.2 :: S) h
  | .sipush _ => rT (pc + 3) L (vI e.2.2.2 :: S) h
  | .ldc _ => rT (pc + 2) L (vI e.2.2.2 :: S) h
  | .ldc2_w _ => rT (pc + 3) L (vL e.2.2.2 :: S) h
  | .lconst _ => rT (pc + 1) L (vL e.2.2.2 :: S) h
  | .iadd => match S with
    | .inl y :: .inl x :: S => rT (pc + 1) L (vI (x + y) :: S) h
    | _ => none
  | .isub => match S with
    | .inl y :: .inl x :: S => rT (pc + 1) L (vI (x - y) :: S) h
    | _ => none
  | .imul => match S with
    | .inl y :: .inl x :: S => rT (pc + 1) L (vI (x * y) :: S) h
    | _ => none
  | .idiv => match S with
    | .inl y :: .inl x :: S => rS (inR x ∧ inR y ∧ 0 < y) (pc + 1) L (vI (x.tdiv y) :: S) h
    | _ => none
  | .iand => match S with
    | .inl y :: .inl x :: S => rT (pc + 1) L (vI (bAnd x y) :: S) h
    | _ => none
  | .ior => match S with
    | .inl y :: .inl x :: S => rT (pc + 1) L (vI (bOr x y) :: S) h
    | _ => none
  | .ixor => match S with
    | .inl y :: .inl x :: S => rT (pc + 1) L (vI (bXor x y) :: S) h
    | _ => none
  | .ishl => match S with
    | .inl y :: .inl x :: S => rT (pc + 1) L (vI (bShl x y) :: S) h
    | _ => none
  | .ishr => match S with
    | .inl y :: .inl x :: S => rT (pc + 1) L (vI (bShr x y) :: S) h
    | _ => none
  | .i2l => match S with
    | .inl x :: S => rS (inR x) (pc + 1) L (vL x :: S) h
    | _ => none
  | .ladd => match S with
    | .inr (.inl y) :: .inr (.inl x) :: S => rT (pc + 1) L (vL (x + y) :: S) h
    | _ => none
  | .lmul => match S with
    | .inr (.inl y) :: .inr (.inl x) :: S => rT (pc + 1) L (vL (x * y) :: S) h
    | _ => none
  | .ldiv => match S with
    | .inr (.inl y) :: .inr (.inl x) :: S => rS (inL x ∧ inL y ∧ 0 < y) (pc + 1) L (vL (x.tdiv y) :: S) h
    | _ => none
  | .lrem => match S with
    | .inr (.inl y) :: .inr (.inl x) :: S => rS (inL x ∧ inL y ∧ 0 < y) (pc + 1) L (vL (x.tmod y) :: S) h
    | _ => none
  | .lcmp => match S with
    | .inr (.inl y) :: .inr (.inl x) :: S => rS (inL x ∧ inL y) (pc + 1) L (vI (sgn x y) :: S) h
    | _ => none
  | .iinc i n => match mNth L i, mLt L i with
    | some (some (.inl x)), true => rT (pc + 3) (mPut L i (vI (x + n))) S h
    | _, _ => none
  | .ifCond c _ => match S with
    | .inl x :: S => rB (inR x) (holds c x 0) e.2.1 (pc + 3) L S h
    | _ => none
  | .if_icmp c _ => match S with
    | .inl y :: .inl x :: S => rB (inR x ∧ inR y) (holds c x y) e.2.1 (pc + 3) L S h
    | _ => none
  | .goto _ => rT e.2.1 L S h
  | .tableswitch d lo hi offs => match S with
    | .inl x :: S => rB (inR x ∧ inR lo ∧ inR hi) (x < lo ∨ hi < x) e.2.1 ((pc : Int) + (offs.toList.getD (x - lo).toNat 0)).toNat L S h
    | _ => none
  | .getfield _ => match S with
    | .inr (.inr (.inl o)) :: S => mGet (cO o = e.2.1) (pc + 3) L S h (fK e.2.1 e.2.2.1) o e.2.2.1
    | _ => none
  | .putfield _ => match S with
    | v :: .inr (.inr (.inl o)) :: S => mPutf (cO o = e.2.1) (pc + 3) L S h (fK e.2.1 e.2.2.1) v o e.2.2.1
    | _ => none
  | .iaload => match S with
    | .inl i :: .inr (.inr (.inr a)) :: S => rS (aK a = 0 ∧ 0 ≤ i ∧ i < mLen h a) (pc + 1) L (vI (h.2 a i.toNat) :: S) h
    | _ => none
  | .laload => match S with
    | .inl i :: .inr (.inr (.inr a)) :: S => rS (aK a = 1 ∧ 0 ≤ i ∧ i < mLen h a) (pc + 1) L (vL (h.2 a i.toNat) :: S) h
    | _ => none
  | .baload => match S with
    | .inl i :: .inr (.inr (.inr a)) :: S => rS (aK a = 2 ∧ 0 ≤ i ∧ i < mLen h a) (pc + 1) L (vI (h.2 a i.toNat) :: S) h
    | _ => none
  | .iastore => match S with
    | .inl v :: .inl i :: .inr (.inr (.inr a)) :: S => rS (aK a = 0 ∧ a ≠ 999 ∧ 0 ≤ i ∧ i < mLen h a) (pc + 1) L S (h.1, up h.2 a (up (h.2 a) i.toNat v))
    | _ => none
  | .lastore => match S with
    | .inr (.inl v) :: .inl i :: .inr (.inr (.inr a)) :: S => rS (aK a = 1 ∧ a ≠ 999 ∧ 0 ≤ i ∧ i < mLen h a) (pc + 1) L S (h.1, up h.2 a (up (h.2 a) i.toNat v))
    | _ => none
  | .bastore => match S with
    | .inl v :: .inl i :: .inr (.inr (.inr a)) :: S => rS (aK a = 2 ∧ a ≠ 999 ∧ 0 ≤ i ∧ i < mLen h a ∧ 0 ≤ v ∧ v ≤ 1) (pc + 1) L S (h.1, up h.2 a (up (h.2 a) i.toNat v))
    | _ => none
  | .arraylength => match S with
    | .inr (.inr (.inr a)) :: S => rS (aK a ≤ 2) (pc + 1) L (vI (mLen h a) :: S) h
    | _ => none
  | .dup => match S with
    | .inl x :: S => rT (pc + 1) L (vI x :: vI x :: S) h
    | .inr (.inr v) :: S => rT (pc + 1) L (.inr (.inr v) :: .inr (.inr v) :: S) h
    | _ => none
  | .pop => match S with
    | .inl _ :: S => rT (pc + 1) L S h
    | .inr (.inr _) :: S => rT (pc + 1) L S h
    | _ => none
  | .dup2 => match S with
    | .inl x :: .inr (.inr v) :: S => rT (pc + 1) L (vI x :: .inr (.inr v) :: vI x :: .inr (.inr v) :: S) h
    | _ => none
  | .invokevirtual _ => mCall pc L S h e.2.1 false
  | .invokestatic _ => match e.2.1 with
    | 900 => match S with
      | .inl n :: .inl dp :: .inr (.inr (.inr b)) :: .inl sp :: .inr (.inr (.inr a)) :: [] => rS (aK a = 0 ∧ a ≠ 999 ∧ aK b = 0 ∧ b ≠ 999 ∧ 0 ≤ n ∧ 0 ≤ sp ∧ 0 ≤ dp ∧ sp + n ≤ aN a ∧ dp + n ≤ aN b) (pc + 3) L [] (h.1, up h.2 b (cpy (h.2 a) (h.2 b) sp.toNat dp.toNat n.toNat))
      | _ => none
    | 901 => match S with
      | .inl y :: .inl x :: S => rS (inR x ∧ inR y ∧ mCat S ≤ 8) (pc + 3) L (vI (if x < y then y else x) :: S) h
      | _ => none
    | 902 => match S with
      | .inl y :: .inl x :: S => rS (inR x ∧ inR y ∧ mCat S ≤ 8) (pc + 3) L (vI (if y < x then y else x) :: S) h
      | _ => none
    | m => mCall pc L S h m true
  | .ireturn => match S, e.2.1 with
    | .inl x :: [], 0 => rE none (some (vI x)) h
    | .inl x :: [], _ => rE (some (0 ≤ x ∧ x ≤ 1)) (some (vI x)) h
    | _, _ => none
  | .lreturn => match S with
    | .inr (.inl x) :: [] => rE none (some (vL x)) h
    | _ => none
  | .areturn => match S with
    | .inr (.inr x) :: [] => rE none (some (.inr (.inr x))) h
    | _ => none
  | .return_ => match S with
    | [] => rE none none h
    | _ => none
  | _ => none
def mIn (m : Nat) (args : List mV) : mL := mPad (mW m) (mFlat args)
def run : Nat → Nat → Nat → mC → Option mV → mH → Prop
  | 0, _, _, _, _, _ => False
  | n + 1, d, m, c, r, t => match pg m c.1 with
    | none => False
    | some e => match stp e c.1 c.2.1 c.2.2.1 c.2.2.2 with
      | none => False
      | some (.inl (g, c2)) => gd g (run n d m c2 r t)
      | some (.inr (.inl (g, k, p, q, L, S, h))) => g ∧ ((k ∧ run n d m (p, L, S, h) r t) ∨ (¬ k ∧ run n d m (q, L, S, h) r t))
      | some (.inr (.inr (.inl (g, k, a, pc, L, S, h)))) => gd g (match d with
        | 0 => False
        | d2 + 1 => ∃ (r1 : Option mV) (h1 : mH), run n d2 k (0, mIn k a, [], h) r1 h1 ∧ run n d m (pc, L, mPush r1 S, h1) r t)
      | some (.inr (.inr (.inr (g, v, h)))) => gd g (r = v ∧ t = h)
theorem run_up : ∀ (n d m : Nat) (c : mC) (r : Option mV) (t : mH), run n d m c r t → run (n + 1) d m c r t := by
  intro n
  induction n with
  | zero => intro d m c r t h; exact h.elim
  | succ n ih =>
    intro d m c r t h
    unfold run at h
    unfold run
    split at h
    next => exact h.elim
    next e he =>
      split at h
      next => exact h.elim
      next => exact gd_imp h (ih _ _ _ _ _)
      next => exact ⟨h.1, h.2.elim (fun q => Or.inl ⟨q.1, ih _ _ _ _ _ q.2⟩) (fun q => Or.inr ⟨q.1, ih _ _ _ _ _ q.2⟩)⟩
      next =>
        refine gd_imp h (fun h2 => ?_)
        cases d with
        | zero => exact h2.elim
        | succ d =>
          obtain ⟨r1, h1, a, b⟩ := h2
          exact ⟨r1, h1, ih _ _ _ _ _ a, ih _ _ _ _ _ b⟩
      next => exact h
theorem run_le {n n2 : Nat} (h : n ≤ n2) {d m : Nat} {c : mC} {r : Option mV} {t : mH} (k : run n d m c r t) : run n2 d m c r t := by
  induction h with
  | refl => exact k
  | step _ ih => exact run_up _ _ _ _ _ _ ih
/-- it comes to an end at which Q holds, with calls at most d deep -/
def Ev (d m : Nat) (c : mC) (Q : Option mV → mH → Prop) : Prop := ∃ (n : Nat) (r : Option mV) (t : mH), run n d m c r t ∧ Q r t
def isAt (ps : List Nat) (pc : Nat) : Bool := match ps with
  | [] => false
  | p :: ps => Nat.beq p pc || isAt ps pc
/-- what must hold at a place, looked up to the next of the places ps (and calls) -/
def wp : Nat → Nat → Nat → List Nat → Nat → mL → List mV → mH → (Option mV → mH → Prop) → Prop
  | 0, d, m, _, pc, L, S, h, Q => Ev d m (pc, L, S, h) Q
  | n + 1, d, m, ps, pc, L, S, h, Q => match pg m pc with
    | none => False
    | some e => match stp e pc L S h with
      | none => False
      | some (.inl (g, pc, L, S, h)) => gd g (match isAt ps pc with
        | true => Ev d m (pc, L, S, h) Q
        | false => wp n d m ps pc L S h Q)
      | some (.inr (.inl (g, k, p, q, L, S, h))) => g ∧ (k → (match isAt ps p with
        | true => Ev d m (p, L, S, h) Q
        | false => wp n d m ps p L S h Q)) ∧ (¬ k → (match isAt ps q with
        | true => Ev d m (q, L, S, h) Q
        | false => wp n d m ps q L S h Q))
      | some (.inr (.inr (.inl (g, k, a, pc, L, S, h)))) => gd g (match d with
        | 0 => False
        | d2 + 1 => Ev d2 k (0, mIn k a, [], h) (fun r1 h1 => Ev d m (pc, L, mPush r1 S, h1) Q))
      | some (.inr (.inr (.inr (g, v, h)))) => gd g (Q v h)
theorem Ev.mono {d m : Nat} {c : mC} {Q Q2 : Option mV → mH → Prop} (h : Ev d m c Q) (k : ∀ r t, Q r t → Q2 r t) : Ev d m c Q2 := by
  obtain ⟨n, r, t, a, b⟩ := h
  exact ⟨n, r, t, a, k _ _ b⟩
theorem wp_ok : ∀ (n d m : Nat) (ps : List Nat) (pc : Nat) (L : mL) (S : List mV) (h : mH) (Q : Option mV → mH → Prop), wp n d m ps pc L S h Q → Ev d m (pc, L, S, h) Q := by
  intro n
  induction n with
  | zero => intro d m ps pc L S h Q k; exact k
  | succ n ih =>
    intro d m ps pc L S h Q k
    have pick : ∀ (pc : Nat) (L : mL) (S : List mV) (h : mH), (match isAt ps pc with
        | true => Ev d m (pc, L, S, h) Q
        | false => wp n d m ps pc L S h Q) → Ev d m (pc, L, S, h) Q := by
      intro pc L S h k
      split at k
      next => exact k
      next => exact ih _ _ _ _ _ _ _ _ k
    unfold wp at k
    have one : ∀ (j : Nat) (r : Option mV) (t : mH), run (j + 1) d m (pc, L, S, h) r t → Q r t → Ev d m (pc, L, S, h) Q := fun j r t a b => ⟨j + 1, r, t, a, b⟩
    unfold run at one
    dsimp only at one
    split at k
    next => exact k.elim
    next e he =>
      rw [he] at one
      dsimp only at one
      split at k
      next => exact k.elim
      next hs =>
        rw [hs] at one
        obtain ⟨j, r, t, a, b⟩ := pick _ _ _ _ (gd_out k)
        exact one j r t (gd_imp k (fun _ => a)) b
      next hs =>
        rw [hs] at one
        rename_i g kk p q L S hh
        rcases Classical.em kk with z | z
        · obtain ⟨j, r, t, a, b⟩ := pick _ _ _ _ (k.2.1 z)
          exact one j r t ⟨k.1, Or.inl ⟨z, a⟩⟩ b
        · obtain ⟨j, r, t, a, b⟩ := pick _ _ _ _ (k.2.2 z)
          exact one j r t ⟨k.1, Or.inr ⟨z, a⟩⟩ b
      next hs =>
        rw [hs] at one
        have h2 := gd_out k
        cases d with
        | zero => exact h2.elim
        | succ d =>
          obtain ⟨j, r, t, a, k2, r2, t2, a2, b2⟩ := h2
          exact one (j + k2) r2 t2 (gd_imp k (fun _ => ⟨r, t, run_le (Nat.le_add_right _ _) a, run_le (Nat.le_add_left _ _) a2⟩)) b2
      next hs =>
        rw [hs] at one
        exact one 0 _ _ (gd_imp k (fun _ => ⟨rfl, rfl⟩)) (gd_out k)

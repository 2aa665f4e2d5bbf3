/-! BITS of two sets -/
theorem bb_or : ∀ s : Nat, s < 256 → ∀ t : Nat, t < 256 → bOr (s : Int) (t : Int) = ((s ||| t : Nat) : Int) := by decide +kernel
theorem bb_and : ∀ s : Nat, s < 256 → ∀ t : Nat, t < 256 → bAnd (s : Int) (t : Int) = ((s &&& t : Nat) : Int) := by decide +kernel
theorem bb_sub : ∀ s : Nat, s < 256 → ∀ t : Nat, t < 256 → bAnd (s : Int) (bXor (t : Int) (-1)) = ((s &&& (255 ^^^ t) : Nat) : Int) := by decide +kernel
/-- a set of the tasks below n -/
def bm (P : Nat → Bool) : Nat → Nat
  | 0 => 0
  | n + 1 => bm P n ||| (if P n = true then 2 ^ n else 0)
theorem bm_test {P : Nat → Bool} : ∀ (n t : Nat), (bm P n).testBit t = (decide (t < n) && P t)
  | 0, t => by simp [bm]
  | n + 1, t => by
    simp only [bm]
    rw [Nat.testBit_or, bm_test n t]
    by_cases e : t = n
    · subst e
      cases h : P t
      · simp
      · simp [Nat.testBit_two_pow]
    · have h1 : (if P n = true then 2 ^ n else 0).testBit t = false := by
        split
        · rw [Nat.testBit_two_pow]
          simp
          omega
        · simp
      rw [h1, Bool.or_false, decide_eq_decide.mpr (show t < n ↔ t < n + 1 by omega)]
theorem bm_lt {P : Nat → Bool} : ∀ n, n ≤ 8 → bm P n < 256
  | 0, _ => by simp [bm]
  | n + 1, h => by
    have := bm_lt (P := P) n (by omega)
    simp only [bm]
    split
    · exact bt_lt _ this n (by omega)
    · simpa using this
theorem bm_ext {s t : Nat} (hs : s < 256) (ht : t < 256) (h : ∀ i, i < 8 → s.testBit i = t.testBit i) : s = t := by
  apply Nat.eq_of_testBit_eq
  intro i
  by_cases hi : i < 8
  · exact h i hi
  · rw [Nat.testBit_lt_two_pow (show s < 2 ^ i by
      have : 2 ^ 8 ≤ 2 ^ i := Nat.pow_le_pow_right (by decide) (by omega)
      omega), Nat.testBit_lt_two_pow (show t < 2 ^ i by
      have : 2 ^ 8 ≤ 2 ^ i := Nat.pow_le_pow_right (by decide) (by omega)
      omega)]
theorem bm_congr {P R : Nat → Bool} (h : ∀ i, i < 8 → P i = R i) : bm P 8 = bm R 8 :=
  bm_ext (bm_lt 8 (by omega)) (bm_lt 8 (by omega)) (fun i hi => by rw [bm_test, bm_test, h i hi])
theorem bm_zero {P : Nat → Bool} : bm P 8 = 0 ↔ ∀ i, i < 8 → P i = false := by
  constructor
  · intro h i hi
    have := bm_test (P := P) 8 i
    rw [h, Nat.zero_testBit] at this
    simpa [hi] using this.symm
  · intro h
    exact bm_ext (bm_lt 8 (by omega)) (by omega) (fun i hi => by rw [bm_test, h i hi]; simp)
theorem bm_or (P R : Nat → Bool) : bOr (bm P 8 : Int) (bm R 8 : Int) = ((bm (fun i => P i || R i) 8 : Nat) : Int) := by
  have h1 := bm_lt (P := P) 8 (by omega)
  have h2 := bm_lt (P := R) 8 (by omega)
  rw [bb_or _ h1 _ h2]
  congr 1
  refine bm_ext (Nat.or_lt_two_pow (n := 8) h1 h2) (bm_lt 8 (by omega)) (fun i hi => ?_)
  rw [Nat.testBit_or, bm_test, bm_test, bm_test]
  simp [hi]
theorem bm_and (P R : Nat → Bool) : bAnd (bm P 8 : Int) (bm R 8 : Int) = ((bm (fun i => P i && R i) 8 : Nat) : Int) := by
  have h1 := bm_lt (P := P) 8 (by omega)
  have h2 := bm_lt (P := R) 8 (by omega)
  rw [bb_and _ h1 _ h2]
  congr 1
  refine bm_ext (Nat.lt_of_le_of_lt Nat.and_le_left h1) (bm_lt 8 (by omega)) (fun i hi => ?_)
  rw [Nat.testBit_and, bm_test, bm_test, bm_test]
  simp [hi]
theorem bm_sub (P R : Nat → Bool) : bAnd (bm P 8 : Int) (bXor (bm R 8 : Int) (-1)) = ((bm (fun i => P i && !R i) 8 : Nat) : Int) := by
  have h1 := bm_lt (P := P) 8 (by omega)
  have h2 := bm_lt (P := R) 8 (by omega)
  rw [bb_sub _ h1 _ h2]
  congr 1
  refine bm_ext (Nat.lt_of_le_of_lt Nat.and_le_left h1) (bm_lt 8 (by omega)) (fun i hi => ?_)
  rw [Nat.testBit_and, Nat.testBit_xor, bm_test, bm_test, bm_test, bt_top 8 (by omega) i hi]
  simp [hi]
theorem bm_one {t : Nat} (ht : t < 8) : bShl 1 (t : Int) = ((bm (fun i => decide (t = i)) 8 : Nat) : Int) := by
  rw [bt_shl t (by omega)]
  congr 1
  have h2 : 2 ^ t < 256 := Nat.pow_lt_pow_right (show 1 < 2 by decide) (show t < 8 by omega)
  refine bm_ext h2 (bm_lt 8 (by omega)) (fun i hi => ?_)
  rw [bm_test, Nat.testBit_two_pow]
  simp [hi]
theorem bm_all {N : Nat} (hN : N ≤ 8) : bShl 1 (N : Int) - 1 = ((bm (fun i => decide (i < N)) 8 : Nat) : Int) := by
  rw [bt_shl N (by omega)]
  have h2 := bt_2 N (by omega)
  have : 2 ^ N - 1 = bm (fun i => decide (i < N)) 8 := by
    refine bm_ext (by omega) (bm_lt 8 (by omega)) (fun i hi => ?_)
    rw [bm_test, Nat.testBit_two_pow_sub_one]
    simp [hi]
  rw [← this]
  omega
theorem bm_ne {P : Nat → Bool} {t : Nat} (ht : t < 8) : bAnd (bm P 8 : Int) (bShl 1 (t : Int)) ≠ 0 ↔ P t = true := by
  rw [bt_ne (bm_lt 8 (by omega)) ht, bm_test]
  simp [ht]
theorem bm_inR (P : Nat → Bool) : inR ((bm P 8 : Nat) : Int) := by
  have := bm_lt (P := P) 8 (by omega)
  omega

/-! whole numbers for the machine's own -/
theorem jI_in {z : Int} (h : inR z) : (jI z).toInt = z := Int32.toInt_ofInt_of_le (by have := h.1; omega) (by have := h.2; omega)
theorem jL_in {z : Int} (h : inL z) : (jL z).toInt = z := Int64.toInt_ofInt_of_le (by have := h.1; omega) (by have := h.2; omega)
theorem jI_add (x y : Int) : jI (x + y) = jI x + jI y := Int32.ofInt_add x y
theorem jI_sub (x y : Int) : jI (x - y) = jI x - jI y := Int32.ofInt_sub x y
theorem jI_mul (x y : Int) : jI (x * y) = jI x * jI y := Int32.ofInt_mul x y
theorem jL_add (x y : Int) : jL (x + y) = jL x + jL y := Int64.ofInt_add x y
theorem jL_sub (x y : Int) : jL (x - y) = jL x - jL y := Int64.ofInt_sub x y
theorem jL_mul (x y : Int) : jL (x * y) = jL x * jL y := Int64.ofInt_mul x y
theorem jI_div {x y : Int} (hx : inR x) (hy : inR y) : jI (x.tdiv y) = jI x / jI y := Int32.ofInt_tdiv (by have := hx.1; rw [Int32.toInt_minValue]; omega) (by have := hx.2; rw [Int32.toInt_maxValue]; omega) (by have := hy.1; rw [Int32.toInt_minValue]; omega) (by have := hy.2; rw [Int32.toInt_maxValue]; omega)
theorem jL_div {x y : Int} (hx : inL x) (hy : inL y) : jL (x.tdiv y) = jL x / jL y := Int64.ofInt_tdiv (by have := hx.1; rw [Int64.toInt_minValue]; omega) (by have := hx.2; rw [Int64.toInt_maxValue]; omega) (by have := hy.1; rw [Int64.toInt_minValue]; omega) (by have := hy.2; rw [Int64.toInt_maxValue]; omega)
theorem jL_rem {x y : Int} (hx : inL x) (hy : inL y) : jL (x.tmod y) = jL x - jL x / jL y * jL y := by
  rw [← jL_div hx hy, ← jL_mul, ← jL_sub]
  congr 1
  rw [Int.tmod_def, Int.mul_comm]
theorem jI_eq {x y : Int} (hx : inR x) (hy : inR y) : jI x = jI y ↔ x = y := by
  rw [← Int32.toInt_inj, jI_in hx, jI_in hy]
theorem jI_lt {x y : Int} (hx : inR x) (hy : inR y) : jI x < jI y ↔ x < y := by
  rw [Int32.lt_iff_toInt_lt, jI_in hx, jI_in hy]
theorem jI_le {x y : Int} (hx : inR x) (hy : inR y) : jI x ≤ jI y ↔ x ≤ y := by
  rw [Int32.le_iff_toInt_le, jI_in hx, jI_in hy]
theorem jL_eq {x y : Int} (hx : inL x) (hy : inL y) : jL x = jL y ↔ x = y := by
  rw [← Int64.toInt_inj, jL_in hx, jL_in hy]
theorem jL_lt {x y : Int} (hx : inL x) (hy : inL y) : jL x < jL y ↔ x < y := by
  rw [Int64.lt_iff_toInt_lt, jL_in hx, jL_in hy]
theorem jI_0 : jI 0 = 0 := rfl
theorem inR0 : inR 0 := by omega
theorem jI_nat {i : Int} (h0 : 0 ≤ i) (h : inR i) : (jI i).toNatClampNeg = i.toNat := Int32.toNatClampNeg_ofInt_of_le (by omega) (by have := h.2; omega)
theorem jI_vin {i : Int} {n : Nat} (h0 : 0 ≤ i) (h : i < n) (hn : n < 2147483648) : vp_in (jI i) n := by
  have hi : inR i := ⟨by omega, by omega⟩
  intro q
  rcases q with q | q
  · rw [← jI_0, jI_lt hi inR0] at q
    omega
  · rw [jI_nat h0 hi] at q
    omega
theorem jL_ne0 {y : Int} (h : inL y) (h0 : 0 < y) : ¬ jL y = 0 := by
  intro q
  have := (jL_eq h (show inL 0 by omega)).mp q
  omega
theorem jI_ne0 {y : Int} (h : inR y) (h0 : 0 < y) : ¬ jI y = 0 := by
  intro q
  have := (jI_eq h inR0).mp q
  omega
theorem jI_i2l {x : Int} (h : inR x) : (jI x).toInt64 = jL x := by
  rw [← Int64.ofInt_int32ToInt, jI_in h]
  rfl
theorem jI_cmp {x y : Int} (hx : inL x) (hy : inL y) : lg_cmp (jL x) (jL y) = jI (sgn x y) := by
  unfold lg_cmp sgn
  by_cases h1 : x < y
  · rw [if_neg, if_neg, if_pos h1]
    · rfl
    · rw [jL_eq hx hy]; omega
    · rw [gt_iff_lt, jL_lt hy hx]; omega
  · by_cases h2 : x = y
    · subst h2
      rw [if_neg, if_pos rfl, if_neg h1, if_pos rfl]
      · rfl
      · rw [gt_iff_lt, jL_lt hy hx]; omega
    · rw [if_pos, if_neg h1, if_neg h2]
      · rfl
      · rw [gt_iff_lt, jL_lt hy hx]; omega
theorem jI_and (x y : Int) : jI (bAnd x y) = jI x &&& jI y := Int32.ofInt_toInt _
theorem jI_or (x y : Int) : jI (bOr x y) = jI x ||| jI y := Int32.ofInt_toInt _
theorem jI_xor (x y : Int) : jI (bXor x y) = jI x ^^^ jI y := Int32.ofInt_toInt _
theorem jI_shl (x y : Int) : jI (bShl x y) = jI x <<< (jI y &&& 31) := Int32.ofInt_toInt _
theorem jI_shr (x y : Int) : jI (bShr x y) = jI x >>> (jI y &&& 31) := Int32.ofInt_toInt _
theorem jI_bool {x : Int} (h0 : 0 ≤ x) (h1 : x ≤ 1) : vp_nar .boolean (jI x) = jI x := by
  rcases (show x = 0 ∨ x = 1 by omega) with rfl | rfl <;> decide +kernel
theorem jI_nbool {x : Int} (h0 : 0 ≤ x) (h1 : x ≤ 1) : narrow .boolean (.int (jI x)) = .int (jI x) := by
  rcases (show x = 0 ∨ x = 1 by omega) with rfl | rfl <;> decide +kernel
theorem jI_self (x : Int32) : jI x.toInt = x := Int32.ofInt_toInt x
theorem jI_selfR (x : Int32) : inR x.toInt := ⟨Int32.le_toInt x, Int32.toInt_lt x⟩
theorem jI_len (n : Nat) : Int32.ofNat n = jI (n : Int) := (Int32.ofInt_eq_ofNat).symm
theorem up_jI (f : Nat → Int) (k : Nat) (z : Int) : upd (fun i => jI (f i)) k (jI z) = fun i => jI (up f k z i) := by
  funext i
  unfold upd up
  by_cases h : i = k <;> simp [h]
theorem up_jL (f : Nat → Int) (k : Nat) (z : Int) : vp_updL (fun i => jL (f i)) k (jL z) = fun i => jL (up f k z i) := by
  funext i
  unfold vp_updL up
  by_cases h : i = k <;> simp [h]
theorem cpy_jI (f g : Nat → Int) (sp dp n : Nat) : va_cpy (fun i => jI (f i)) (fun i => jI (g i)) sp dp n = fun i => jI (cpy f g sp dp n i) := by
  funext i
  unfold va_cpy cpy
  by_cases h : dp ≤ i ∧ i < dp + n <;> simp [h]
/-! lists by place -/
theorem mNth_get {α : Type} : ∀ (l : List α) (i : Nat), mNth l i = l[i]?
  | [], i => by simp [mNth]
  | a :: l, 0 => by simp [mNth]
  | a :: l, i + 1 => by simp [mNth, mNth_get l i]
theorem mSet_set {α : Type} : ∀ (l : List α) (i : Nat) (x : α), mSet l i x = l.set i x
  | [], i, x => by simp [mSet]
  | a :: l, 0, x => by simp [mSet]
  | a :: l, i + 1, x => by simp [mSet, mSet_set l i x]
theorem mLt_lt {α : Type} : ∀ (l : List α) (i : Nat), mLt l i = true → i < l.length
  | [], i, h => by cases i <;> simp [mLt] at h
  | a :: l, 0, _ => by simp
  | a :: l, i + 1, h => by
    have := mLt_lt l i h
    simp; omega

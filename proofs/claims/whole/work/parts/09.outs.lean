/-! what a step can be -/
abbrev rT0 (pc : Nat) (L : mL) (S : List mV) (h : mH) : (Option Prop × mC) ⊕ (Prop × Prop × Nat × Nat × mL × List mV × mH) ⊕ (Option Prop × Nat × List mV × Nat × mL × List mV × mH) ⊕ (Option Prop × Option mV × mH) := .inl (none, pc, L, S, h)
theorem mLoad_out {pc : Nat} {L : mL} {S : List mV} {h : mH} {i k : Nat} {r : (Option Prop × mC) ⊕ (Prop × Prop × Nat × Nat × mL × List mV × mH) ⊕ (Option Prop × Nat × List mV × Nat × mL × List mV × mH) ⊕ (Option Prop × Option mV × mH)} (hs : mLoad pc L S h i k = some r) :
    (∃ z, k = 0 ∧ mNth L i = some (some (vI z)) ∧ r = rT0 pc L (vI z :: S) h) ∨ (∃ z, k = 1 ∧ mNth L i = some (some (vL z)) ∧ r = rT0 pc L (vL z :: S) h) ∨ (∃ o, k = 2 ∧ mNth L i = some (some (vO o)) ∧ r = rT0 pc L (vO o :: S) h) ∨ (∃ a, k = 2 ∧ mNth L i = some (some (vA a)) ∧ r = rT0 pc L (vA a :: S) h) := by
  unfold mLoad at hs
  split at hs
  next z hz => exact Or.inl ⟨z, rfl, hz, (Option.some.inj hs).symm⟩
  next z hz => exact Or.inr (Or.inl ⟨z, rfl, hz, (Option.some.inj hs).symm⟩)
  next z hz => exact Or.inr (Or.inr (Or.inl ⟨z, rfl, hz, (Option.some.inj hs).symm⟩))
  next z hz => exact Or.inr (Or.inr (Or.inr ⟨z, rfl, hz, (Option.some.inj hs).symm⟩))
  next => cases hs
theorem mStore_out {pc : Nat} {L : mL} {S : List mV} {h : mH} {i k : Nat} {r : (Option Prop × mC) ⊕ (Prop × Prop × Nat × Nat × mL × List mV × mH) ⊕ (Option Prop × Nat × List mV × Nat × mL × List mV × mH) ⊕ (Option Prop × Option mV × mH)} (hs : mStore pc L S h i k = some r) :
    (∃ z T, S = vI z :: T ∧ k = 0 ∧ i < L.length ∧ r = rT0 pc (mPut L i (vI z)) T h) ∨ (∃ z T, S = vL z :: T ∧ k = 1 ∧ i + 1 < L.length ∧ r = rT0 pc (mPut L i (vL z)) T h) ∨ (∃ o T, S = vO o :: T ∧ k = 2 ∧ i < L.length ∧ r = rT0 pc (mPut L i (vO o)) T h) ∨ (∃ a T, S = vA a :: T ∧ k = 2 ∧ i < L.length ∧ r = rT0 pc (mPut L i (vA a)) T h) := by
  unfold mStore at hs
  split at hs
  next w z T hz => exact Or.inl ⟨z, T, rfl, rfl, mLt_lt _ _ hz, (Option.some.inj hs).symm⟩
  next w z T hz => exact Or.inr (Or.inl ⟨z, T, rfl, rfl, mLt_lt _ _ hz, (Option.some.inj hs).symm⟩)
  next w z T hz => exact Or.inr (Or.inr (Or.inl ⟨z, T, rfl, rfl, mLt_lt _ _ hz, (Option.some.inj hs).symm⟩))
  next w z T hz => exact Or.inr (Or.inr (Or.inr ⟨z, T, rfl, rfl, mLt_lt _ _ hz, (Option.some.inj hs).symm⟩))
  next => cases hs
theorem mCall_out {pc : Nat} {L : mL} {S : List mV} {h : mH} {m : Nat} {st : Bool} {r : (Option Prop × mC) ⊕ (Prop × Prop × Nat × Nat × mL × List mV × mH) ⊕ (Option Prop × Nat × List mV × Nat × mL × List mV × mH) ⊕ (Option Prop × Option mV × mH)} (hs : mCall pc L S h m st = some r) :
    ∃ args rest, mTake (mA m) [] S = some (args, rest) ∧ mCat rest ≤ 8 ∧ (mFlat args).length ≤ mW m ∧ ((st = true ∧ mS m = true ∧ r = .inr (.inr (.inl (none, m, args, pc + 3, L, rest, h)))) ∨ (st = false ∧ mS m = false ∧ ∃ o as, args = vO o :: as ∧ r = .inr (.inr (.inl (some (cO o = mK m), m, args, pc + 3, L, rest, h))))) := by
  unfold mCall at hs
  split at hs
  next args rest ht =>
    split at hs
    next h1 h2 =>
      refine ⟨args, rest, ht, Nat.le_of_ble_eq_true h1, Nat.le_of_ble_eq_true h2, ?_⟩
      split at hs
      next hm => exact Or.inl ⟨rfl, hm, (Option.some.inj hs).symm⟩
      next o as hm => exact Or.inr ⟨rfl, hm, o, as, rfl, (Option.some.inj hs).symm⟩
      next => cases hs
    next => cases hs
  next => cases hs
theorem mTake_out : ∀ (n : Nat) (acc S : List mV) (args rest : List mV), mTake n acc S = some (args, rest) → args.reverse ++ rest = acc.reverse ++ S ∧ args.length = acc.length + n
  | 0, acc, S, args, rest, h => by
    simp only [mTake, Option.some.injEq, Prod.mk.injEq] at h
    obtain ⟨rfl, rfl⟩ := h
    simp
  | n + 1, acc, [], args, rest, h => by simp [mTake] at h
  | n + 1, acc, v :: S, args, rest, h => by
    obtain ⟨h1, h2⟩ := mTake_out n (v :: acc) S args rest (by simpa [mTake] using h)
    refine ⟨?_, ?_⟩
    · rw [h1]; simp
    · rw [h2]; simp; omega
theorem mTake_all {n : Nat} {S args rest : List mV} (h : mTake n [] S = some (args, rest)) : S = args.reverse ++ rest ∧ args.length = n := by
  obtain ⟨h1, h2⟩ := mTake_out _ _ _ _ _ h
  exact ⟨by simpa using h1.symm, by simpa using h2⟩
theorem ck_dec {m pc : Nat} {e : mE} (h : ck m pc e = true) : decode (bN m) pc = .ok (e.1, ilen pc e.1) := by
  unfold ck at h
  exact of_decide_eq_true (Bool.and_eq_true_iff.mp h).1
theorem kF_word {q : Nat × Nat × Nat × Nat × Nat} (h : q ∈ kF) : Cond.fieldLink (cN q.1) q.2.1 (cN q.2.2.1) (cT q.2.2.1 q.2.2.2.1).2.1 (cT q.2.2.1 q.2.2.2.1).2.2.1 ∈ lw_good := good_at (kF_at q h) rfl
theorem kV_word {q : Nat × Nat × Nat × Nat} (h : q ∈ kV) : Cond.methodLink (cN q.1) q.2.1 (yN q.2.2.1) ∈ lw_good := good_at (kV_at q h) rfl
theorem kS_word {q : Nat × Nat × Nat × Nat} (h : q ∈ kS) : Cond.methodLink (cN q.1) q.2.1 (yN q.2.2.1) ∈ lw_good := good_at (kS_at q h) rfl
theorem kI_word {q : Nat × Nat × Int × Nat} (h : q ∈ kI) : Cond.constant (cN q.1) q.2.1 (jI q.2.2.1) ∈ lw_good := good_at (kI_at q h) rfl
theorem kL_word {q : Nat × Nat × Int × Nat} (h : q ∈ kL) : Cond.constantLong (cN q.1) q.2.1 (jL q.2.2.1) ∈ lw_good := good_at (kL_at q h) rfl
theorem kX_word {q : Nat × Nat × Nat × Nat} (h : q ∈ kX) : Cond.methodLink (cN q.1) q.2.1 (if q.2.2.1 = 901 then Lib.Math.max.name else Lib.Math.min.name) ∈ lw_good := good_at (kX_at q h) rfl
theorem kM_codeW {m : Nat} (h : m < 133) : Cond.code (yN m) (bN m) (mW m) (rN m) ∈ lw_good := good_at (kM_code m h) rfl
theorem kM_initW {m : Nat} (h : m < 133) : Cond.initialized (yN m).cls ∈ lw_good := good_at (kM_init m h) rfl
theorem kM_statW {m : Nat} (h : m < 133) (k : mS m = true) : Cond.static (yN m) ∈ lw_good := good_at (kM_stat m h k) rfl
theorem kM_instW {m : Nat} (h : m < 133) (k : mS m = false) : Cond.instanceMethod (yN m) ∈ lw_good := good_at (kM_inst m h k) rfl
theorem kM_selW {m : Nat} (h : m < 133) (k : mS m = false) : Cond.selects (cN (mK m)) (yN m) (yN m) ∈ lw_good := good_at (kM_sel m h k) rfl
theorem good_in {w : Cond} (h : w ∈ lw_tbl) (g : goodWord w = true) : w ∈ lw_good := List.mem_filter.mpr ⟨h, g⟩
theorem kW_words {c : Nat} (h : c < 10) : ∀ w ∈ u_ws (cN c) (cT c) (cF c), w ∈ lw_good := by
  intro w hw
  obtain ⟨k, hk, rfl⟩ := List.mem_map.mp hw
  refine good_at (kW_at c h k (List.mem_range.mp hk)) ?_
  unfold u_lay
  split <;> rfl
theorem good_GoodIn : GoodIn lw_good lw_good := fun w hw => ⟨hw, good_of_word (List.mem_filter.mp hw).2⟩
theorem ck_F {m i : Nat} {e : mE} (h : kF.any (fun q => decide (q.1 = mK m ∧ q.2.1 = i ∧ q.2.2.1 = e.2.1 ∧ q.2.2.2.1 = e.2.2.1)) = true) : ∃ q ∈ kF, q.1 = mK m ∧ q.2.1 = i ∧ q.2.2.1 = e.2.1 ∧ q.2.2.2.1 = e.2.2.1 := by
  obtain ⟨q, h1, h2⟩ := List.any_eq_true.mp h
  exact ⟨q, h1, of_decide_eq_true h2⟩

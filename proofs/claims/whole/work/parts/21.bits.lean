/-! BITS of small sets, sums, orders -/
theorem bt_and : ∀ s : Nat, s < 256 → ∀ t : Nat, t < 8 → bAnd (s : Int) (bShl 1 (t : Int)) = if s.testBit t = true then ((2 ^ t : Nat) : Int) else 0 := by decide +kernel
theorem bt_or : ∀ s : Nat, s < 256 → ∀ t : Nat, t < 8 → bOr (s : Int) (bShl 1 (t : Int)) = ((s ||| 2 ^ t : Nat) : Int) := by decide +kernel
theorem bt_shr : ∀ s : Nat, s < 256 → ∀ t : Nat, t < 8 → bAnd (bShr (s : Int) (t : Int)) 1 = if s.testBit t = true then 1 else 0 := by decide +kernel
theorem bt_shl : ∀ t : Nat, t < 9 → bShl 1 (t : Int) = ((2 ^ t : Nat) : Int) := by decide +kernel
theorem bt_lt : ∀ s : Nat, s < 256 → ∀ t : Nat, t < 8 → s ||| 2 ^ t < 256 := by decide +kernel
theorem bt_gt : ∀ s : Nat, s < 256 → ∀ t : Nat, t < 8 → s.testBit t = false → s < s ||| 2 ^ t := by decide +kernel
theorem bt_all : ∀ n : Nat, n < 9 → ∀ s : Nat, s < 256 → s < 2 ^ n - 1 → ∃ t, t < n ∧ s.testBit t = false := by decide +kernel
theorem bt_in : ∀ n : Nat, n < 9 → ∀ s : Nat, s < 256 → s < 2 ^ n → ∀ t : Nat, t < n → s ||| 2 ^ t < 2 ^ n := by decide +kernel
theorem bt_top : ∀ n : Nat, n < 9 → ∀ t : Nat, t < n → (2 ^ n - 1).testBit t = true := by decide +kernel
theorem bt_2 : ∀ n : Nat, n < 9 → 2 ^ n ≤ 256 ∧ 1 ≤ 2 ^ n := by decide +kernel
theorem bt_or_test (s t u : Nat) : (s ||| 2 ^ t).testBit u = (s.testBit u || decide (t = u)) := by
  rw [Nat.testBit_or, Nat.testBit_two_pow]
theorem bt_ne {s t : Nat} (hs : s < 256) (ht : t < 8) : bAnd (s : Int) (bShl 1 (t : Int)) ≠ 0 ↔ s.testBit t = true := by
  rw [bt_and s hs t ht]
  have : 0 < 2 ^ t := Nat.two_pow_pos t
  generalize 2 ^ t = u at this ⊢
  cases h : s.testBit t
  · simp
  · simp only [if_true]
    constructor
    · intro _; trivial
    · intro _; omega
theorem bt_inR {s t : Nat} (hs : s < 256) (ht : t < 8) : inR (bAnd (s : Int) (bShl 1 (t : Int))) := by
  rw [bt_and s hs t ht]
  have : 2 ^ t ≤ 2 ^ 8 := Nat.pow_le_pow_right (by decide) (by omega)
  generalize 2 ^ t = u at this ⊢
  split <;> omega
theorem bs_ne {s t : Nat} (hs : s < 256) (ht : t < 8) : bAnd (bShr (s : Int) (t : Int)) 1 ≠ 0 ↔ s.testBit t = true := by
  rw [bt_shr s hs t ht]
  cases h : s.testBit t <;> simp
theorem bs_inR {s t : Nat} (hs : s < 256) (ht : t < 8) : inR (bAnd (bShr (s : Int) (t : Int)) 1) := by
  rw [bt_shr s hs t ht]
  split <;> omega
/-! sums -/
theorem sm_add (f g : Nat → Int) : ∀ n, sm (fun i => f i + g i) n = sm f n + sm g n
  | 0 => rfl
  | n + 1 => by
    have := sm_add f g n
    show sm _ n + (f n + g n) = (sm f n + f n) + (sm g n + g n)
    omega
theorem sm_zero : ∀ n, sm (fun _ => 0) n = 0
  | 0 => rfl
  | n + 1 => by
    have := sm_zero n
    show sm _ n + 0 = 0
    omega
theorem sm_swap (f : Nat → Nat → Int) (m : Nat) : ∀ n, sm (fun i => sm (fun j => f i j) m) n = sm (fun j => sm (fun i => f i j) n) m
  | 0 => by
    show (0 : Int) = sm (fun _ => 0) m
    rw [sm_zero]
  | n + 1 => by
    show sm _ n + _ = sm (fun j => sm (fun i => f i j) n + f n j) m
    rw [sm_swap f m n, sm_add]
theorem sm_one {f : Nat → Int} {k : Nat} : ∀ n, k < n → (∀ i, i < n → i ≠ k → f i = 0) → sm f n = f k
  | 0, h, _ => by omega
  | n + 1, h, z => by
    show sm f n + f n = f k
    by_cases e : n = k
    · subst e
      rw [sm_congr (g := fun _ => 0) n (fun i hi => z i (by omega) (by omega)), sm_zero]
      omega
    · rw [sm_one n (by omega) (fun i hi hk => z i (by omega) hk), z n (by omega) e]
      omega
/-! a one to one row of n numbers below n has each of them -/
theorem pig : ∀ (n : Nat) (f : Nat → Nat), (∀ i, i < n → f i < n) → (∀ i j, i < n → j < n → f i = f j → i = j) → ∀ t, t < n → ∃ i, i < n ∧ f i = t
  | 0, _, _, _, t, ht => by omega
  | n + 1, f, h1, h2, t, ht => by
    have ih := pig n (fun i => if f i = n then f n else f i)
      (fun i hi => by
        try dsimp only
        have a := h1 i (by omega)
        have b := h1 n (by omega)
        split
        next e =>
          have : f n ≠ n := fun q => by
            have := h2 i n (by omega) (by omega) (e.trans q.symm)
            omega
          omega
        next e => omega)
      (fun i j hi hj e => by
        try dsimp only at e
        split at e
        next e1 =>
          split at e
          next e2 => exact h2 i j (by omega) (by omega) (e1.trans e2.symm)
          next e2 =>
            have := h2 n j (by omega) (by omega) e
            omega
        next e1 =>
          split at e
          next e2 =>
            have := h2 i n (by omega) (by omega) e
            omega
          next e2 => exact h2 i j (by omega) (by omega) e)
    by_cases ha : f n = t
    · exact ⟨n, by omega, ha⟩
    · by_cases hn : t = n
      · subst hn
        have hb : f t < t := by
          have := h1 t (by omega)
          omega
        obtain ⟨i, hi, e⟩ := ih (f t) hb
        try dsimp only at e
        split at e
        next e1 => exact ⟨i, by omega, e1⟩
        next e1 =>
          have := h2 i t (by omega) (by omega) e
          omega
      · obtain ⟨i, hi, e⟩ := ih t (by omega)
        try dsimp only at e
        split at e
        next e1 => exact absurd e ha
        next e1 => exact ⟨i, by omega, e⟩
/-- an order has each task -/
theorem OD.has {N : Nat} {f : Nat → Int} (h : OD (N : Int) f) {t : Int} (h0 : 0 ≤ t) (h1 : t < N) : ∃ p : Nat, p < N ∧ f p = t := by
  obtain ⟨i, hi, e⟩ := pig N (fun i => (f i).toNat) (fun i hi => by
      have := h.1 i (by omega)
      try dsimp only
      omega) (fun i j hi hj e => by
      have a := h.1 i (by omega)
      have b := h.1 j (by omega)
      try dsimp only at e
      exact h.2 i j (by omega) (by omega) (by omega)) t.toNat (by omega)
  have := h.1 i (by omega)
  try dsimp only at e
  exact ⟨i, hi, by omega⟩
/-- a sum over the tasks is one over the places -/
theorem sm_perm {N : Nat} {f : Nat → Int} (h : OD (N : Int) f) (F : Nat → Int) : sm F N = sm (fun p => F (f p).toNat) N := by
  have e1 : sm (fun p => F (f p).toNat) N = sm (fun p => sm (fun b => if (f p).toNat = b then F b else 0) N) N := by
    apply sm_congr
    intro p hp
    have := h.1 p (by omega)
    rw [sm_one (k := (f p).toNat) N (by omega) (fun i hi hne => if_neg (Ne.symm hne)), if_pos rfl]
  have e2 : sm F N = sm (fun b => sm (fun p => if (f p).toNat = b then F b else 0) N) N := by
    apply sm_congr
    intro b hb
    obtain ⟨p, hp, e⟩ := h.has (t := (b : Int)) (by omega) (by omega)
    rw [sm_one (k := p) N hp (fun i hi hne => if_neg (fun q => hne (h.2 i p (by omega) (by omega) (by
      have := h.1 i (by omega)
      omega)))), if_pos (by omega)]
  rw [e1, e2, sm_swap]
/-! which cells are kept by what only looks -/
def pS (i : Nat) : Bool := i == 10 || i == 49 || i == 177 || i == 999
def pA (a : Nat) : Bool := a == 0 || a == 16 || a == 32 || a == 48 || a == 178 || a == 179 || a == 180 || a == 181 || a == 999
def Pe (sc : Nat → Int) (ar : Nat → Nat → Int) (sc2 : Nat → Int) (ar2 : Nat → Nat → Int) : Prop := (∀ i, pS i = true → sc2 i = sc i) ∧ ∀ a, pA a = true → ar2 a = ar a
theorem Pe.rf {sc : Nat → Int} {ar : Nat → Nat → Int} : Pe sc ar sc ar := ⟨fun _ _ => rfl, fun _ _ => rfl⟩
theorem Pe.tr {sc sc2 sc3 : Nat → Int} {ar ar2 ar3 : Nat → Nat → Int} (h : Pe sc ar sc2 ar2) (h2 : Pe sc2 ar2 sc3 ar3) : Pe sc ar sc3 ar3 := ⟨fun i hi => (h2.1 i hi).trans (h.1 i hi), fun a ha => (h2.2 a ha).trans (h.2 a ha)⟩
theorem Pe.s {sc sc2 : Nat → Int} {ar ar2 : Nat → Nat → Int} (h : Pe sc ar sc2 ar2) (i : Nat) (v : Int) (hi : pS i = false := by decide) : Pe sc ar (up sc2 i v) ar2 := ⟨fun j hj => by
    rw [up_ne _ _ (fun e => by rw [e, hi] at hj; cases hj)]
    exact h.1 j hj, h.2⟩
theorem Pe.a {sc sc2 : Nat → Int} {ar ar2 : Nat → Nat → Int} (h : Pe sc ar sc2 ar2) (a : Nat) (f : Nat → Int) (ha : pA a = false := by decide) : Pe sc ar sc2 (up ar2 a f) := ⟨h.1, fun j hj => by
    rw [up_ne _ _ (fun e => by rw [e, ha] at hj; cases hj)]
    exact h.2 j hj⟩
/-- the class's state, the reference's -/
def IX (N : Nat) (tm nd ch od : Nat → Int) (sc : Nat → Int) (ar : Nat → Nat → Int) : Prop := sc 10 = (N : Int) ∧ sc 49 = (N : Int) ∧ ar 0 = tm ∧ ar 16 = nd ∧ ar 32 = ch ∧ ar 48 = od
def IM (N : Nat) (tm nd ch od : Nat → Int) (sc : Nat → Int) (ar : Nat → Nat → Int) : Prop := sc 177 = (N : Int) ∧ ar 178 = tm ∧ ar 179 = nd ∧ ar 180 = ch ∧ ar 181 = od
theorem IX.pe {N : Nat} {tm nd ch od : Nat → Int} {sc sc2 : Nat → Int} {ar ar2 : Nat → Nat → Int} (h : IX N tm nd ch od sc ar) (p : Pe sc ar sc2 ar2) : IX N tm nd ch od sc2 ar2 :=
  ⟨(p.1 10 rfl).trans h.1, (p.1 49 rfl).trans h.2.1, (p.2 0 rfl).trans h.2.2.1, (p.2 16 rfl).trans h.2.2.2.1, (p.2 32 rfl).trans h.2.2.2.2.1, (p.2 48 rfl).trans h.2.2.2.2.2⟩
theorem IM.pe {N : Nat} {tm nd ch od : Nat → Int} {sc sc2 : Nat → Int} {ar ar2 : Nat → Nat → Int} (h : IM N tm nd ch od sc ar) (p : Pe sc ar sc2 ar2) : IM N tm nd ch od sc2 ar2 :=
  ⟨(p.1 177 rfl).trans h.1, (p.2 178 rfl).trans h.2.1, (p.2 179 rfl).trans h.2.2.1, (p.2 180 rfl).trans h.2.2.2.1, (p.2 181 rfl).trans h.2.2.2.2⟩
/-- what a state's numbers are -/
def VV (N : Nat) (tm nd ch od : Nat → Int) : Prop := N ≤ 8 ∧ (∀ i : Nat, i < 8 → 0 ≤ tm i ∧ tm i ≤ 20) ∧ (∀ i : Nat, i < 8 → N ≤ i → tm i = 0) ∧ R9 nd ∧ (∀ a b : Nat, a < 8 → b < 8 → (N ≤ a ∨ N ≤ b ∨ a = b) → nd (8 * a + b) = 0) ∧ (∀ i : Nat, i < 64 → 0 ≤ ch i ∧ ch i ≤ 8) ∧ (∀ a : Nat, a < 8 → sm (fun x => ch (8 * a + x)) 8 ≤ 8) ∧ OD (N : Int) od

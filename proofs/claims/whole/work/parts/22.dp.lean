/-! THE LEAST ORDER over sets of tasks: the numbers -/
def G (nd : Nat → Int) (N t s : Nat) : Int := sm (fun b => if s.testBit b = true then 0 else nd (8 * t + b)) N
def mnA (P : Nat → Bool) (F : Nat → Int) : Nat → Int
  | 0 => 1000000
  | i + 1 => if P i = true then (if F i < mnA P F i then F i else mnA P F i) else mnA P F i
def nin (s t : Nat) : Bool := !s.testBit t
def dpF (nd : Nat → Int) (N : Nat) (f : Nat → Int) (s t : Nat) : Int := f (s ||| 2 ^ t) + G nd N t s
def dpV (nd : Nat → Int) (N : Nat) (f : Nat → Int) (s : Nat) : Int := if s = 2 ^ N - 1 then 0 else mnA (nin s) (dpF nd N f s) N
def dp (nd : Nat → Int) (N : Nat) (f0 : Nat → Int) : Nat → Nat → Int
  | 0 => f0
  | j + 1 => up (dp nd N f0 j) (2 ^ N - 1 - j) (dpV nd N (dp nd N f0 j) (2 ^ N - 1 - j))
theorem R9.at {nd : Nat → Int} (h : R9 nd) {a b : Nat} (ha : a < 8) (hb : b < 8) : 0 ≤ nd (8 * a + b) ∧ nd (8 * a + b) ≤ 9 := h _ (by omega)
theorem G_bd {nd : Nat → Int} (h : R9 nd) {N t : Nat} (hN : N ≤ 8) (ht : t < 8) (s : Nat) : 0 ≤ G nd N t s ∧ G nd N t s ≤ 72 := by
  have := sm_bd (f := fun b => if s.testBit b = true then 0 else nd (8 * t + b)) (b := 9) N (fun i hi => by
    have := h.at ht (show i < 8 by omega)
    try dsimp only
    split <;> omega)
  unfold G
  omega
theorem mnA_le {P : Nat → Bool} {F : Nat → Int} : ∀ (n i : Nat), i < n → P i = true → mnA P F n ≤ F i
  | 0, i, h, _ => by omega
  | n + 1, i, h, hp => by
    simp only [mnA]
    by_cases e : i = n
    · subst e
      rw [if_pos hp]
      split <;> omega
    · have := mnA_le (P := P) (F := F) n i (by omega) hp
      split
      · split <;> omega
      · exact this
theorem mnA_ge {P : Nat → Bool} {F : Nat → Int} {b : Int} (hb : b ≤ 1000000) : ∀ (n : Nat), (∀ i, i < n → P i = true → b ≤ F i) → b ≤ mnA P F n
  | 0, _ => hb
  | n + 1, h => by
    have ih := mnA_ge hb n (fun i hi => h i (by omega))
    simp only [mnA]
    split
    next hp =>
      have := h n (by omega) hp
      split <;> omega
    next => exact ih
theorem mnA_at {P : Nat → Bool} {F : Nat → Int} : ∀ (n : Nat), (∃ i, i < n ∧ P i = true ∧ F i < 1000000) → ∃ i, i < n ∧ P i = true ∧ mnA P F n = F i
  | 0, h => by obtain ⟨i, hi, _⟩ := h; omega
  | n + 1, h => by
    simp only [mnA]
    by_cases hp : P n = true
    · rw [if_pos hp]
      by_cases hlt : F n < mnA P F n
      · rw [if_pos hlt]
        exact ⟨n, by omega, hp, rfl⟩
      · rw [if_neg hlt]
        by_cases hx : ∃ i, i < n ∧ P i = true ∧ F i < 1000000
        · obtain ⟨i, h1, h2, h3⟩ := mnA_at n hx
          exact ⟨i, by omega, h2, h3⟩
        · obtain ⟨i, h1, h2, h3⟩ := h
          have hi : i = n := by
            by_cases e : i = n
            · exact e
            · exact absurd ⟨i, by omega, h2, h3⟩ hx
          subst hi
          have : mnA P F i = 1000000 := by
            have hge := mnA_ge (P := P) (F := F) (Int.le_refl 1000000) i (fun k hk hpk => by
              rcases Int.lt_or_le (F k) 1000000 with q | q
              · exact absurd ⟨k, hk, hpk, q⟩ hx
              · exact q)
            omega
          omega
    · rw [if_neg hp]
      obtain ⟨i, h1, h2, h3⟩ := h
      have : i ≠ n := fun e => by subst e; exact hp h2
      obtain ⟨i, h1, h2, h3⟩ := mnA_at n ⟨i, by omega, h2, h3⟩
      exact ⟨i, by omega, h2, h3⟩
theorem mnA_congr {P : Nat → Bool} {F F2 : Nat → Int} : ∀ (n : Nat), (∀ i, i < n → P i = true → F i = F2 i) → mnA P F n = mnA P F2 n
  | 0, _ => rfl
  | n + 1, h => by
    have ih := mnA_congr n (fun i hi => h i (by omega))
    simp only [mnA]
    by_cases hp : P n = true
    · rw [if_pos hp, if_pos hp, ih, h n (by omega) hp]
    · rw [if_neg hp, if_neg hp, ih]
theorem nin_iff {s t : Nat} : nin s t = true ↔ s.testBit t = false := by
  unfold nin
  cases s.testBit t <;> simp
theorem dpV_congr {nd : Nat → Int} {N : Nat} (hN : N ≤ 8) {f g : Nat → Int} {s : Nat} (hs : s < 256) (h : ∀ u, s < u → f u = g u) : dpV nd N f s = dpV nd N g s := by
  unfold dpV
  split
  · rfl
  · exact mnA_congr N (fun t ht hp => by
      unfold dpF
      rw [h _ (bt_gt s hs t (by omega) (nin_iff.mp hp))])
theorem dp_bd {nd : Nat → Int} (hR : R9 nd) {N : Nat} (hN : N ≤ 8) {f0 : Nat → Int} : ∀ (j : Nat), j ≤ 2 ^ N → ∀ s, s < 2 ^ N → 2 ^ N - 1 < s + j → 0 ≤ dp nd N f0 j s ∧ dp nd N f0 j s ≤ 72 * (2 ^ N - 1 - s : Nat) := by
  have h2 := bt_2 N (by omega)
  intro j
  induction j with
  | zero => intro hj s hs h; omega
  | succ j ih =>
    intro hj s hs h
    have ih := ih (by omega)
    simp only [dp]
    by_cases e : s = 2 ^ N - 1 - j
    · rw [← e, up_eq]
      unfold dpV
      split
      next e2 => omega
      next e2 =>
        have hs256 : s < 256 := by omega
        obtain ⟨t, ht, hb⟩ := bt_all N (by omega) s hs256 (by omega)
        have hgt := bt_gt s hs256 t (by omega) hb
        have hin := bt_in N (by omega) s hs256 hs t ht
        have hle := mnA_le (P := nin s) (F := dpF nd N (dp nd N f0 j) s) N t ht (nin_iff.mpr hb)
        have hv := ih (s ||| 2 ^ t) hin (by omega)
        have hG := G_bd hR hN (show t < 8 by omega) s
        have hge := mnA_ge (P := nin s) (F := dpF nd N (dp nd N f0 j) s) (b := 0) (by omega) N (fun i hi hp => by
          have hb2 := nin_iff.mp hp
          have hgt2 := bt_gt s hs256 i (by omega) hb2
          have hin2 := bt_in N (by omega) s hs256 hs i hi
          have hv2 := ih (s ||| 2 ^ i) hin2 (by omega)
          have hG2 := G_bd hR hN (show i < 8 by omega) s
          unfold dpF
          omega)
        refine ⟨hge, Int.le_trans hle ?_⟩
        unfold dpF
        omega
    · rw [up_ne _ _ e]
      exact ih s hs (by omega)
theorem dp_base {nd : Nat → Int} {N : Nat} (hN : N ≤ 8) {f0 g0 : Nat → Int} : ∀ (j : Nat), j ≤ 2 ^ N → ∀ s, 2 ^ N - 1 < s + j → s < 2 ^ N → dp nd N f0 j s = dp nd N g0 j s := by
  have h2 := bt_2 N (by omega)
  intro j
  induction j with
  | zero => intro hj s h hs; omega
  | succ j ih =>
    intro hj s h hs
    have ih := ih (by omega)
    simp only [dp]
    by_cases e : s = 2 ^ N - 1 - j
    · rw [← e, up_eq, up_eq]
      unfold dpV
      split
      · rfl
      · exact mnA_congr N (fun t ht hp => by
          unfold dpF
          have hb := nin_iff.mp hp
          rw [ih _ (by have := bt_gt s (by omega) t (by omega) hb; omega) (bt_in N (by omega) s (by omega) hs t ht)])
    · rw [up_ne _ _ e, up_ne _ _ e]
      exact ih s (by omega) hs
theorem dp_rec {nd : Nat → Int} {N : Nat} (hN : N ≤ 8) {f0 : Nat → Int} : ∀ (j : Nat), j ≤ 2 ^ N → ∀ s, 2 ^ N - 1 < s + j → s < 2 ^ N → dp nd N f0 j s = dpV nd N (dp nd N f0 j) s := by
  have h2 := bt_2 N (by omega)
  intro j
  induction j with
  | zero => intro hj s h hs; omega
  | succ j ih =>
    intro hj s h hs
    have ih := ih (by omega)
    have same : ∀ u, 2 ^ N - 1 - j < u → dp nd N f0 (j + 1) u = dp nd N f0 j u := fun u hu => by
      simp only [dp]
      exact up_ne _ _ (by omega)
    by_cases e : s = 2 ^ N - 1 - j
    · have e1 : dp nd N f0 (j + 1) s = dpV nd N (dp nd N f0 j) s := by
        simp only [dp]
        rw [← e, up_eq]
      rw [e1]
      exact dpV_congr hN (by omega) (fun u hu => (same u (by omega)).symm)
    · rw [same s (by omega), ih s (by omega) hs]
      exact dpV_congr hN (by omega) (fun u hu => (same u (by omega)).symm)
/-- the least guess behind a set -/
def LV (nd : Nat → Int) (N s : Nat) : Int := dp nd N (fun _ => 0) (2 ^ N) s
theorem LV_of {nd : Nat → Int} {N : Nat} (hN : N ≤ 8) (f0 : Nat → Int) {s : Nat} (hs : s < 2 ^ N) : dp nd N f0 (2 ^ N) s = LV nd N s := by
  have := bt_2 N (by omega)
  exact dp_base hN _ (Nat.le_refl _) s (by omega) hs
theorem LV_bd {nd : Nat → Int} (hR : R9 nd) {N s : Nat} (hN : N ≤ 8) (hs : s < 2 ^ N) : 0 ≤ LV nd N s ∧ LV nd N s ≤ 18360 := by
  have := bt_2 N (by omega)
  have := dp_bd hR hN (f0 := fun _ => 0) (2 ^ N) (Nat.le_refl _) s hs (by omega)
  unfold LV
  omega
def lF (nd : Nat → Int) (N s t : Nat) : Int := LV nd N (s ||| 2 ^ t) + G nd N t s
theorem LV_rec {nd : Nat → Int} {N : Nat} (hN : N ≤ 8) {s : Nat} (hs : s < 2 ^ N - 1) : LV nd N s = mnA (nin s) (lF nd N s) N := by
  have h2 := bt_2 N (by omega)
  have := dp_rec hN (nd := nd) (f0 := fun _ => 0) (2 ^ N) (Nat.le_refl _) s (by omega) (by omega)
  unfold LV
  rw [this]
  unfold dpV
  rw [if_neg (by omega)]
  rfl
theorem LV_ex {nd : Nat → Int} (hR : R9 nd) {N : Nat} (hN : N ≤ 8) {s : Nat} (hs : s < 2 ^ N - 1) : ∃ t, t < N ∧ s.testBit t = false ∧ lF nd N s t = LV nd N s := by
  have h2 := bt_2 N (by omega)
  obtain ⟨t, ht, hb⟩ := bt_all N (by omega) s (by omega) hs
  have hin := bt_in N (by omega) s (by omega) (by omega) t ht
  obtain ⟨i, h1, h3, h4⟩ := mnA_at (P := nin s) (F := lF nd N s) N ⟨t, ht, nin_iff.mpr hb, by
    have := LV_bd hR hN hin
    have := G_bd hR hN (show t < 8 by omega) s
    unfold lF
    omega⟩
  exact ⟨i, h1, nin_iff.mp h3, by rw [LV_rec hN hs, h4]⟩
/-- the first of i, i + 1, .. (j of them); 0 if there is none -/
def ff (P : Nat → Bool) : Nat → Nat → Nat
  | 0, _ => 0
  | j + 1, i => if P i = true then i else ff P j (i + 1)
theorem ff_ok {P : Nat → Bool} : ∀ (j i : Nat), (∃ t, i ≤ t ∧ t < i + j ∧ P t = true) → P (ff P j i) = true ∧ i ≤ ff P j i ∧ ff P j i < i + j
  | 0, i, h => by obtain ⟨t, h1, h2, _⟩ := h; omega
  | j + 1, i, h => by
    simp only [ff]
    by_cases hp : P i = true
    · rw [if_pos hp]
      exact ⟨hp, by omega, by omega⟩
    · rw [if_neg hp]
      obtain ⟨t, h1, h2, h3⟩ := h
      have : t ≠ i := fun e => by subst e; exact hp h3
      have := ff_ok j (i + 1) ⟨t, by omega, by omega, h3⟩
      exact ⟨this.1, by omega, by omega⟩
/-- the same, sought from the end -/
def lw (P : Nat → Bool) (N : Nat) : Nat → Int
  | 0 => -9
  | j + 1 => if P (N - 1 - j) = true then ((N - 1 - j : Nat) : Int) else lw P N j
theorem lw_ff {P : Nat → Bool} {N : Nat} : ∀ (j i : Nat), i + j = N → (∃ t, i ≤ t ∧ t < N ∧ P t = true) → lw P N j = (ff P j i : Int)
  | 0, i, h, e => by obtain ⟨t, h1, h2, _⟩ := e; omega
  | j + 1, i, h, e => by
    simp only [lw, ff]
    have hi : N - 1 - j = i := by omega
    rw [hi]
    by_cases hp : P i = true
    · rw [if_pos hp, if_pos hp]
    · rw [if_neg hp, if_neg hp]
      obtain ⟨t, h1, h2, h3⟩ := e
      have : t ≠ i := fun e => by subst e; exact hp h3
      exact lw_ff j (i + 1) (by omega) ⟨t, by omega, h2, h3⟩
def tqP (nd : Nat → Int) (N s t : Nat) : Bool := nin s t && decide (lF nd N s t = LV nd N s)
def tq (nd : Nat → Int) (N s : Nat) : Nat := ff (tqP nd N s) N 0
theorem tqP_iff {nd : Nat → Int} {N s t : Nat} : tqP nd N s t = true ↔ s.testBit t = false ∧ lF nd N s t = LV nd N s := by
  unfold tqP
  rw [Bool.and_eq_true, nin_iff, decide_eq_true_eq]
theorem tq_ex {nd : Nat → Int} (hR : R9 nd) {N : Nat} (hN : N ≤ 8) {s : Nat} (hs : s < 2 ^ N - 1) : ∃ t, 0 ≤ t ∧ t < N ∧ tqP nd N s t = true := by
  obtain ⟨t, h1, h2, h3⟩ := LV_ex hR hN hs
  exact ⟨t, by omega, h1, tqP_iff.mpr ⟨h2, h3⟩⟩
theorem tq_ok {nd : Nat → Int} (hR : R9 nd) {N : Nat} (hN : N ≤ 8) {s : Nat} (hs : s < 2 ^ N - 1) : tq nd N s < N ∧ s.testBit (tq nd N s) = false := by
  obtain ⟨t, h1, h2, h3⟩ := tq_ex hR hN hs
  have := ff_ok (P := tqP nd N s) N 0 ⟨t, h1, by omega, h3⟩
  have h4 := tqP_iff.mp this.1
  exact ⟨by unfold tq; omega, h4.1⟩
def setR (nd : Nat → Int) (N : Nat) : Nat → Nat
  | 0 => 0
  | p + 1 => setR nd N p ||| 2 ^ tq nd N (setR nd N p)
def LO (nd : Nat → Int) (N : Nat) (p : Nat) : Int := (tq nd N (setR nd N p) : Int)
def cnt (s : Nat) : Nat := (List.range 8).countP (fun t => s.testBit t)
theorem bt_cnt : ∀ s : Nat, s < 256 → ∀ t : Nat, t < 8 → s.testBit t = false → cnt (s ||| 2 ^ t) = cnt s + 1 := by decide +kernel
theorem bt_cntall : ∀ n : Nat, n < 9 → cnt (2 ^ n - 1) = n := by decide +kernel
theorem setR_ok {nd : Nat → Int} (hR : R9 nd) {N : Nat} (hN : N ≤ 8) : ∀ p, p ≤ N → setR nd N p < 2 ^ N ∧ cnt (setR nd N p) = p ∧ (p < N → setR nd N p < 2 ^ N - 1) ∧ ∀ t, (setR nd N p).testBit t = true ↔ ∃ q, q < p ∧ tq nd N (setR nd N q) = t := by
  have h2 := bt_2 N (by omega)
  have fin : ∀ s p, s < 2 ^ N → cnt s = p → p < N → s < 2 ^ N - 1 := by
    intro s p h1 h3 h4
    rcases Nat.lt_or_ge s (2 ^ N - 1) with q | q
    · exact q
    · have : s = 2 ^ N - 1 := by omega
      rw [this, bt_cntall N (by omega)] at h3
      omega
  intro p
  induction p with
  | zero =>
    intro _
    have c0 : cnt 0 = 0 := by decide +kernel
    exact ⟨by simp only [setR]; omega, c0, fin 0 0 (by omega) c0, fun t => by simp [setR]⟩
  | succ p ih =>
    intro hp
    obtain ⟨a, b, c, e⟩ := ih (by omega)
    have hlt := c (by omega)
    obtain ⟨h3, h4⟩ := tq_ok hR hN hlt
    have h5 : setR nd N (p + 1) < 2 ^ N := bt_in N (by omega) _ (by omega) a _ h3
    have h6 : cnt (setR nd N (p + 1)) = p + 1 := by
      simp only [setR]
      rw [bt_cnt _ (by omega) _ (by omega) h4, b]
    refine ⟨h5, h6, fin _ _ h5 h6, fun t => ?_⟩
    simp only [setR]
    rw [bt_or_test, Bool.or_eq_true, e t, decide_eq_true_eq]
    constructor
    · rintro (⟨q, hq, hh⟩ | hh)
      · exact ⟨q, by omega, hh⟩
      · exact ⟨p, by omega, hh⟩
    · rintro ⟨q, hq, hh⟩
      by_cases e : q = p
      · subst e
        exact Or.inr hh
      · exact Or.inl ⟨q, by omega, hh⟩
theorem LO_od {nd : Nat → Int} (hR : R9 nd) {N : Nat} (hN : N ≤ 8) : OD (N : Int) (LO nd N) := by
  have tk : ∀ p, p < N → tq nd N (setR nd N p) < N ∧ (setR nd N p).testBit (tq nd N (setR nd N p)) = false := fun p hp => tq_ok hR hN ((setR_ok hR hN p (by omega)).2.2.1 hp)
  have lt : ∀ q p, q < p → p < N → tq nd N (setR nd N q) ≠ tq nd N (setR nd N p) := by
    intro q p hq hp e
    have h1 := ((setR_ok hR hN p (by omega)).2.2.2 (tq nd N (setR nd N p))).mpr ⟨q, hq, e⟩
    rw [(tk p hp).2] at h1
    cases h1
  refine ⟨fun i hi => ?_, fun i j hi hj e => ?_⟩
  · have := (tk i (by omega)).1
    unfold LO
    omega
  · unfold LO at e
    rcases Nat.lt_trichotomy i j with q | q | q
    · exact absurd (by omega) (lt i j q (by omega))
    · exact q
    · exact absurd (by omega) (lt j i q (by omega))
theorem OD.congr {n : Int} {f g : Nat → Int} (h : OD n f) (e : ∀ i : Nat, (i : Int) < n → g i = f i) : OD n g := by
  refine ⟨fun i hi => ?_, fun i j hi hj q => ?_⟩
  · rw [e i hi]
    exact h.1 i hi
  · rw [e i hi, e j hj] at q
    exact h.2 i j hi hj q
/-! the guess of an order, in both ways -/
def ndo (nd od : Nat → Int) (p q : Nat) : Int := nd (8 * (od p).toNat + (od q).toNat)
def rowG (nd od : Nat → Int) (p q : Nat) : Int := if p < q then ndo nd od p q else 0
def GS (nd od : Nat → Int) (N : Nat) : Int := sm (fun p => sm (rowG nd od p) N) N
def setO (od : Nat → Int) : Nat → Nat
  | 0 => 0
  | p + 1 => setO od p ||| 2 ^ (od p).toNat
theorem setO_ok {N : Nat} (hN : N ≤ 8) {od : Nat → Int} (h : OD (N : Int) od) : ∀ p, p ≤ N → setO od p < 256 ∧ ∀ t, (setO od p).testBit t = true ↔ ∃ q, q < p ∧ (od q).toNat = t := by
  intro p
  induction p with
  | zero => intro _; exact ⟨by simp [setO], fun t => by simp [setO]⟩
  | succ p ih =>
    intro hp
    obtain ⟨a, e⟩ := ih (by omega)
    have hb := h.1 p (by omega)
    refine ⟨bt_lt _ a _ (by omega), fun t => ?_⟩
    simp only [setO]
    rw [bt_or_test, Bool.or_eq_true, e t, decide_eq_true_eq]
    constructor
    · rintro (⟨q, hq, hh⟩ | hh)
      · exact ⟨q, by omega, hh⟩
      · exact ⟨p, by omega, hh⟩
    · rintro ⟨q, hq, hh⟩
      by_cases e : q = p
      · subst e
        exact Or.inr hh
      · exact Or.inl ⟨q, by omega, hh⟩
theorem GS_eq {N : Nat} {tm nd ch od : Nat → Int} (hV : VV N tm nd ch od) : sm (fun p => G nd N (od p).toNat (setO od p)) N = GS nd od N := by
  obtain ⟨hN, -, -, hR, hz, -, -, ho⟩ := hV
  apply sm_congr
  intro p hp
  unfold G
  rw [sm_perm ho]
  apply sm_congr
  intro q hq
  have hp1 := ho.1 p (by omega)
  have hq1 := ho.1 q (by omega)
  have hs := (setO_ok hN ho p (by omega)).2 (od q).toNat
  show (if (setO od p).testBit (od q).toNat = true then 0 else nd (8 * (od p).toNat + (od q).toNat)) = rowG nd od p q
  unfold rowG ndo
  by_cases e : (setO od p).testBit (od q).toNat = true
  · rw [if_pos e]
    obtain ⟨r, hr, hh⟩ := hs.mp e
    have hr1 := ho.1 r (by omega)
    have : r = q := ho.2 r q (by omega) (by omega) (by omega)
    rw [if_neg (by omega)]
  · rw [if_neg e]
    by_cases e2 : p < q
    · rw [if_pos e2]
    · rw [if_neg e2]
      have : q = p := by
        rcases Nat.lt_or_ge q p with w | w
        · exact absurd (hs.mpr ⟨q, w, rfl⟩) e
        · omega
      subst this
      exact hz _ _ (by omega) (by omega) (Or.inr (Or.inr rfl))

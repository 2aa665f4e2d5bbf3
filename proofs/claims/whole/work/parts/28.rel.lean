/-! LEANING: the closure in steps, blocks and their numbers -/
def W0 (nd : Nat → Int) (a b : Nat) : Bool := decide (0 < nd (8 * a + b))
def WS (L : Nat → Nat → Bool) (m a b : Nat) : Bool := L a b || (L a m && L m b)
def WL (nd : Nat → Int) : Nat → Nat → Nat → Bool
  | 0 => W0 nd
  | m + 1 => WS (WL nd m) m
theorem WS_iff {L : Nat → Nat → Bool} {m a b : Nat} : WS L m a b = true ↔ L a b = true ∨ (L a m = true ∧ L m b = true) := by
  unfold WS
  rw [Bool.or_eq_true, Bool.and_eq_true]
theorem WS_col {L : Nat → Nat → Bool} {m a : Nat} : WS L m a m = L a m := by
  unfold WS
  cases L a m <;> simp
theorem WS_row {L : Nat → Nat → Bool} {m b : Nat} : WS L m m b = L m b := by
  unfold WS
  cases L m b <;> simp
section REL
variable {N : Nat} {nd : Nat → Int}
theorem WL_up {m a b : Nat} (h : WL nd m a b = true) : WL nd (m + 1) a b = true := WS_iff.mpr (Or.inl h)
theorem WL_le {m k a b : Nat} (hk : m ≤ k) (h : WL nd m a b = true) : WL nd k a b = true := by
  induction hk with
  | refl => exact h
  | step _ ih => exact WL_up ih
theorem WL_tr : ∀ (m x a b : Nat), x < m → WL nd m a x = true → WL nd m x b = true → WL nd m a b = true
  | 0, x, a, b, h, _, _ => by omega
  | m + 1, x, a, b, h, h1, h2 => by
    have ih := fun x a b => WL_tr m x a b
    refine WS_iff.mpr ?_
    by_cases e : x = m
    · subst e
      have e1 : WL nd x a x = true := by
        have : WS (WL nd x) x a x = true := h1
        rw [WS_col] at this
        exact this
      have e2 : WL nd x x b = true := by
        have : WS (WL nd x) x x b = true := h2
        rw [WS_row] at this
        exact this
      exact Or.inr ⟨e1, e2⟩
    · rcases WS_iff.mp h1 with a1 | ⟨a1, a2⟩ <;> rcases WS_iff.mp h2 with b1 | ⟨b1, b2⟩
      · exact Or.inl (ih x a b (by omega) a1 b1)
      · exact Or.inr ⟨ih x a m (by omega) a1 b1, b2⟩
      · exact Or.inr ⟨a1, ih x m b (by omega) a2 b1⟩
      · exact Or.inr ⟨a1, b2⟩
theorem WL_out (hz : ∀ a b : Nat, a < 8 → b < 8 → (N ≤ a ∨ N ≤ b ∨ a = b) → nd (8 * a + b) = 0) : ∀ (m a b : Nat), m ≤ 8 → a < 8 → b < 8 → (N ≤ a ∨ N ≤ b) → WL nd m a b = false
  | 0, a, b, _, ha, hb, h => by
    show W0 nd a b = false
    unfold W0
    rw [hz a b ha hb (by omega)]
    rfl
  | m + 1, a, b, hm, ha, hb, h => by
    show WS (WL nd m) m a b = false
    unfold WS
    rw [WL_out hz m a b (by omega) ha hb h]
    rcases h with h | h
    · rw [WL_out hz m a m (by omega) ha (by omega) (Or.inl h)]; rfl
    · rw [WL_out hz m m b (by omega) (by omega) hb (Or.inr h)]; simp
theorem WL_stop (hz : ∀ a b : Nat, a < 8 → b < 8 → (N ≤ a ∨ N ≤ b ∨ a = b) → nd (8 * a + b) = 0) : ∀ (m : Nat), N ≤ m → m ≤ 8 → ∀ a b, a < 8 → b < 8 → WL nd m a b = WL nd N a b := by
  intro m hm
  induction hm with
  | refl => intro _ a b _ _; rfl
  | step hm ih =>
    intro h8 a b ha hb
    rename_i k
    show WS (WL nd k) k a b = _
    unfold WS
    rw [WL_out hz k a k (by omega) ha (by omega) (Or.inr hm), ih (by omega) a b ha hb]
    simp
/-- the closure -/
def LL (nd : Nat → Int) (N a b : Nat) : Bool := WL nd N a b
def SB (nd : Nat → Int) (N a b : Nat) : Bool := decide (a = b) || (LL nd N a b && LL nd N b a)
theorem SB_iff {a b : Nat} : SB nd N a b = true ↔ a = b ∨ (LL nd N a b = true ∧ LL nd N b a = true) := by
  unfold SB
  rw [Bool.or_eq_true, Bool.and_eq_true, decide_eq_true_eq]
theorem LL_tr {x a b : Nat} (hx : x < N) (h1 : LL nd N a x = true) (h2 : LL nd N x b = true) : LL nd N a b = true := WL_tr N x a b hx h1 h2
theorem LL_nd {a b : Nat} (h : 0 < nd (8 * a + b)) : LL nd N a b = true := WL_le (Nat.zero_le N) (show W0 nd a b = true by unfold W0; simpa using h)
theorem SB_sy {a b : Nat} (h : SB nd N a b = true) : SB nd N b a = true := by
  rcases SB_iff.mp h with e | ⟨h1, h2⟩
  · exact SB_iff.mpr (Or.inl e.symm)
  · exact SB_iff.mpr (Or.inr ⟨h2, h1⟩)
theorem SB_tr {a b c : Nat} (hb : b < N) (h : SB nd N a b = true) (k : SB nd N b c = true) : SB nd N a c = true := by
  rcases SB_iff.mp h with e | ⟨h1, h2⟩
  · rw [e]; exact k
  · rcases SB_iff.mp k with e | ⟨k1, k2⟩
    · rw [← e]; exact h
    · exact SB_iff.mpr (Or.inr ⟨LL_tr hb h1 k1, LL_tr hb k2 h2⟩)
theorem LL_SB {a b c : Nat} (hb : b < N) (h : SB nd N a b = true) (k : LL nd N b c = true) : LL nd N a c = true := by
  rcases SB_iff.mp h with e | ⟨h1, _⟩
  · rw [e]; exact k
  · exact LL_tr hb h1 k
/-- out of a set of tasks there is a need, where something outside is leaned on -/
theorem WL_exit {B : Nat → Prop} : ∀ (m a u : Nat), m ≤ N → a < N → u < N → WL nd m a u = true → B a → ¬ B u → ∃ x y, x < N ∧ y < N ∧ B x ∧ ¬ B y ∧ 0 < nd (8 * x + y) ∧ (y = u ∨ LL nd N y u = true)
  | 0, a, u, _, ha, hu, h, hB, hBu => by
    have h : W0 nd a u = true := h
    unfold W0 at h
    exact ⟨a, u, ha, hu, hB, hBu, by simpa using h, Or.inl rfl⟩
  | m + 1, a, u, hm, ha, hu, h, hB, hBu => by
    rcases WS_iff.mp h with h | ⟨h1, h2⟩
    · exact WL_exit m a u (by omega) ha hu h hB hBu
    · rcases Classical.em (B m) with hb | hb
      · exact WL_exit m m u (by omega) (by omega) hu h2 hb hBu
      · obtain ⟨x, y, e1, e2, e3, e4, e5, e6⟩ := WL_exit m a m (by omega) ha (by omega) h1 hB hb
        have hmu : LL nd N m u = true := WL_le (by omega) h2
        refine ⟨x, y, e1, e2, e3, e4, e5, Or.inr ?_⟩
        rcases e6 with e6 | e6
        · rw [e6]; exact hmu
        · exact LL_tr (by omega) e6 hmu
/-- left: the tasks not numbered yet; what is numbered leans on nothing left -/
def closed (nd : Nat → Int) (N : Nat) (lf : Nat → Bool) : Prop := ∀ a b, a < N → b < N → lf a = false → LL nd N a b = true → lf b = false
/-- a task whose block leans on none left outside of it -/
def isC (nd : Nat → Int) (N : Nat) (lf : Nat → Bool) (t : Nat) : Prop := ∀ u, u < N → lf u = true → LL nd N t u = true → SB nd N t u = true
theorem isC_iff {lf : Nat → Bool} (hc : closed nd N lf) {t : Nat} (ht : t < N) : isC nd N lf t ↔ ∀ a b, a < N → b < N → SB nd N t a = true → SB nd N t b = false → lf b = true → ¬ 0 < nd (8 * a + b) := by
  constructor
  · intro h a b ha hb hsa hsb hl hn
    have := h b hb hl (LL_SB ha hsa (LL_nd hn))
    rw [hsb] at this
    cases this
  · intro h u hu hl hL
    cases hs : SB nd N t u with
    | true => rfl
    | false =>
      exfalso
      obtain ⟨x, y, e1, e2, e3, e4, e5, e6⟩ := WL_exit (B := fun z => SB nd N t z = true) N t u (Nat.le_refl _) ht hu hL (SB_iff.mpr (Or.inl rfl)) (by rw [hs]; decide)
      have hy : lf y = true := by
        cases hly : lf y with
        | true => rfl
        | false =>
          rcases e6 with e6 | e6
          · rw [e6] at hly
            rw [hl] at hly
            cases hly
          · rw [hc y u e2 hu hly e6] at hl
            cases hl
      exact h x y e1 e2 e3 (by
        cases h4 : SB nd N t y
        · rfl
        · exact absurd h4 e4) hy e5
def cn (P : Nat → Bool) : Nat → Nat
  | 0 => 0
  | n + 1 => cn P n + (if P n = true then 1 else 0)
theorem cn_le {P R : Nat → Bool} : ∀ n, (∀ i, i < n → P i = true → R i = true) → cn P n ≤ cn R n
  | 0, _ => Nat.le_refl _
  | n + 1, h => by
    have := cn_le n (fun i hi => h i (by omega))
    have h2 := h n (by omega)
    simp only [cn]
    cases hp : P n
    · simp only [Bool.false_eq_true, if_false]
      split <;> omega
    · rw [h2 hp]
      omega
theorem cn_lt {P R : Nat → Bool} {k : Nat} : ∀ n, k < n → (∀ i, i < n → P i = true → R i = true) → P k = false → R k = true → cn P n < cn R n
  | 0, h, _, _, _ => by omega
  | n + 1, h, hi, hp, hr => by
    simp only [cn]
    by_cases e : k = n
    · subst e
      have := cn_le (P := P) (R := R) k (fun i hh => hi i (by omega))
      rw [hp, hr]
      simp only [Bool.false_eq_true, if_false, if_true]
      omega
    · have := cn_lt (P := P) (R := R) n (by omega) (fun i hh => hi i (by omega)) hp hr
      have h2 := hi n (by omega)
      cases hpn : P n
      · simp only [Bool.false_eq_true, if_false]
        split <;> omega
      · rw [h2 hpn]
        omega
theorem cn_top {P : Nat → Bool} : ∀ n, cn P n ≤ n
  | 0 => Nat.le_refl _
  | n + 1 => by
    have := cn_top (P := P) n
    simp only [cn]
    split <;> omega
theorem cn_zero {P : Nat → Bool} : ∀ n, cn P n = 0 → ∀ i, i < n → P i = false
  | 0, _, i, h => by omega
  | n + 1, h, i, hi => by
    simp only [cn] at h
    by_cases e : i = n
    · subst e
      cases hp : P i
      · rfl
      · rw [hp] at h
        simp at h
    · exact cn_zero n (by omega) i (by omega)
/-- there is such a task, as long as any is left -/
theorem isC_ex {lf : Nat → Bool} : ∀ (k t : Nat), t < N → lf t = true → cn (fun v => lf v && (decide (v = t) || LL nd N t v)) N ≤ k → ∃ t, t < N ∧ lf t = true ∧ isC nd N lf t
  | k, t, ht, hl, hk => by
    rcases Classical.em (isC nd N lf t) with h | h
    · exact ⟨t, ht, hl, h⟩
    · have : ∃ u, u < N ∧ lf u = true ∧ LL nd N t u = true ∧ SB nd N t u = false := by
        rcases Classical.em (∃ u, u < N ∧ lf u = true ∧ LL nd N t u = true ∧ SB nd N t u = false) with q | q
        · exact q
        · exact absurd (fun u hu hlu hL => by
            cases hs : SB nd N t u
            · exact absurd ⟨u, hu, hlu, hL, hs⟩ q
            · rfl) h
      obtain ⟨u, hu, hlu, hL, hs⟩ := this
      have hn : ¬ (u = t ∨ LL nd N u t = true) := by
        rintro (e | e)
        · subst e
          rw [SB_iff.mpr (Or.inl rfl)] at hs
          cases hs
        · rw [SB_iff.mpr (Or.inr ⟨hL, e⟩)] at hs
          cases hs
      have hlt := cn_lt (P := fun v => lf v && (decide (v = u) || LL nd N u v)) (R := fun v => lf v && (decide (v = t) || LL nd N t v)) (k := t) N ht (fun i hi hp => by
        simp only [Bool.and_eq_true, Bool.or_eq_true, decide_eq_true_eq] at hp ⊢
        refine ⟨hp.1, Or.inr ?_⟩
        rcases hp.2 with e | e
        · rw [e]; exact hL
        · exact LL_tr hu hL e) (by
        rw [hl]
        simp only [Bool.true_and, Bool.or_eq_false_iff, decide_eq_false_iff_not]
        refine ⟨fun e => hn (Or.inl e.symm), ?_⟩
        cases q : LL nd N u t
        · rfl
        · exact absurd (Or.inr q) hn) (by
        rw [hl]
        simp)
      match k, hk with
      | 0, hk => omega
      | k + 1, hk => exact isC_ex k u hu hlu (by omega)
/-- rounds: (left, how many, numbers) -/
noncomputable def cP (nd : Nat → Int) (N : Nat) (lf : Nat → Bool) (t : Nat) : Bool := lf t && @decide (isC nd N lf t) (Classical.propDecidable _)
theorem cP_iff {lf : Nat → Bool} {t : Nat} : cP nd N lf t = true ↔ lf t = true ∧ isC nd N lf t := by
  unfold cP
  rw [Bool.and_eq_true, @decide_eq_true_eq _ (Classical.propDecidable _)]
noncomputable def nx (nd : Nat → Int) (N : Nat) (lf : Nat → Bool) : Nat := ff (cP nd N lf) N 0
noncomputable def bS (nd : Nat → Int) (N : Nat) : Nat → (Nat → Bool) × Nat × (Nat → Int)
  | 0 => (fun t => decide (t < N), 0, fun _ => -9)
  | r + 1 => if cn (bS nd N r).1 N = 0 then bS nd N r else (fun u => (bS nd N r).1 u && !SB nd N (nx nd N (bS nd N r).1) u, (bS nd N r).2.1 + 1, fun u => if SB nd N (nx nd N (bS nd N r).1) u = true then ((bS nd N r).2.1 : Int) else (bS nd N r).2.2 u)
theorem nx_ok {lf : Nat → Bool} (h : cn lf N ≠ 0) : nx nd N lf < N ∧ lf (nx nd N lf) = true ∧ isC nd N lf (nx nd N lf) := by
  have h1 : ∃ t, t < N ∧ lf t = true := by
    rcases Classical.em (∃ t, t < N ∧ lf t = true) with q | q
    · exact q
    · exfalso
      have hz : cn lf N ≤ cn (fun _ => false) N := cn_le N (fun i hi hp => absurd ⟨i, hi, hp⟩ q)
      have hf : ∀ n, cn (fun _ => false) n = 0 := by
        intro n
        induction n with
        | zero => rfl
        | succ n ih => simp only [cn, ih]; rfl
      rw [hf] at hz
      omega
  obtain ⟨t, ht, hl⟩ := h1
  obtain ⟨t, ht, hl, hc⟩ := isC_ex (nd := nd) N t ht hl (cn_top N)
  have := ff_ok (P := cP nd N lf) N 0 ⟨t, by omega, by omega, cP_iff.mpr ⟨hl, hc⟩⟩
  have h3 := cP_iff.mp this.1
  exact ⟨by unfold nx; omega, h3.1, h3.2⟩
theorem bS_ok : ∀ r, closed nd N (bS nd N r).1 ∧ (∀ u, N ≤ u → (bS nd N r).1 u = false) ∧ cn (bS nd N r).1 N + r ≤ N + (if cn (bS nd N r).1 N = 0 then r else 0) ∧ (∀ u, u < N → ((bS nd N r).1 u = true ↔ (bS nd N r).2.2 u = -9)) ∧ (∀ u, u < N → (bS nd N r).1 u = false → 0 ≤ (bS nd N r).2.2 u) ∧ (bS nd N r).2.1 ≤ r
  | 0 => by
    refine ⟨fun a b ha hb h => by simp only [bS, decide_eq_false_iff_not] at h; omega, fun u hu => by simp only [bS, decide_eq_false_iff_not]; omega, ?_, fun u hu => by simp [bS, hu], fun u hu h => by simp only [bS, decide_eq_false_iff_not] at h; omega, Nat.le_refl _⟩
    have := cn_top (P := (bS nd N 0).1) N
    split <;> omega
  | r + 1 => by
    obtain ⟨h1, h2, h3, h4, h5, h6⟩ := bS_ok r
    by_cases e : cn (bS nd N r).1 N = 0
    · have eb : bS nd N (r + 1) = bS nd N r := by
        show (if cn (bS nd N r).1 N = 0 then _ else _) = _
        exact if_pos e
      rw [eb]
      refine ⟨h1, h2, ?_, h4, h5, by omega⟩
      rw [if_pos e]
      omega
    · have eb : bS nd N (r + 1) = (fun u => (bS nd N r).1 u && !SB nd N (nx nd N (bS nd N r).1) u, (bS nd N r).2.1 + 1, fun u => if SB nd N (nx nd N (bS nd N r).1) u = true then ((bS nd N r).2.1 : Int) else (bS nd N r).2.2 u) := by
        show (if cn (bS nd N r).1 N = 0 then _ else _) = _
        exact if_neg e
      rw [eb]
      obtain ⟨n1, n2, n3⟩ := nx_ok (nd := nd) e
      dsimp only
      refine ⟨fun a b ha hb hla hL => ?_, fun u hu => ?_, ?_, fun u hu => ?_, fun u hu hlu => ?_, by omega⟩
      · rw [Bool.and_eq_false_iff] at hla ⊢
        cases hlb : (bS nd N r).1 b
        · exact Or.inl rfl
        · refine Or.inr ?_
          rcases hla with q | q
          · rw [h1 a b ha hb q hL] at hlb
            cases hlb
          · have hs : SB nd N (nx nd N (bS nd N r).1) a = true := by simpa using q
            rw [n3 b hb hlb (LL_SB ha hs hL)]
            rfl
      · rw [h2 u hu]; rfl
      · have hlt := cn_lt (P := fun u => (bS nd N r).1 u && !SB nd N (nx nd N (bS nd N r).1) u) (R := (bS nd N r).1) (k := nx nd N (bS nd N r).1) N n1 (fun i hi hp => (Bool.and_eq_true_iff.mp hp).1) (by rw [SB_iff.mpr (Or.inl rfl)]; simp) n2
        rw [if_neg e] at h3
        split <;> omega
      · cases hs : SB nd N (nx nd N (bS nd N r).1) u
        · simpa using h4 u hu
        · simp only [Bool.not_true, Bool.and_false, if_true, Bool.false_eq_true, false_iff]
          omega
      · cases hs : SB nd N (nx nd N (bS nd N r).1) u
        · rw [hs] at hlu
          simp only [Bool.false_eq_true, if_false]
          exact h5 u hu (by simpa using hlu)
        · simp only [if_true]
          omega
theorem bS_end : cn (bS nd N N).1 N = 0 := by
  obtain ⟨-, -, h3, -⟩ := bS_ok (nd := nd) (N := N) N
  by_cases e : cn (bS nd N N).1 N = 0
  · exact e
  · rw [if_neg e] at h3
    omega
theorem bS_more {r : Nat} (h : cn (bS nd N r).1 N = 0) : ∀ k, r ≤ k → bS nd N k = bS nd N r := by
  intro k hk
  induction hk with
  | refl => rfl
  | step _ ih =>
    simp only [bS]
    rw [ih, if_pos h]
end REL

/-! RINGS: the class -/
def b2 (b : Bool) : Int := if b = true then 1 else 0
theorem b2_in (b : Bool) : inR (b2 b) := by
  unfold b2
  split <;> omega
theorem b2_0 {b : Bool} : b2 b = 0 ↔ b = false := by
  unfold b2
  cases b <;> simp
theorem cn_no {P : Nat → Bool} : ∀ n, (∀ i, i < n → P i = false) → cn P n = 0
  | 0, _ => rfl
  | n + 1, h => by
    have := cn_no n (fun i hi => h i (by omega))
    simp [cn, this, h n (by omega)]
theorem cn_bm {lf : Nat → Bool} {N : Nat} (hN : N ≤ 8) (h : ∀ u, N ≤ u → lf u = false) : cn lf N = 0 ↔ bm lf 8 = 0 := by
  rw [bm_zero]
  constructor
  · intro e i hi
    by_cases h2 : i < N
    · exact cn_zero N e i h2
    · exact h i (by omega)
  · intro e
    exact cn_no N (fun i hi => e i (by omega))
section RINGS
variable {sc : Nat → Int} {ar : Nat → Nat → Int} {Q : Option mV → mH → Prop} {d : Nat} {N : Nat} {nd : Nat → Int}
/-- rows as sets -/
def RW (N : Nat) (f : Nat → Int) (g : Nat → Nat → Bool) : Prop := ∀ a, a < N → f a = ((bm (g a) 8 : Nat) : Int)
theorem ct_isLeaning {a b : Nat} {g : Nat → Nat → Bool} (hN : N ≤ 8) (ha : a < N) (hb : b < 8) (hf : RW N (ar 64) g) (k : Q (some (vI (b2 (g a b)))) (sc, ar)) : Ev (d + 1) M_Rings_isLeaning (0, [some (vO 4), some (vI a), some (vI b)], [], (sc, ar)) Q := by
  refine Ev.deep (Nat.le_add_left 1 d) (sg_Rings_isLeaning_0 ⟨by omega, fun c => by omega, fun _ => ⟨by omega, fun c => by omega, fun _ => ct_valueOf (by decide) (by omega) (by show (a : Int) < 8; omega) (by show (8 : Int) < _; omega) (sg_Rings_isLeaning_18 ?_)⟩⟩)
  rw [Int.toNat_natCast, hf a ha]
  refine ⟨bt_inR (bm_lt 8 (by omega)) hb, fun c => ?_, fun c => ?_⟩
  · have : g a b = false := by
      cases h : g a b
      · rfl
      · exact absurd c ((bm_ne hb).mpr h)
    rw [this] at k
    exact k
  · rw [(bm_ne hb).mp c] at k
    exact k
theorem lp_lean1I {a : Nat} {a0 : Nat → Nat → Int} (hN : N ≤ 8) (hnd : a0 16 = nd) (hR : R9 nd) (hz : ∀ a b : Nat, a < 8 → b < 8 → (N ≤ a ∨ N ≤ b ∨ a = b) → nd (8 * a + b) = 0) (ha : a < N) {f : Nat → Int} (k : Ev 2 M_Rings_lean (2, [some (vO 4), some (vI N), some (vO 1), some (vI ((a : Int) + 1)), none], [], (sc, up a0 64 (up f a (bm (W0 nd a) 8 : Nat)))) Q) :
    ∀ j b : Nat, b + j = N → Ev 2 M_Rings_lean (23, [some (vO 4), some (vI N), some (vO 1), some (vI a), some (vI b)], [], (sc, up a0 64 (up f a (bm (fun x => decide (x < b) && W0 nd a x) 8 : Nat)))) Q := by
  intro j
  induction j with
  | zero =>
    intro b hb
    have : b = N := by omega
    subst this
    refine sg_Rings_lean_23 ⟨by omega, by omega, fun _ => ?_, fun c => by omega⟩
    rw [bm_congr (P := fun x => decide (x < b) && W0 nd a x) (R := W0 nd a) (fun i hi => by
      by_cases h : i < b
      · simp [h]
      · unfold W0
        rw [hz a i (by omega) hi (by omega)]
        simp)]
    exact k
  | succ j ih =>
    intro b hb
    have h1 := ih (b + 1) (by omega)
    have r1 := hR.at (show a < 8 by omega) (show b < 8 by omega)
    refine sg_Rings_lean_23 ⟨by omega, by omega, fun c => by omega, fun _ => ⟨by omega, by omega, ct_getN (by omega) (by omega) (sg_Rings_lean_43 ?_)⟩⟩
    rw [up_ne _ _ (show (16 : Nat) ≠ 64 by decide), hnd]
    rw [show (8 * (a : Int) + (b : Int)).toNat = 8 * a + b by omega]
    simp only [up_eq, up_up, Int.toNat_natCast]
    refine ⟨by omega, fun c => ⟨by omega, by omega, ?_⟩, fun c => ⟨by omega, by omega, ?_⟩⟩
    · rw [show (0 : Int) = ((bm (fun _ => false) 8 : Nat) : Int) by decide, bm_or]
      rw [bm_congr (R := fun x => decide (x < b + 1) && W0 nd a x) (fun i hi => by
        by_cases e : i = b
        · subst e
          have : W0 nd a i = false := by unfold W0; simpa using c
          rw [this]
          simp
        · rw [Bool.or_false, decide_eq_decide.mpr (show i < b ↔ i < b + 1 by omega)])]
      exact h1
    · rw [bm_one (by omega), bm_or]
      rw [bm_congr (R := fun x => decide (x < b + 1) && W0 nd a x) (fun i hi => by
        by_cases e : i = b
        · subst e
          have : W0 nd a i = true := by
            unfold W0
            rw [decide_eq_true_eq]
            omega
          rw [this]
          simp
        · rw [decide_eq_false (show ¬ b = i by omega), Bool.or_false, decide_eq_decide.mpr (show i < b ↔ i < b + 1 by omega)])]
      exact h1
theorem lp_lean1 {a0 : Nat → Nat → Int} (hN : N ≤ 8) (hnd : a0 16 = nd) (hR : R9 nd) (hz : ∀ a b : Nat, a < 8 → b < 8 → (N ≤ a ∨ N ≤ b ∨ a = b) → nd (8 * a + b) = 0) (k : ∀ f, RW N f (W0 nd) → Ev 2 M_Rings_lean (70, [some (vO 4), some (vI N), some (vO 1), some (vI 0), none], [], (sc, up a0 64 f)) Q) :
    ∀ j a : Nat, a + j = N → ∀ f, RW a f (W0 nd) → Ev 2 M_Rings_lean (2, [some (vO 4), some (vI N), some (vO 1), some (vI a), none], [], (sc, up a0 64 f)) Q := by
  intro j
  induction j with
  | zero =>
    intro a ha f hf
    have : a = N := by omega
    subst this
    exact sg_Rings_lean_2 ⟨by omega, by omega, fun _ => k f hf, fun c => by omega⟩
  | succ j ih =>
    intro a ha f hf
    refine sg_Rings_lean_2 ⟨by omega, by omega, fun c => by omega, fun _ => ⟨by omega, fun c => by omega, fun _ => ⟨by omega, by omega, ?_⟩⟩⟩
    simp only [up_eq, up_up, Int.toNat_natCast]
    have := lp_lean1I (sc := sc) (Q := Q) (f := f) hN hnd hR hz (show a < N by omega) (ih (a + 1) (by omega) _ (fun x hx => by
      by_cases e : x = a
      · rw [e, up_eq]
      · rw [up_ne _ _ e]
        exact hf x (by omega))) N 0 (by omega)
    rw [show bm (fun x => decide (x < 0) && W0 nd a x) 8 = 0 by
      rw [bm_zero]
      intro i hi
      simp] at this
    exact this
theorem lp_lean2I {m : Nat} {a0 : Nat → Nat → Int} (hN : N ≤ 8) (hm : m < N) (k : ∀ f, RW N f (WL nd (m + 1)) → Ev 2 M_Rings_lean (70, [some (vO 4), some (vI N), some (vO 1), some (vI ((m : Int) + 1)), none], [], (sc, up a0 64 f)) Q) :
    ∀ j i : Nat, i + j = N → ∀ f, RW N f (fun a => if a < i then WL nd (m + 1) a else WL nd m a) → Ev 2 M_Rings_lean (84, [some (vO 4), some (vI N), some (vO 1), some (vI m), some (vI i)], [], (sc, up a0 64 f)) Q := by
  intro j
  induction j with
  | zero =>
    intro i hi f hf
    have : i = N := by omega
    subst this
    refine sg_Rings_lean_84 ⟨by omega, by omega, fun _ => k f (fun a ha => ?_), fun c => by omega⟩
    have := hf a ha
    dsimp only at this
    rw [if_pos ha] at this
    exact this
  | succ j ih =>
    intro i hi f hf
    have ei : f i = ((bm (WL nd m i) 8 : Nat) : Int) := by
      have := hf i (by omega)
      dsimp only at this
      rw [if_neg (by omega)] at this
      exact this
    have em : f m = ((bm (WL nd m m) 8 : Nat) : Int) := by
      have := hf m (by omega)
      dsimp only at this
      by_cases h : m < i
      · rw [if_pos h] at this
        rw [this]
        congr 1
        refine bm_congr (fun x hx => ?_)
        exact WS_row
      · rw [if_neg h] at this
        exact this
    refine sg_Rings_lean_84 ⟨by omega, by omega, fun c => by omega, fun _ => ⟨by omega, fun c => by omega, fun _ => ⟨by omega, by omega, ct_isLeaning (N := N) (g := fun a => if a < i then WL nd (m + 1) a else WL nd m a) hN (by omega) (by omega) (by rw [up_eq]; exact hf) (sg_Rings_lean_112 ?_)⟩⟩⟩
    rw [if_neg (Nat.lt_irrefl i)]
    simp only [up_eq, up_up, Int.toNat_natCast]
    have go : ∀ v, v = ((bm (WL nd (m + 1) i) 8 : Nat) : Int) → Ev 2 M_Rings_lean (84, [some (vO 4), some (vI N), some (vO 1), some (vI m), some (vI ((i : Int) + 1))], [], (sc, up a0 64 (up f i v))) Q := by
      intro v hv
      refine ih (i + 1) (by omega) _ (fun a ha => ?_)
      by_cases e : a = i
      · subst e
        dsimp only
        rw [up_eq, hv, if_pos (by omega)]
      · rw [up_ne _ _ e, hf a ha]
        dsimp only
        by_cases h : a < i
        · rw [if_pos h, if_pos (by omega)]
        · rw [if_neg h, if_neg (by omega)]
    refine ⟨b2_in _, fun c => ⟨by omega, by omega, go _ ?_⟩, fun c => ⟨by omega, by omega, by omega, by omega, go _ ?_⟩⟩
    · have c := b2_0.mp c
      rw [ei, show (0 : Int) = ((bm (fun _ => false) 8 : Nat) : Int) by decide, bm_or]
      congr 1
      refine bm_congr (fun x hx => ?_)
      show _ = WS (WL nd m) m i x
      unfold WS
      rw [c]
      rfl
    · have c : WL nd m i m = true := by
        cases h : WL nd m i m
        · exact absurd (b2_0.mpr h) c
        · rfl
      rw [ei, em, bm_or]
      congr 1
      refine bm_congr (fun x hx => ?_)
      show _ = WS (WL nd m) m i x
      unfold WS
      rw [c]
      rfl
theorem lp_lean2 {a0 : Nat → Nat → Int} (hN : N ≤ 8) (k : ∀ f, RW N f (LL nd N) → Q none (sc, up a0 64 f)) :
    ∀ j m : Nat, m + j = N → ∀ f, RW N f (WL nd m) → Ev 2 M_Rings_lean (70, [some (vO 4), some (vI N), some (vO 1), some (vI m), none], [], (sc, up a0 64 f)) Q := by
  intro j
  induction j with
  | zero =>
    intro m hm f hf
    have : m = N := by omega
    subst this
    exact sg_Rings_lean_70 ⟨by omega, by omega, fun _ => k f hf, fun c => by omega⟩
  | succ j ih =>
    intro m hm f hf
    refine sg_Rings_lean_70 ⟨by omega, by omega, fun c => by omega, fun _ => ⟨by omega, fun c => by omega, fun _ => lp_lean2I hN (by omega) (ih (m + 1) (by omega)) N 0 (by omega) f (fun a ha => ?_)⟩⟩
    dsimp only
    rw [if_neg (by omega)]
    exact hf a ha
theorem ct_leanC (hN : N ≤ 8) (hnd : ar 16 = nd) (hR : R9 nd) (hz : ∀ a b : Nat, a < 8 → b < 8 → (N ≤ a ∨ N ≤ b ∨ a = b) → nd (8 * a + b) = 0) (k : ∀ f, RW N f (LL nd N) → Q none (sc, up ar 64 f)) : Ev (d + 2) M_Rings_lean (0, [some (vO 4), some (vI N), some (vO 1), none, none], [], (sc, ar)) Q := by
  refine Ev.deep (Nat.le_add_left 2 d) (sg_Rings_lean_0 ?_)
  have := lp_lean1 (sc := sc) (Q := Q) hN hnd hR hz (fun f hf => lp_lean2 hN k N 0 (by omega) f hf) N 0 (by omega) (ar 64) (fun a ha => by omega)
  rw [up_id] at this
  exact this
theorem lp_blockAround {t : Nat} (hN : N ≤ 8) (ht : t < N) (hf : RW N (ar 64) (LL nd N)) (hz : ∀ a b : Nat, a < 8 → b < 8 → (N ≤ a ∨ N ≤ b ∨ a = b) → nd (8 * a + b) = 0) (k : Q (some (vI (bm (SB nd N t) 8 : Nat))) (sc, ar)) :
    ∀ j i : Nat, i + j = N → Ev 2 M_Rings_blockAround (7, [some (vO 4), some (vI t), some (vI N), some (vI (bm (fun x => decide (t = x) || (decide (x < i) && (LL nd N t x && LL nd N x t))) 8 : Nat)), some (vI i)], [], (sc, ar)) Q := by
  intro j
  induction j with
  | zero =>
    intro i hi
    have : i = N := by omega
    subst this
    refine sg_Rings_blockAround_7 ⟨by omega, by omega, fun _ => ?_, fun c => by omega⟩
    rw [bm_congr (R := SB nd i t) (fun x hx => by
      unfold SB
      by_cases h : x < i
      · rw [decide_eq_true h, Bool.true_and]
      · have : LL nd i t x = false := WL_out hz i t x hN (by omega) hx (by omega)
        rw [this]
        simp)]
    exact k
  | succ j ih =>
    intro i hi
    have h1 := ih (i + 1) (by omega)
    have skip : (LL nd N t i && LL nd N i t) = false → Ev 2 M_Rings_blockAround (7, [some (vO 4), some (vI t), some (vI N), some (vI (bOr (bm (fun x => decide (t = x) || (decide (x < i) && (LL nd N t x && LL nd N x t))) 8 : Nat) 0)), some (vI ((i : Int) + 1))], [], (sc, ar)) Q := by
      intro h
      rw [show (0 : Int) = ((bm (fun _ => false) 8 : Nat) : Int) by decide, bm_or]
      rw [bm_congr (R := fun x => decide (t = x) || (decide (x < i + 1) && (LL nd N t x && LL nd N x t))) (fun x hx => by
        rw [Bool.or_false]
        by_cases e : x = i
        · rw [e, h]
          simp
        · rw [decide_eq_decide.mpr (show x < i ↔ x < i + 1 by omega)])]
      exact h1
    refine sg_Rings_blockAround_7 ⟨by omega, by omega, fun c => by omega, fun _ => ct_isLeaning hN ht (by omega) hf (sg_Rings_blockAround_21 ⟨b2_in _, fun c => skip (by rw [b2_0.mp c]; rfl), fun c => ct_isLeaning hN (by omega) (by omega) hf (sg_Rings_blockAround_31 ⟨b2_in _, fun c2 => skip (by rw [b2_0.mp c2]; simp), fun c2 => ?_⟩)⟩)⟩
    have e1 : LL nd N t i = true := by
      cases h : LL nd N t i
      · exact absurd (b2_0.mpr h) c
      · rfl
    have e2 : LL nd N i t = true := by
      cases h : LL nd N i t
      · exact absurd (b2_0.mpr h) c2
      · rfl
    rw [bm_one (by omega), bm_or]
    rw [bm_congr (R := fun x => decide (t = x) || (decide (x < i + 1) && (LL nd N t x && LL nd N x t))) (fun x hx => by
      by_cases e : x = i
      · rw [e, e1, e2]
        simp
      · rw [decide_eq_false (show ¬ i = x by omega), Bool.or_false, decide_eq_decide.mpr (show x < i ↔ x < i + 1 by omega)])]
    exact h1
theorem ct_blockAround {t : Nat} (hN : N ≤ 8) (ht : t < N) (hf : RW N (ar 64) (LL nd N)) (hz : ∀ a b : Nat, a < 8 → b < 8 → (N ≤ a ∨ N ≤ b ∨ a = b) → nd (8 * a + b) = 0) (k : Q (some (vI (bm (SB nd N t) 8 : Nat))) (sc, ar)) : Ev (d + 2) M_Rings_blockAround (0, [some (vO 4), some (vI t), some (vI N), none, none], [], (sc, ar)) Q := by
  refine Ev.deep (Nat.le_add_left 2 d) (sg_Rings_blockAround_0 ?_)
  have := lp_blockAround hN ht hf hz k N 0 (by omega)
  rw [bm_one (by omega)]
  rw [bm_congr (R := fun x => decide (t = x)) (fun x hx => by simp)] at this
  exact this
theorem lp_nextBlock {lf : Nat → Bool} (hN : N ≤ 8) (hf : RW N (ar 64) (LL nd N)) (hz : ∀ a b : Nat, a < 8 → b < 8 → (N ≤ a ∨ N ≤ b ∨ a = b) → nd (8 * a + b) = 0) :
    ∀ j i : Nat, i + j = N → (∃ t, i ≤ t ∧ t < i + j ∧ cP nd N lf t = true) → Q (some (vI (bm (SB nd N (ff (cP nd N lf) j i)) 8 : Nat))) (sc, ar) → Ev 3 M_Rings_nextBlock (2, [some (vO 4), some (vI N), some (vI (bm lf 8 : Nat)), some (vI i), none], [], (sc, ar)) Q := by
  intro j
  induction j with
  | zero =>
    intro i hi h _
    obtain ⟨t, _, _, _⟩ := h
    omega
  | succ j ih =>
    intro i hi hx k
    simp only [ff] at k
    have skip : cP nd N lf i = false → Ev 3 M_Rings_nextBlock (2, [some (vO 4), some (vI N), some (vI (bm lf 8 : Nat)), some (vI ((i : Int) + 1)), none], [], (sc, ar)) Q := by
      intro h
      refine ih (i + 1) (by omega) ?_ ?_
      · obtain ⟨t, h1, h2, h3⟩ := hx
        have : t ≠ i := fun e => by
          rw [e, h] at h3
          cases h3
        exact ⟨t, by omega, by omega, h3⟩
      · rw [h] at k
        simpa using k
    have hL : ∀ u, u < 8 → N ≤ u → LL nd N i u = false := fun u hu h => WL_out hz N i u hN (by omega) hu (Or.inr h)
    refine sg_Rings_nextBlock_2 ⟨by omega, by omega, fun c => by omega, fun _ => ct_blockAround hN (by omega) hf hz (sg_Rings_nextBlock_13 ⟨bt_inR (bm_lt 8 (by omega)) (by omega), fun c => skip ?_, fun c => ct_valueOf (by decide) (by omega) (by show (i : Int) < 8; omega) (by show (8 : Int) < _; omega) (sg_Rings_nextBlock_31 ?_)⟩)⟩
    · cases h : cP nd N lf i
      · rfl
      · exact absurd c ((bm_ne (by omega)).mpr (cP_iff.mp h).1)
    · have hl := (bm_ne (by omega)).mp c
      rw [Int.toNat_natCast, hf i (by omega), bm_and, bm_sub]
      refine ⟨bm_inR _, fun c => skip ?_, fun c => ?_⟩
      · cases h : cP nd N lf i
        · rfl
        · refine absurd ?_ c
          have h2 := (cP_iff.mp h).2
          rw [bm_zero.mpr (fun u hu => ?_)]
          · rfl
          · by_cases hu2 : u < N
            · have h3 := h2 u hu2
              cases e1 : lf u
              · simp
              · cases e2 : LL nd N i u
                · rfl
                · rw [h3 e1 e2]
                  rfl
            · rw [hL u hu (by omega)]
              rfl
      · have : cP nd N lf i = true := by
          refine cP_iff.mpr ⟨hl, fun u hu h1 h2 => ?_⟩
          have h0 : bm (fun x => (LL nd N i x && lf x) && !SB nd N i x) 8 = 0 := by omega
          have := bm_zero.mp h0 u (by omega)
          rw [h1, h2] at this
          simpa using this
        rw [this] at k
        exact k
theorem ct_nextBlock {lf : Nat → Bool} (hN : N ≤ 8) (hf : RW N (ar 64) (LL nd N)) (hz : ∀ a b : Nat, a < 8 → b < 8 → (N ≤ a ∨ N ≤ b ∨ a = b) → nd (8 * a + b) = 0) (hc : cn lf N ≠ 0) (k : Q (some (vI (bm (SB nd N (nx nd N lf)) 8 : Nat))) (sc, ar)) : Ev (d + 3) M_Rings_nextBlock (0, [some (vO 4), some (vI N), some (vI (bm lf 8 : Nat)), none, none], [], (sc, ar)) Q := by
  obtain ⟨n1, n2, n3⟩ := nx_ok (nd := nd) hc
  exact Ev.deep (Nat.le_add_left 3 d) (sg_Rings_nextBlock_0 (lp_nextBlock hN hf hz N 0 (by omega) ⟨nx nd N lf, by omega, by omega, cP_iff.mpr ⟨n2, n3⟩⟩ k))
theorem lp_numberI {lf : Nat → Bool} {t r : Nat} {a0 : Nat → Nat → Int} (hN : N ≤ 8) (f : Nat → Int) (k : Ev 4 M_Rings_number (13, [some (vO 4), some (vI N), some (vI (bm (fun u => lf u && !SB nd N t u) 8 : Nat)), some (vI ((r : Int) + 1)), none, none], [], (up sc 66 (sc 66 + 1), up a0 65 (fun u => if (decide (u < N) && SB nd N t u) = true then sc 66 else f u))) Q) :
    ∀ j i : Nat, i + j = N → Ev 4 M_Rings_number (33, [some (vO 4), some (vI N), some (vI (bm lf 8 : Nat)), some (vI r), some (vI (bm (SB nd N t) 8 : Nat)), some (vI i)], [], (sc, up a0 65 (fun u => if (decide (u < i) && SB nd N t u) = true then sc 66 else f u))) Q := by
  intro j
  induction j with
  | zero =>
    intro i hi
    have : i = N := by omega
    subst this
    refine sg_Rings_number_33 ⟨by omega, by omega, fun _ => ?_, fun c => by omega⟩
    rw [bm_sub]
    exact k
  | succ j ih =>
    intro i hi
    have h1 := ih (i + 1) (by omega)
    refine sg_Rings_number_33 ⟨by omega, by omega, fun c => by omega, fun _ => ⟨by omega, fun c => by omega, fun _ => ⟨bt_inR (bm_lt 8 (by omega)) (by omega), fun c => ?_, fun c => ⟨by omega, by omega, ?_⟩⟩⟩⟩
    · have hs : SB nd N t i = false := by
        cases h : SB nd N t i
        · rfl
        · exact absurd c ((bm_ne (by omega)).mpr h)
      rw [show (fun u => if (decide (u < i) && SB nd N t u) = true then sc 66 else f u) = (fun u => if (decide (u < i + 1) && SB nd N t u) = true then sc 66 else f u) by
        funext u
        by_cases e : u = i
        · rw [e, hs]
          simp
        · rw [decide_eq_decide.mpr (show u < i ↔ u < i + 1 by omega)]]
      exact h1
    · have hs := (bm_ne (by omega)).mp c
      simp only [up_eq, up_up, Int.toNat_natCast]
      rw [show up (fun u => if (decide (u < i) && SB nd N t u) = true then sc 66 else f u) i (sc 66) = (fun u => if (decide (u < i + 1) && SB nd N t u) = true then sc 66 else f u) by
        funext u
        by_cases e : u = i
        · rw [e, up_eq, hs]
          simp
        · rw [up_ne _ _ e, decide_eq_decide.mpr (show u < i ↔ u < i + 1 by omega)]]
      exact h1
theorem lp_number {a0 : Nat → Nat → Int} {s0 : Nat → Int} (hN : N ≤ 8) (hf : RW N (a0 64) (LL nd N)) (hz : ∀ a b : Nat, a < 8 → b < 8 → (N ≤ a ∨ N ≤ b ∨ a = b) → nd (8 * a + b) = 0) (k : ∀ f, (∀ u, u < N → f u = (bS nd N N).2.2 u) → Q none (up s0 66 ((bS nd N N).2.1 : Nat), up a0 65 f)) :
    ∀ j r : Nat, r + j = N → ∀ f, (∀ u, u < N → (bS nd N r).1 u = false → f u = (bS nd N r).2.2 u) → Ev 4 M_Rings_number (13, [some (vO 4), some (vI N), some (vI (bm (bS nd N r).1 8 : Nat)), some (vI r), none, none], [], (up s0 66 ((bS nd N r).2.1 : Nat), up a0 65 f)) Q := by
  intro j
  induction j with
  | zero =>
    intro r hr f h
    have : r = N := by omega
    subst this
    exact sg_Rings_number_13 ⟨by omega, by omega, fun _ => k f (fun u hu => h u hu (cn_zero r bS_end u hu)), fun c => by omega⟩
  | succ j ih =>
    intro r hr f h
    obtain ⟨b1, b2', b3, b4, b5, b6⟩ := bS_ok (nd := nd) (N := N) r
    have hcb := cn_bm (lf := (bS nd N r).1) hN b2'
    refine sg_Rings_number_13 ⟨by omega, by omega, fun c => by omega, fun _ => ⟨bm_inR _, fun c => ?_, fun c => ?_⟩⟩
    · have hc : cn (bS nd N r).1 N = 0 := hcb.mpr (by omega)
      have := bS_more hc N (by omega)
      rw [this] at k
      exact k f (fun u hu => h u hu (cn_zero N hc u hu))
    · have hc : cn (bS nd N r).1 N ≠ 0 := fun e => c (by have := hcb.mp e; omega)
      have eb : bS nd N (r + 1) = (fun u => (bS nd N r).1 u && !SB nd N (nx nd N (bS nd N r).1) u, (bS nd N r).2.1 + 1, fun u => if SB nd N (nx nd N (bS nd N r).1) u = true then ((bS nd N r).2.1 : Int) else (bS nd N r).2.2 u) := by
        show (if cn (bS nd N r).1 N = 0 then _ else _) = _
        exact if_neg hc
      refine ct_nextBlock (d := 0) hN (by rw [up_ne _ _ (by decide)]; exact hf) hz hc (sg_Rings_number_28 ?_)
      have h1 := ih (r + 1) (by omega)
      rw [eb] at h1
      dsimp only at h1
      have := lp_numberI (sc := up s0 66 ((bS nd N r).2.1 : Nat)) (Q := Q) (a0 := a0) (nd := nd) (lf := (bS nd N r).1) (t := nx nd N (bS nd N r).1) (r := r) hN f (by
        simp only [up_eq, up_up]
        refine h1 _ (fun u hu hl => ?_)
        cases hs : SB nd N (nx nd N (bS nd N r).1) u
        · rw [hs] at hl
          simp only [Bool.and_false, Bool.false_eq_true, if_false]
          exact h u hu (by simpa using hl)
        · simp [hu]) N 0 (by omega)
      rw [show (fun u => if (decide (u < 0) && SB nd N (nx nd N (bS nd N r).1) u) = true then up s0 66 ((bS nd N r).2.1 : Int) 66 else f u) = f by
        funext u
        simp] at this
      exact this
theorem ct_ringsFind (hN : N ≤ 8) (hnd : ar 16 = nd) (hR : R9 nd) (hz : ∀ a b : Nat, a < 8 → b < 8 → (N ≤ a ∨ N ≤ b ∨ a = b) → nd (8 * a + b) = 0) (k : ∀ f g, RW N f (LL nd N) → (∀ u, u < N → g u = (bS nd N N).2.2 u) → Q none (up sc 66 ((bS nd N N).2.1 : Nat), up (up ar 64 f) 65 g)) : Ev (d + 5) M_Rings_find (0, [some (vO 4), some (vI N), some (vO 1)], [], (sc, ar)) Q := by
  refine Ev.deep (Nat.le_add_left 5 d) (sg_Rings_find_0 (ct_leanC (d := 2) hN hnd hR hz (fun f hf => sg_Rings_find_6 (sg_Rings_number_0 ?_))))
  have := lp_number (Q := fun r1 h1 => Ev 5 M_Rings_find (11, [some (vO 4), some (vI N), some (vO 1)], mPush r1 [], h1) Q) (a0 := up ar 64 f) (s0 := sc) (nd := nd) hN (by rw [up_eq]; exact hf) hz (fun g hg => sg_Rings_find_11 (k f g hf hg)) N 0 (by omega) ((up ar 64 f) 65) (fun u hu h => by
    simp only [bS, decide_eq_false_iff_not] at h
    omega)
  rw [up_id] at this
  rw [bm_all hN]
  exact this
end RINGS

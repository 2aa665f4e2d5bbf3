/-! RINGS: the reference -/
def al (P : Nat → Bool) : Nat → Bool
  | 0 => true
  | n + 1 => al P n && P n
theorem al_iff {P : Nat → Bool} : ∀ n, al P n = true ↔ ∀ i, i < n → P i = true
  | 0 => ⟨fun _ i h => by omega, fun _ => rfl⟩
  | n + 1 => by
    simp only [al]
    rw [Bool.and_eq_true, al_iff n]
    constructor
    · intro h i hi
      by_cases e : i = n
      · rw [e]; exact h.2
      · exact h.1 i (by omega)
    · intro h
      exact ⟨fun i hi => h i (by omega), h n (by omega)⟩
theorem b2_1 {b : Bool} : ¬ b2 b = 0 ↔ b = true := by
  unfold b2
  cases b <;> simp
theorem b2_ne {b : Bool} : b2 b ≠ 0 ↔ b = true := b2_1
theorem lw_no {P : Nat → Bool} {N : Nat} (h : ∀ t, t < N → P t = false) : ∀ j, j ≤ N → lw P N j = -9
  | 0, _ => rfl
  | j + 1, hj => by
    simp only [lw]
    rw [if_neg (by rw [h (N - 1 - j) (by omega)]; decide)]
    exact lw_no h j (by omega)
theorem bS_nb {nd : Nat → Int} {N : Nat} : ∀ r u, -9 ≤ (bS nd N r).2.2 u ∧ (bS nd N r).2.2 u ≤ r ∧ ((bS nd N r).2.1 : Int) ≤ r
  | 0, u => by simp [bS]
  | r + 1, u => by
    have h := bS_nb (nd := nd) (N := N) r u
    by_cases e : cn (bS nd N r).1 N = 0
    · have eb : bS nd N (r + 1) = bS nd N r := by
        show (if cn (bS nd N r).1 N = 0 then _ else _) = _
        exact if_pos e
      rw [eb]
      omega
    · have eb : bS nd N (r + 1) = (fun u => (bS nd N r).1 u && !SB nd N (nx nd N (bS nd N r).1) u, (bS nd N r).2.1 + 1, fun u => if SB nd N (nx nd N (bS nd N r).1) u = true then ((bS nd N r).2.1 : Int) else (bS nd N r).2.2 u) := by
        show (if cn (bS nd N r).1 N = 0 then _ else _) = _
        exact if_neg e
      rw [eb]
      dsimp only
      split <;> omega
section RINGSM
variable {sc : Nat → Int} {ar : Nat → Nat → Int} {Q : Option mV → mH → Prop} {d : Nat} {N : Nat} {nd : Nat → Int}
/-- the flat table -/
def FW (f : Nat → Int) (g : Nat → Nat → Bool) : Prop := ∀ a b, a < 8 → b < 8 → f (8 * a + b) = b2 (g a b)
theorem lp_leanM1 {a0 : Nat → Nat → Int} (hnd : a0 179 = nd) (hR : R9 nd) (k : ∀ f, (∀ i, i < 64 → f i = b2 (decide (0 < nd i))) → Ev 0 M_Md_lean (36, [some (vO 11), some (vI 0), none, none], [], (sc, up a0 183 f)) Q) : ∀ j i : Nat, i + j = 64 → ∀ f, (∀ x, x < i → f x = b2 (decide (0 < nd x))) → Ev 0 M_Md_lean (2, [some (vO 11), some (vI i), none, none], [], (sc, up a0 183 f)) Q := by
  intro j
  induction j with
  | zero =>
    intro i hi f hf
    have : i = 64 := by omega
    subst this
    exact sg_Md_lean_2 ⟨by omega, fun _ => k f hf, fun c => by omega⟩
  | succ j ih =>
    intro i hi f hf
    have r1 := hR i (by omega)
    have go : ∀ v, v = b2 (decide (0 < nd i)) → Ev 0 M_Md_lean (2, [some (vO 11), some (vI ((i : Int) + 1)), none, none], [], (sc, up a0 183 (up f i v))) Q := by
      intro v hv
      refine ih (i + 1) (by omega) _ (fun x hx => ?_)
      by_cases e : x = i
      · rw [e, up_eq, hv]
      · rw [up_ne _ _ e]
        exact hf x (by omega)
    refine sg_Md_lean_2 ⟨by omega, fun c => by omega, fun _ => ⟨by omega, by omega, ?_⟩⟩
    rw [up_ne _ _ (show (179 : Nat) ≠ 183 by decide), hnd]
    simp only [up_eq, up_up, Int.toNat_natCast]
    refine ⟨by omega, fun c => ⟨by omega, by omega, go _ ?_⟩, fun c => ⟨by omega, by omega, go _ ?_⟩⟩
    · rw [decide_eq_false (by omega)]; rfl
    · rw [decide_eq_true (by omega)]; rfl
def mixW (nd : Nat → Int) (m a b x y : Nat) : Bool := if x < a ∨ (x = a ∧ y < b) then WL nd (m + 1) x y else WL nd m x y
theorem lp_leanM2 {m a : Nat} {a0 : Nat → Nat → Int} (hm : m < 8) (ha : a < 8) (k : ∀ f, FW f (mixW nd m (a + 1) 0) → Ev 0 M_Md_lean (44, [some (vO 11), some (vI m), some (vI ((a : Int) + 1)), none], [], (sc, up a0 183 f)) Q) : ∀ j b : Nat, b + j = 8 → ∀ f, FW f (mixW nd m a b) → Ev 0 M_Md_lean (52, [some (vO 11), some (vI m), some (vI a), some (vI b)], [], (sc, up a0 183 f)) Q := by
  intro j
  induction j with
  | zero =>
    intro b hb f hf
    have : b = 8 := by omega
    subst this
    refine sg_Md_lean_52 ⟨by omega, fun _ => k f (fun x y hx hy => ?_), fun c => by omega⟩
    rw [hf x y hx hy]
    congr 1
    unfold mixW
    by_cases h : x < a ∨ x = a ∧ y < 8
    · rw [if_pos h, if_pos (by omega)]
    · rw [if_neg h, if_neg (by omega)]
  | succ j ih =>
    intro b hb f hf
    have go : ∀ v, v = b2 (WL nd (m + 1) a b) → Ev 0 M_Md_lean (52, [some (vO 11), some (vI m), some (vI a), some (vI ((b : Int) + 1))], [], (sc, up a0 183 (up f (8 * a + b) v))) Q := by
      intro v hv
      refine ih (b + 1) (by omega) _ (fun x y hx hy => ?_)
      unfold mixW
      by_cases e : x = a ∧ y = b
      · rw [e.1, e.2, up_eq, hv, if_pos (by omega)]
      · rw [up_ne _ _ (by omega), hf x y hx hy]
        unfold mixW
        by_cases h : x < a ∨ x = a ∧ y < b
        · rw [if_pos h, if_pos (by omega)]
        · rw [if_neg h, if_neg (by omega)]
    have e1 : f (8 * a + b) = b2 (WL nd m a b) := by
      rw [hf a b ha (by omega)]
      unfold mixW
      rw [if_neg (by omega)]
    have e2 : f (8 * a + m) = b2 (WL nd m a m) := by
      rw [hf a m ha hm]
      unfold mixW
      split
      · exact congrArg b2 WS_col
      · rfl
    have e3 : f (8 * m + b) = b2 (WL nd m m b) := by
      rw [hf m b hm (by omega)]
      unfold mixW
      split
      · exact congrArg b2 WS_row
      · rfl
    refine sg_Md_lean_52 ⟨by omega, fun c => by omega, fun _ => ⟨by omega, by omega, ?_⟩⟩
    rw [show (8 * (a : Int) + (b : Int)).toNat = 8 * a + b by omega, show (8 * (a : Int) + (m : Int)).toNat = 8 * a + m by omega, show (8 * (m : Int) + (b : Int)).toNat = 8 * m + b by omega]
    simp only [up_eq, up_up]
    rw [e1, e2, e3]
    refine ⟨b2_in _, fun c => ⟨by omega, by omega, go _ ?_⟩, fun c => ⟨by omega, by omega, b2_in _, fun c2 => ⟨by omega, by omega, go _ ?_⟩, fun c2 => ⟨by omega, by omega, b2_in _, fun c3 => ⟨by omega, by omega, go _ ?_⟩, fun c3 => ⟨by omega, by omega, go _ ?_⟩⟩⟩⟩
    · rw [show WL nd (m + 1) a b = true from WL_up (b2_ne.mp c)]; rfl
    · have c : WL nd m a b = false := b2_0.mp (Classical.not_not.mp c)
      show _ = b2 (WS (WL nd m) m a b)
      unfold WS
      rw [c, b2_0.mp c2]
      rfl
    · have c : WL nd m a b = false := b2_0.mp (Classical.not_not.mp c)
      show _ = b2 (WS (WL nd m) m a b)
      unfold WS
      rw [c, b2_1.mp c2, b2_0.mp c3]
      rfl
    · have c : WL nd m a b = false := b2_0.mp (Classical.not_not.mp c)
      show _ = b2 (WS (WL nd m) m a b)
      unfold WS
      rw [c, b2_1.mp c2, b2_1.mp c3]
      rfl
theorem lp_leanM3 {m : Nat} {a0 : Nat → Nat → Int} (hm : m < 8) (k : ∀ f, FW f (WL nd (m + 1)) → Ev 0 M_Md_lean (36, [some (vO 11), some (vI ((m : Int) + 1)), none, none], [], (sc, up a0 183 f)) Q) : ∀ j a : Nat, a + j = 8 → ∀ f, FW f (mixW nd m a 0) → Ev 0 M_Md_lean (44, [some (vO 11), some (vI m), some (vI a), none], [], (sc, up a0 183 f)) Q := by
  intro j
  induction j with
  | zero =>
    intro a ha f hf
    have : a = 8 := by omega
    subst this
    refine sg_Md_lean_44 ⟨by omega, fun _ => k f (fun x y hx hy => ?_), fun c => by omega⟩
    rw [hf x y hx hy]
    unfold mixW
    rw [if_pos (by omega)]
  | succ j ih =>
    intro a ha f hf
    exact sg_Md_lean_44 ⟨by omega, fun c => by omega, fun _ => lp_leanM2 hm (by omega) (ih (a + 1) (by omega)) 8 0 (by omega) f hf⟩
theorem lp_leanM4 {a0 : Nat → Nat → Int} (k : ∀ f, FW f (WL nd 8) → Q none (sc, up a0 183 f)) : ∀ j m : Nat, m + j = 8 → ∀ f, FW f (WL nd m) → Ev 0 M_Md_lean (36, [some (vO 11), some (vI m), none, none], [], (sc, up a0 183 f)) Q := by
  intro j
  induction j with
  | zero =>
    intro m hm f hf
    have : m = 8 := by omega
    subst this
    exact sg_Md_lean_36 ⟨by omega, fun _ => k f hf, fun c => by omega⟩
  | succ j ih =>
    intro m hm f hf
    refine sg_Md_lean_36 ⟨by omega, fun c => by omega, fun _ => lp_leanM3 (by omega) (ih (m + 1) (by omega)) 8 0 (by omega) f (fun x y hx hy => ?_)⟩
    rw [hf x y hx hy]
    unfold mixW
    rw [if_neg (by omega)]
theorem ct_leanM (hN : N ≤ 8) (hnd : ar 179 = nd) (hR : R9 nd) (hz : ∀ a b : Nat, a < 8 → b < 8 → (N ≤ a ∨ N ≤ b ∨ a = b) → nd (8 * a + b) = 0) (k : ∀ f, FW f (LL nd N) → Q none (sc, up ar 183 f)) : Ev d M_Md_lean (0, [some (vO 11), none, none, none], [], (sc, ar)) Q := by
  refine Ev.deep (Nat.zero_le d) (sg_Md_lean_0 ?_)
  have := lp_leanM1 (sc := sc) (Q := Q) hnd hR (fun f hf => lp_leanM4 (nd := nd) (fun g hg => k g (fun a b ha hb => by
    rw [hg a b ha hb, WL_stop hz 8 hN (by omega) a b ha hb]
    rfl)) 8 0 (by omega) f (fun a b ha hb => hf _ (by omega))) 64 0 (by omega) (ar 183) (fun x hx => by omega)
  rw [up_id] at this
  exact this
theorem ct_isOne {a b : Nat} (ha : a < 8) (hb : b < 8) (hf : FW (ar 183) (LL nd N)) (k : Q (some (vI (b2 (SB nd N a b)))) (sc, ar)) : Ev d M_Md_isOne (0, [some (vO 11), some (vI a), some (vI b)], [], (sc, ar)) Q := by
  refine Ev.deep (Nat.zero_le d) (sg_Md_isOne_0 ⟨by omega, by omega, fun c => ?_, fun c => ⟨by omega, by omega, ?_⟩⟩)
  · rw [show SB nd N a b = true from SB_iff.mpr (Or.inl (by omega))] at k
    exact k
  · rw [show (8 * (a : Int) + (b : Int)).toNat = 8 * a + b by omega, show (8 * (b : Int) + (a : Int)).toNat = 8 * b + a by omega, hf a b ha hb, hf b a hb ha]
    unfold SB at k
    rw [decide_eq_false (by omega), Bool.false_or] at k
    refine ⟨b2_in _, fun c => ?_, fun c => ⟨by omega, by omega, b2_in _, fun c2 => ?_, fun c2 => ?_⟩⟩
    · rw [b2_0.mp c] at k
      exact k
    · rw [b2_0.mp c2, Bool.and_false] at k
      exact k
    · rw [b2_1.mp c, b2_1.mp c2] at k
      exact k
def bad (nd : Nat → Int) (N : Nat) (bl : Nat → Int) (t a b : Nat) : Bool := SB nd N t a && (!SB nd N t b && (decide (bl b = -9) && decide (0 < nd (8 * a + b))))
theorem lp_isNextI {t a : Nat} {bl : Nat → Int} {i0 : Bool} (hN : N ≤ 8) (hR : R9 nd) (hf : FW (ar 183) (LL nd N)) (hn : sc 177 = (N : Int)) (hnd : ar 179 = nd) (hbl : ar 184 = bl) (hbr : ∀ u, u < N → inR (bl u)) (ht : t < N) (ha : a < N) (k : Ev 1 M_Md_isNext (4, [some (vO 11), some (vI t), some (vI (b2 (i0 && al (fun b => !bad nd N bl t a b) N))), some (vI ((a : Int) + 1)), none], [], (sc, ar)) Q) :
    ∀ j b : Nat, b + j = N → Ev 1 M_Md_isNext (15, [some (vO 11), some (vI t), some (vI (b2 (i0 && al (fun b => !bad nd N bl t a b) b))), some (vI a), some (vI b)], [], (sc, ar)) Q := by
  intro j
  induction j with
  | zero =>
    intro b hb
    have : b = N := by omega
    subst this
    exact sg_Md_isNext_15 ⟨by omega, by omega, fun _ => k, fun c => by omega⟩
  | succ j ih =>
    intro b hb
    have h1 := ih (b + 1) (by omega)
    simp only [al] at h1
    rw [← Bool.and_assoc] at h1
    have r1 := hR.at (show a < 8 by omega) (show b < 8 by omega)
    refine sg_Md_isNext_15 ⟨by omega, by omega, fun c => by omega, fun _ => ⟨b2_in _, fun c => ?_, fun c => ct_isOne (by omega) (by omega) hf (sg_Md_isNext_34 ?_)⟩⟩
    · rw [b2_0.mp c] at h1
      exact h1
    · have c := b2_1.mp c
      rw [c, Bool.true_and] at h1
      refine ⟨b2_in _, fun c1 => ?_, fun c1 => ct_isOne (by omega) (by omega) hf (sg_Md_isNext_44 ⟨b2_in _, fun c2 => ?_, fun c2 => ⟨by omega, by omega, ?_⟩⟩)⟩
      · unfold bad at h1
        rw [b2_0.mp c1] at h1
        exact h1
      · unfold bad at h1
        rw [b2_ne.mp c2, Bool.not_true, Bool.false_and, Bool.and_false] at h1
        exact h1
      · have c2 : SB nd N t b = false := b2_0.mp (Classical.not_not.mp c2)
        unfold bad at h1
        rw [b2_1.mp c1, c2, Bool.true_and, Bool.not_false, Bool.true_and] at h1
        rw [hbl, hnd, Int.toNat_natCast, show (8 * (a : Int) + (b : Int)).toNat = 8 * a + b by omega]
        refine ⟨hbr b (by omega), fun c3 => ?_, fun c3 => ⟨by omega, by omega, by omega, fun c4 => ?_, fun c4 => ?_⟩⟩
        · rw [decide_eq_false c3] at h1
          exact h1
        · rw [decide_eq_true (Classical.not_not.mp c3), decide_eq_true c4] at h1
          exact h1
        · rw [decide_eq_true (Classical.not_not.mp c3), decide_eq_false c4] at h1
          exact h1
theorem lp_isNext {t : Nat} {bl : Nat → Int} (hN : N ≤ 8) (hR : R9 nd) (hf : FW (ar 183) (LL nd N)) (hn : sc 177 = (N : Int)) (hnd : ar 179 = nd) (hbl : ar 184 = bl) (hbr : ∀ u, u < N → inR (bl u)) (ht : t < N) (k : Q (some (vI (b2 (al (fun a => al (fun b => !bad nd N bl t a b) N) N)))) (sc, ar)) :
    ∀ j a : Nat, a + j = N → Ev 1 M_Md_isNext (4, [some (vO 11), some (vI t), some (vI (b2 (al (fun a => al (fun b => !bad nd N bl t a b) N) a))), some (vI a), none], [], (sc, ar)) Q := by
  intro j
  induction j with
  | zero =>
    intro a ha
    have : a = N := by omega
    subst this
    refine sg_Md_isNext_4 ⟨by omega, by omega, fun _ => ⟨?_, ?_, k⟩, fun c => by omega⟩
    · unfold b2; split <;> omega
    · unfold b2; split <;> omega
  | succ j ih =>
    intro a ha
    have h1 := ih (a + 1) (by omega)
    simp only [al] at h1
    refine sg_Md_isNext_4 ⟨by omega, by omega, fun c => by omega, fun _ => ?_⟩
    have := lp_isNextI (i0 := al (fun a => al (fun b => !bad nd N bl t a b) N) a) hN hR hf hn hnd hbl hbr ht (show a < N by omega) h1 N 0 (by omega)
    simp only [al, Bool.and_true] at this
    exact this
theorem ct_isNext {t r : Nat} (hN : N ≤ 8) (hR : R9 nd) (hf : FW (ar 183) (LL nd N)) (hn : sc 177 = (N : Int)) (hnd : ar 179 = nd) (hr : r ≤ N) (hbl : ∀ u, u < N → ar 184 u = (bS nd N r).2.2 u) (ht : t < N) (hl : (bS nd N r).1 t = true) (k : Q (some (vI (b2 (cP nd N (bS nd N r).1 t)))) (sc, ar)) : Ev (d + 1) M_Md_isNext (0, [some (vO 11), some (vI t), none, none, none], [], (sc, ar)) Q := by
  obtain ⟨b1, b2', b3, b4, b5, b6⟩ := bS_ok (nd := nd) (N := N) r
  have e : al (fun a => al (fun b => !bad nd N (ar 184) t a b) N) N = cP nd N (bS nd N r).1 t := by
    apply Bool.eq_iff_iff.mpr
    rw [cP_iff, al_iff, isC_iff b1 ht]
    constructor
    · intro h
      refine ⟨hl, fun a b ha hb h1 h2 h3 h4 => ?_⟩
      have := (al_iff N).mp (h a ha) b hb
      unfold bad at this
      rw [h1, h2, hbl b hb, (b4 b hb).mp h3, decide_eq_true h4] at this
      simp at this
    · intro h a ha
      rw [al_iff]
      intro b hb
      cases hbad : bad nd N (ar 184) t a b
      · rfl
      · exfalso
        unfold bad at hbad
        simp only [Bool.and_eq_true, Bool.not_eq_true', decide_eq_true_eq] at hbad
        obtain ⟨h1, h2, h3, h4⟩ := hbad
        rw [hbl b hb] at h3
        exact h.2 a b ha hb h1 h2 ((b4 b hb).mpr h3) h4
  have := lp_isNext (Q := Q) (t := t) hN hR hf hn hnd rfl (fun u hu => by
    rw [hbl u hu]
    have := bS_nb (nd := nd) (N := N) r u
    omega) ht (by
    rw [e]
    exact k) N 0 (by omega)
  exact Ev.deep (Nat.le_add_left 1 d) (sg_Md_isNext_0 this)
theorem lp_numM0 {a0 : Nat → Nat → Int} (f0 : Nat → Int) (k : Ev 2 M_Md_numbered (30, [some (vO 11), some (vI 0), some (vI 0), none, none], [], (sc, up a0 184 (wr f0 (fun _ => -9) 8))) Q) : ∀ j i : Nat, i + j = 8 → Ev 2 M_Md_numbered (6, [some (vO 11), some (vI i), none, none, none], [], (sc, up a0 184 (wr f0 (fun _ => -9) i))) Q := by
  intro j
  induction j with
  | zero =>
    intro i hi
    have : i = 8 := by omega
    subst this
    exact sg_Md_numbered_6 ⟨by omega, fun _ => k, fun c => by omega⟩
  | succ j ih =>
    intro i hi
    have h1 := ih (i + 1) (by omega)
    refine sg_Md_numbered_6 ⟨by omega, fun c => by omega, fun _ => ⟨by omega, by omega, ?_⟩⟩
    simp only [up_eq, up_up, Int.toNat_natCast]
    exact h1
theorem lp_numM1 {r : Nat} (hN : N ≤ 8) (hR : R9 nd) (hf : FW (ar 183) (LL nd N)) (hn : sc 177 = (N : Int)) (hnd : ar 179 = nd) (hr : r ≤ N) (hbl : ∀ u, u < N → ar 184 u = (bS nd N r).2.2 u) {x1 : Int} (k1 : lw (cP nd N (bS nd N r).1) N N = -9 → Ev 2 M_Md_numbered (30, [some (vO 11), some (vI x1), some (vI ((r : Int) + 1)), none, none], [], (sc, ar)) Q) (k2 : ¬ lw (cP nd N (bS nd N r).1) N N = -9 → Ev 2 M_Md_numbered (97, [some (vO 11), some (vI x1), some (vI r), some (vI (lw (cP nd N (bS nd N r).1) N N)), some (vI 0)], [], (sc, ar)) Q) :
    ∀ q j : Nat, j + q = N → Ev 2 M_Md_numbered (49, [some (vO 11), some (vI x1), some (vI r), some (vI (lw (cP nd N (bS nd N r).1) N j)), some (vI ((N : Int) - 1 - j))], [], (sc, ar)) Q := by
  obtain ⟨b1, b2', b3, b4, b5, b6⟩ := bS_ok (nd := nd) (N := N) r
  intro q
  induction q with
  | zero =>
    intro j hj
    have : j = N := by omega
    subst this
    refine sg_Md_numbered_49 ⟨by omega, fun _ => ⟨?_, k1, k2⟩, fun c => by omega⟩
    have : ∀ i : Nat, i ≤ j → -9 ≤ lw (cP nd j (bS nd j r).1) j i ∧ lw (cP nd j (bS nd j r).1) j i ≤ 8 := by
      intro i
      induction i with
      | zero => intro _; simp [lw]
      | succ i ih2 =>
        intro hi
        have := ih2 (by omega)
        simp only [lw]
        split <;> omega
    have := this j (Nat.le_refl _)
    omega
  | succ q ih =>
    intro j hj
    have h1 := ih (j + 1) (by omega)
    obtain ⟨t, ht⟩ : ∃ t : Nat, t = N - 1 - j := ⟨_, rfl⟩
    rw [show (N : Int) - 1 - j = (t : Int) by omega]
    rw [show (N : Int) - 1 - ((j + 1 : Nat) : Int) = (t : Int) + (-1) by omega] at h1
    simp only [lw] at h1
    rw [← ht] at h1
    have hb := bS_nb (nd := nd) (N := N) r t
    refine sg_Md_numbered_49 ⟨by omega, fun c => by omega, fun _ => ⟨by omega, by omega, ?_⟩⟩
    rw [Int.toNat_natCast, hbl t (by omega)]
    refine ⟨by omega, fun c => ?_, fun c => ?_⟩
    · rw [if_neg (fun h => c ((b4 t (by omega)).mp (cP_iff.mp h).1))] at h1
      exact h1
    · have hl := (b4 t (by omega)).mpr (Classical.not_not.mp c)
      refine ct_isNext hN hR hf hn hnd hr hbl (by omega) hl (sg_Md_numbered_72 ⟨b2_in _, fun c => ?_, fun c => ?_⟩)
      · rw [b2_0.mp c] at h1
        simp only [Bool.false_eq_true, if_false] at h1
        exact h1
      · rw [b2_1.mp c] at h1
        simp only [if_true] at h1
        exact h1
theorem lp_numM2 {r t : Nat} {x1 : Int} {a0 : Nat → Nat → Int} (hN : N ≤ 8) (ht : t < N) (hf : FW (a0 183) (LL nd N)) (hn : sc 177 = (N : Int)) (f : Nat → Int) (k : Ev 2 M_Md_numbered (30, [some (vO 11), some (vI (x1 + 1)), some (vI ((r : Int) + 1)), none, none], [], (sc, up a0 184 (fun u => if (decide (u < N) && SB nd N t u) = true then x1 else f u))) Q) :
    ∀ j i : Nat, i + j = N → Ev 2 M_Md_numbered (97, [some (vO 11), some (vI x1), some (vI r), some (vI t), some (vI i)], [], (sc, up a0 184 (fun u => if (decide (u < i) && SB nd N t u) = true then x1 else f u))) Q := by
  intro j
  induction j with
  | zero =>
    intro i hi
    have : i = N := by omega
    subst this
    exact sg_Md_numbered_97 ⟨by omega, by omega, fun _ => k, fun c => by omega⟩
  | succ j ih =>
    intro i hi
    have h1 := ih (i + 1) (by omega)
    refine sg_Md_numbered_97 ⟨by omega, by omega, fun c => by omega, fun _ => ct_isOne (by omega) (by omega) (by rw [up_ne _ _ (by decide)]; exact hf) (sg_Md_numbered_119 ⟨b2_in _, fun c => ⟨by omega, by omega, by omega, by omega, ?_⟩, fun c => ⟨by omega, by omega, ?_⟩⟩)⟩
    · have hs := b2_0.mp c
      simp only [up_eq, up_up, Int.toNat_natCast, up_id]
      rw [show (fun u => if (decide (u < i) && SB nd N t u) = true then x1 else f u) = (fun u => if (decide (u < i + 1) && SB nd N t u) = true then x1 else f u) by
        funext u
        by_cases e : u = i
        · rw [e, hs]
          simp
        · rw [decide_eq_decide.mpr (show u < i ↔ u < i + 1 by omega)]]
      exact h1
    · have hs := b2_1.mp c
      simp only [up_eq, up_up, Int.toNat_natCast]
      rw [show up (fun u => if (decide (u < i) && SB nd N t u) = true then x1 else f u) i x1 = (fun u => if (decide (u < i + 1) && SB nd N t u) = true then x1 else f u) by
        funext u
        by_cases e : u = i
        · rw [e, up_eq, hs]
          simp
        · rw [up_ne _ _ e, decide_eq_decide.mpr (show u < i ↔ u < i + 1 by omega)]]
      exact h1
theorem lp_numM {a0 : Nat → Nat → Int} (hN : N ≤ 8) (hR : R9 nd) (hf : FW (a0 183) (LL nd N)) (hn : sc 177 = (N : Int)) (hnd : a0 179 = nd) (k : ∀ f, (∀ u, u < N → f u = (bS nd N N).2.2 u) → Q (some (vI ((bS nd N N).2.1 : Nat))) (sc, up a0 184 f)) :
    ∀ j r : Nat, r + j = N → ∀ f, (∀ u, u < N → f u = (bS nd N r).2.2 u) → Ev 2 M_Md_numbered (30, [some (vO 11), some (vI ((bS nd N r).2.1 : Nat)), some (vI r), none, none], [], (sc, up a0 184 f)) Q := by
  intro j
  induction j with
  | zero =>
    intro r hr f h
    have : r = N := by omega
    subst this
    exact sg_Md_numbered_30 ⟨by omega, by omega, fun _ => k f h, fun c => by omega⟩
  | succ j ih =>
    intro r hr f h
    have h1 := ih (r + 1) (by omega)
    refine sg_Md_numbered_30 ⟨by omega, by omega, fun c => by omega, fun _ => ?_⟩
    rw [hn, show ((N : Int) - 1) = (N : Int) - 1 - ((0 : Nat) : Int) by omega]
    refine lp_numM1 hN hR (by rw [up_ne _ _ (by decide)]; exact hf) hn (by rw [up_ne _ _ (by decide)]; exact hnd) (by omega) (by rw [up_eq]; exact h) (fun c => ?_) (fun c => ?_) N 0 (by omega)
    · have hc : cn (bS nd N r).1 N = 0 := by
        by_cases e : cn (bS nd N r).1 N = 0
        · exact e
        · obtain ⟨n1, n2, n3⟩ := nx_ok (nd := nd) e
          have := lw_ff (P := cP nd N (bS nd N r).1) (N := N) N 0 (by omega) ⟨nx nd N (bS nd N r).1, by omega, n1, cP_iff.mpr ⟨n2, n3⟩⟩
          rw [this] at c
          omega
      rw [bS_more hc (r + 1) (by omega)] at h1
      exact h1 f h
    · have hc : cn (bS nd N r).1 N ≠ 0 := fun e => c (lw_no (fun t ht => by
        cases hp : cP nd N (bS nd N r).1 t
        · rfl
        · have := cn_zero N e t ht
          rw [(cP_iff.mp hp).1] at this
          cases this) N (Nat.le_refl _))
      obtain ⟨n1, n2, n3⟩ := nx_ok (nd := nd) hc
      have elw : lw (cP nd N (bS nd N r).1) N N = (nx nd N (bS nd N r).1 : Int) := lw_ff N 0 (by omega) ⟨nx nd N (bS nd N r).1, by omega, n1, cP_iff.mpr ⟨n2, n3⟩⟩
      have eb : bS nd N (r + 1) = (fun u => (bS nd N r).1 u && !SB nd N (nx nd N (bS nd N r).1) u, (bS nd N r).2.1 + 1, fun u => if SB nd N (nx nd N (bS nd N r).1) u = true then ((bS nd N r).2.1 : Int) else (bS nd N r).2.2 u) := by
        show (if cn (bS nd N r).1 N = 0 then _ else _) = _
        exact if_neg hc
      rw [eb] at h1
      dsimp only at h1
      rw [elw]
      have := lp_numM2 (sc := sc) (Q := Q) (a0 := a0) (nd := nd) (t := nx nd N (bS nd N r).1) (r := r) (x1 := ((bS nd N r).2.1 : Nat)) hN n1 hf hn f (by
        refine h1 _ (fun u hu => ?_)
        rw [decide_eq_true hu, Bool.true_and, h u hu]) N 0 (by omega)
      rw [show (fun u => if (decide (u < 0) && SB nd N (nx nd N (bS nd N r).1) u) = true then ((bS nd N r).2.1 : Int) else f u) = f by
        funext u
        simp] at this
      exact this
theorem ct_numbered (hN : N ≤ 8) (hR : R9 nd) (hz : ∀ a b : Nat, a < 8 → b < 8 → (N ≤ a ∨ N ≤ b ∨ a = b) → nd (8 * a + b) = 0) (hn : sc 177 = (N : Int)) (hnd : ar 179 = nd) (k : ∀ f g, (∀ u, u < N → g u = (bS nd N N).2.2 u) → Q (some (vI ((bS nd N N).2.1 : Nat))) (sc, up (up ar 183 f) 184 g)) : Ev (d + 2) M_Md_numbered (0, [some (vO 11), none, none, none, none], [], (sc, ar)) Q := by
  refine Ev.deep (Nat.le_add_left 2 d) (sg_Md_numbered_0 (ct_leanM hN hnd hR hz (fun f hf => sg_Md_numbered_4 ?_)))
  have := lp_numM0 (sc := sc) (Q := Q) (a0 := up ar 183 f) (up ar 183 f 184) (lp_numM (a0 := up ar 183 f) hN hR (by rw [up_eq]; exact hf) hn (by rw [up_ne _ _ (by decide)]; exact hnd) (fun g hg => k f g hg) N 0 (by omega) _ (fun u hu => by
    rw [wr_at, if_pos (by omega)]
    rfl)) 8 0 (by omega)
  simp only [wr, up_id] at this
  exact this
end RINGSM

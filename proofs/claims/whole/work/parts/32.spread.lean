/-! SPREAD: the class's forces, the reference's -/
def pw (v s : Int) : Int := Int.tdiv (v * s) 10
theorem pw_bd {v s : Int} (hv : 0 ≤ v) (hs : 0 ≤ s ∧ s ≤ 9) : 0 ≤ pw v s ∧ pw v s ≤ v ∧ 0 ≤ v * s ∧ v * s ≤ 9 * v := by
  have h1 : 0 ≤ v * s := Int.mul_nonneg hv hs.1
  have h2 : v * s ≤ v * 9 := Int.mul_le_mul_of_nonneg_left hs.2 hv
  unfold pw
  rw [Int.tdiv_eq_ediv_of_nonneg h1]
  omega
theorem pw_mono {v w s : Int} (hv : 0 ≤ v) (h : v ≤ w) (hs : 0 ≤ s) : pw v s ≤ pw w s := by
  have h1 : 0 ≤ v * s := Int.mul_nonneg hv hs
  have h2 : v * s ≤ w * s := Int.mul_le_mul_of_nonneg_right h hs
  unfold pw
  rw [Int.tdiv_eq_ediv_of_nonneg h1, Int.tdiv_eq_ediv_of_nonneg (by omega)]
  omega
theorem pw_zero (v : Int) : pw v 0 = 0 := by
  unfold pw
  rw [Int.mul_zero]
  rfl
theorem zero_pw (s : Int) : pw 0 s = 0 := by
  unfold pw
  rw [Int.zero_mul]
  rfl
def fz0 (a y : Nat) : Int := if y = a then 10000000 else 0
def mxT (nd : Nat → Int) (f : Nat → Int) (y : Nat) : Nat → Int
  | 0 => f y
  | x + 1 => if mxT nd f y x < pw (f x) (nd (8 * y + x)) then pw (f x) (nd (8 * y + x)) else mxT nd f y x
def TF (nd : Nat → Int) (N a : Nat) : Nat → Nat → Int
  | 0 => fz0 a
  | r + 1 => fun y => mxT nd (TF nd N a r) y N
theorem mxT_le {nd f : Nat → Int} {y : Nat} {b : Int} : ∀ n, f y ≤ b → (∀ x, x < n → pw (f x) (nd (8 * y + x)) ≤ b) → mxT nd f y n ≤ b
  | 0, h, _ => h
  | n + 1, h, k => by
    have h1 := mxT_le n h (fun x hx => k x (by omega))
    have h2 := k n (by omega)
    simp only [mxT]
    split <;> omega
theorem mxT_ge {nd f : Nat → Int} {y : Nat} : ∀ n, f y ≤ mxT nd f y n ∧ ∀ x, x < n → pw (f x) (nd (8 * y + x)) ≤ mxT nd f y n
  | 0 => ⟨Int.le_refl _, fun x h => by omega⟩
  | n + 1 => by
    obtain ⟨h1, h2⟩ := mxT_ge (nd := nd) (f := f) (y := y) n
    simp only [mxT]
    refine ⟨by split <;> omega, fun x hx => ?_⟩
    by_cases e : x = n
    · subst e
      split <;> omega
    · have := h2 x (by omega)
      split <;> omega
theorem TF_bd {nd : Nat → Int} {N a : Nat} : ∀ r y, 0 ≤ TF nd N a r y
  | 0, y => by
    show 0 ≤ fz0 a y
    unfold fz0
    split <;> omega
  | r + 1, y => Int.le_trans (TF_bd r y) (mxT_ge N).1
theorem TF_up {nd : Nat → Int} {N a r y : Nat} : TF nd N a r y ≤ TF nd N a (r + 1) y := (mxT_ge N).1
theorem TF_le {nd : Nat → Int} {N a y : Nat} {r k : Nat} (h : r ≤ k) : TF nd N a r y ≤ TF nd N a k y := by
  induction h with
  | refl => exact Int.le_refl _
  | step _ ih => exact Int.le_trans ih TF_up
/-- nothing more can pass -/
def shut (nd : Nat → Int) (N a : Nat) (U : Nat → Int) : Prop := (∀ y, y < 8 → fz0 a y ≤ U y) ∧ ∀ x y, x < N → y < 8 → pw (U x) (nd (8 * y + x)) ≤ U y
/-- what the class's forces are -/
def FX (nd : Nat → Int) (N a : Nat) (F : Nat → Int) : Prop := (∀ y, y < 8 → 0 ≤ F y ∧ F y ≤ 10000000) ∧ (∀ y, y < 8 → N ≤ y → F y = 0) ∧ F a = 10000000 ∧ shut nd N a F ∧ ∀ y, y < 8 → F y ≤ TF nd N a 8 y
/-- what the reference's are -/
def FM (nd : Nat → Int) (N a : Nat) (G : Nat → Int) : Prop := (∀ y, y < 8 → 0 ≤ G y ∧ G y ≤ 10000000) ∧ (∀ y, y < 8 → TF nd N a 8 y ≤ G y) ∧ ∀ U, (∀ y, y < 8 → 0 ≤ U y) → shut nd N a U → ∀ y, y < 8 → G y ≤ U y
theorem FX_FM {nd : Nat → Int} {N a : Nat} {F G : Nat → Int} (h : FX nd N a F) (k : FM nd N a G) {y : Nat} (hy : y < 8) : F y = G y := by
  have h1 := h.2.2.2.2 y hy
  have h2 := k.2.1 y hy
  have h3 := k.2.2 F (fun y hy => (h.1 y hy).1) h.2.2.2.1 y hy
  omega
theorem cn_add {P R : Nat → Bool} {m : Nat} : ∀ n, (∀ i, i < n → i ≠ m → P i = R i) → P m = false → R m = true → cn R n = cn P n + (if m < n then 1 else 0)
  | 0, _, _, _ => by simp [cn]
  | n + 1, h, hp, hr => by
    have h1 := cn_add n (fun i hi => h i (by omega)) hp hr
    simp only [cn]
    by_cases e : m = n
    · subst e
      rw [h1, hp, hr]
      simp
    · rw [h1, h n (by omega) (by omega)]
      by_cases e2 : m < n
      · rw [if_pos e2, if_pos (show m < n + 1 by omega)]
        omega
      · rw [if_neg e2, if_neg (show ¬ m < n + 1 by omega)]
        omega
theorem cn_below {N : Nat} : ∀ n, cn (fun i => decide (i < N)) n = if n ≤ N then n else N
  | 0 => by simp [cn]
  | n + 1 => by
    simp only [cn, decide_eq_true_eq]
    rw [cn_below n]
    by_cases h : n < N
    · rw [if_pos h, if_pos (by omega), if_pos (by omega)]
    · rw [if_neg h]
      by_cases h2 : n ≤ N
      · rw [if_pos h2, if_neg (by omega)]
        omega
      · rw [if_neg h2, if_neg (by omega), Nat.add_zero]
/-- the class behind r rounds -/
def DJ (nd : Nat → Int) (N a r : Nat) (F : Nat → Int) (S : Nat → Bool) : Prop := (∀ y, y < 8 → 0 ≤ F y ∧ F y ≤ 10000000) ∧ (∀ y, y < 8 → N ≤ y → F y = 0) ∧ F a = 10000000 ∧ (∀ s l, s < 8 → l < 8 → S s = true → S l = false → F l ≤ F s) ∧ (∀ x y, x < 8 → y < 8 → S x = true → pw (F x) (nd (8 * y + x)) ≤ F y) ∧ cn S 8 = r ∧ ∀ y, y < 8 → F y ≤ TF nd N a r y
def pX (nd : Nat → Int) (F : Nat → Int) (S : Nat → Bool) (m i : Nat) (u : Nat) : Int := if u < i ∧ S u = false then (if F u < pw (F m) (nd (8 * u + m)) then pw (F m) (nd (8 * u + m)) else F u) else F u
theorem pX_o {nd : Nat → Int} {F : Nat → Int} {S : Nat → Bool} {m i u : Nat} (h : u ≠ i) : pX nd F S m (i + 1) u = pX nd F S m i u := by
  unfold pX
  by_cases h2 : u < i ∧ S u = false
  · have h3 : u < i + 1 ∧ S u = false := ⟨by omega, h2.2⟩
    simp only [if_pos h2, if_pos h3]
  · have h3 : ¬ (u < i + 1 ∧ S u = false) := fun q => h2 ⟨by omega, q.2⟩
    simp only [if_neg h2, if_neg h3]
theorem pX_t {nd : Nat → Int} {F : Nat → Int} {S : Nat → Bool} {m i u : Nat} (h : S u = true) : pX nd F S m i u = F u := by
  unfold pX
  rw [if_neg (by rw [h]; simp)]
theorem DJ_step {nd : Nat → Int} {N a r m : Nat} {F : Nat → Int} {S S2 : Nat → Bool} (hR : R9 nd) (hz : ∀ a b : Nat, a < 8 → b < 8 → (N ≤ a ∨ N ≤ b ∨ a = b) → nd (8 * a + b) = 0) (ha : a < N) (hN : N ≤ 8) (h : DJ nd N a r F S) (hm : m < 8) (hSm : S m = false) (hmx : ∀ t, t < 8 → S t = false → F t ≤ F m) (hS2 : ∀ i, i < 8 → S2 i = (S i || decide (m = i))) : DJ nd N a (r + 1) (pX nd F S2 m 8) S2 := by
  obtain ⟨d1, d2, d3, d4, d5, d6, d7⟩ := h
  have P : ∀ u, u < 8 → 0 ≤ pw (F m) (nd (8 * u + m)) ∧ pw (F m) (nd (8 * u + m)) ≤ F m := fun u hu => by
    have := pw_bd (d1 m hm).1 (hR.at hu hm)
    omega
  have S2m : S2 m = true := by rw [hS2 m hm]; simp
  have S2o : ∀ i, i < 8 → S2 i = false → S i = false ∧ i ≠ m := fun i hi h => by
    rw [hS2 i hi, Bool.or_eq_false_iff, decide_eq_false_iff_not] at h
    exact ⟨h.1, fun e => h.2 e.symm⟩
  have S2i : ∀ i, i < 8 → S2 i = true → S i = true ∨ i = m := fun i hi h => by
    rw [hS2 i hi, Bool.or_eq_true, decide_eq_true_eq] at h
    rcases h with h | h
    · exact Or.inl h
    · exact Or.inr h.symm
  have ge : ∀ u, F u ≤ pX nd F S2 m 8 u := fun u => by
    unfold pX
    split
    · split <;> omega
    · omega
  have set : ∀ u, S2 u = true → pX nd F S2 m 8 u = F u := fun u h => by
    unfold pX
    rw [if_neg (by rw [h]; simp)]
  have le : ∀ u, u < 8 → S2 u = false → pX nd F S2 m 8 u ≤ F m := fun u hu h => by
    have := hmx u hu (S2o u hu h).1
    have := P u hu
    unfold pX
    split
    · split <;> omega
    · omega
  refine ⟨fun y hy => ?_, fun y hy hNy => ?_, ?_, fun s l hs hl h1 h2 => ?_, fun x y hx hy h1 => ?_, ?_, fun y hy => ?_⟩
  · have h1 := ge y
    have h2 := d1 y hy
    have h3 := d1 m hm
    cases h : S2 y
    · have := le y hy h
      omega
    · rw [set y h]
      omega
  · have e : nd (8 * y + m) = 0 := hz y m hy hm (Or.inl hNy)
    unfold pX
    rw [e, pw_zero, d2 y hy hNy]
    split
    · split <;> omega
    · rfl
  · have h1 := ge a
    have h2 := d1 m hm
    cases h : S2 a
    · have := le a (by omega) h
      omega
    · rw [set a h]
      exact d3
  · rw [set s h1]
    have := le l hl h2
    rcases S2i s hs h1 with h | h
    · have := d4 s m hs hm h hSm
      omega
    · rw [h]
      exact this
  · rw [set x h1]
    have g := ge y
    rcases S2i x hx h1 with h | h
    · have := d5 x y hx hy h
      omega
    · rw [h]
      have := P y hy
      cases hy2 : S2 y
      · unfold pX
        rw [if_pos ⟨hy, hy2⟩]
        split <;> omega
      · rw [set y hy2]
        rcases S2i y hy hy2 with q | q
        · have := d4 y m hy hm q hSm
          omega
        · rw [q] at this ⊢
          omega
  · rw [cn_add (P := S) (R := S2) (m := m) 8 (fun i hi hne => by
      rw [hS2 i hi, decide_eq_false (fun e => hne e.symm), Bool.or_false]) hSm S2m, if_pos hm, d6]
  · have t1 : TF nd N a r y ≤ TF nd N a (r + 1) y := TF_up
    have t2 := d7 y hy
    have t3 : pw (F m) (nd (8 * y + m)) ≤ TF nd N a (r + 1) y := by
      by_cases hmN : m < N
      · exact Int.le_trans (pw_mono (d1 m hm).1 (d7 m hm) (hR.at hy hm).1) ((mxT_ge N).2 m hmN)
      · rw [hz y m hy hm (by omega), pw_zero]
        exact TF_bd _ _
    unfold pX
    split
    · split <;> omega
    · omega
theorem DJ_end {nd : Nat → Int} {N a : Nat} {F : Nat → Int} {S : Nat → Bool} (hR : R9 nd) (hN : N ≤ 8) (ha : a < N) (h : DJ nd N a N F S) : FX nd N a F := by
  obtain ⟨d1, d2, d3, d4, d5, d6, d7⟩ := h
  refine ⟨d1, d2, d3, ⟨fun y hy => ?_, fun x y hx hy => ?_⟩, fun y hy => Int.le_trans (d7 y hy) (TF_le hN)⟩
  · unfold fz0
    split
    next e => rw [e, d3]; omega
    next => exact (d1 y hy).1
  · cases hs : S x
    · have : F x = 0 := by
        rcases Classical.em (∃ z, z < 8 ∧ N ≤ z ∧ S z = true) with ⟨z, z1, z2, z3⟩ | q
        · have h1 := d4 z x z1 (by omega) z3 hs
          rw [d2 z z1 z2] at h1
          have := (d1 x (by omega)).1
          omega
        · exfalso
          have := cn_lt (P := S) (R := fun i => decide (i < N)) (k := x) 8 (by omega) (fun i hi hp => by
            rw [decide_eq_true_eq]
            by_cases e : i < N
            · exact e
            · exact absurd ⟨i, hi, by omega, hp⟩ q) hs (by simpa using hx)
          rw [cn_below, d6] at this
          split at this <;> omega
      rw [this, zero_pw]
      exact (d1 y hy).1
    · exact d5 x y (by omega) hy hs
section SPREAD
variable {sc : Nat → Int} {ar : Nat → Nat → Int} {Q : Option mV → mH → Prop} {d : Nat} {N a : Nat} {nd : Nat → Int}
theorem ct_isLeft {t : Nat} {S : Nat → Bool} (ht : t < 8) (hS : sc 161 = ((bm S 8 : Nat) : Int)) (k : Q (some (vI (b2 (!S t)))) (sc, ar)) : Ev d M_Spread_isLeft (0, [some (vO 10), some (vI t)], [], (sc, ar)) Q := by
  refine Ev.deep (Nat.zero_le d) (sg_Spread_isLeft_0 ?_)
  rw [hS]
  refine ⟨bt_inR (bm_lt 8 (by omega)) ht, fun c => ?_, fun c => ?_⟩
  · rw [(bm_ne ht).mp c] at k
    exact k
  · have : S t = false := by
      cases h : S t
      · rfl
      · exact absurd ((bm_ne ht).mpr h) c
    rw [this] at k
    exact k
theorem lp_strongest {S : Nat → Bool} {F : Nat → Int} (hS : sc 161 = ((bm S 8 : Nat) : Int)) (hF : ar 160 = F) (hb : ∀ y, y < 8 → 0 ≤ F y ∧ F y ≤ 10000000) (hx : ∃ t, t < 8 ∧ S t = false) (k : ∀ m : Nat, m < 8 → S m = false → (∀ t, t < 8 → S t = false → F t ≤ F m) → Q (some (vI m)) (sc, ar)) :
    ∀ j i : Nat, i + j = 8 → ∀ (m : Nat) (w : Int), ((w = -1 ∧ ∀ t, t < i → S t = true) ∨ (m < i ∧ S m = false ∧ w = F m ∧ ∀ t, t < i → S t = false → F t ≤ F m)) → Ev 1 M_Spread_strongestLeft (6, [some (vO 10), some (vI m), some (vI w), some (vI i)], [], (sc, ar)) Q := by
  intro j
  induction j with
  | zero =>
    intro i hi m w h
    have : i = 8 := by omega
    subst this
    refine sg_Spread_strongestLeft_6 ⟨by omega, fun _ => ?_, fun c => by omega⟩
    rcases h with ⟨_, h⟩ | ⟨h1, h2, _, h4⟩
    · obtain ⟨t, ht, hs⟩ := hx
      rw [h t ht] at hs
      cases hs
    · exact k m h1 h2 h4
  | succ j ih =>
    intro i hi m w h
    have hw : -1 ≤ w ∧ w ≤ 10000000 := by
      rcases h with ⟨h, _⟩ | ⟨h1, _, h, _⟩
      · omega
      · have := hb m (by omega)
        omega
    have hbi := hb i (by omega)
    refine sg_Spread_strongestLeft_6 ⟨by omega, fun c => by omega, fun _ => ct_isLeft (by omega) hS (sg_Spread_strongestLeft_17 ⟨b2_in _, fun c => ?_, fun c => ⟨by omega, by omega, ?_⟩⟩)⟩
    · have hs : S i = true := by
        have := b2_0.mp c
        simpa using this
      refine ih (i + 1) (by omega) m w ?_
      rcases h with ⟨h, h2⟩ | ⟨h1, h2, h3, h4⟩
      · refine Or.inl ⟨h, fun t ht => ?_⟩
        by_cases e : t = i
        · rw [e]; exact hs
        · exact h2 t (by omega)
      · refine Or.inr ⟨by omega, h2, h3, fun t ht hst => ?_⟩
        by_cases e : t = i
        · rw [e, hs] at hst; cases hst
        · exact h4 t (by omega) hst
    · have hs : S i = false := by
        have := b2_1.mp c
        simpa using this
      rw [hF, Int.toNat_natCast]
      refine ⟨by omega, by omega, fun c => ?_, fun c => ⟨by omega, by omega, ?_⟩⟩
      · refine ih (i + 1) (by omega) m w ?_
        rcases h with ⟨h, h2⟩ | ⟨h1, h2, h3, h4⟩
        · omega
        · refine Or.inr ⟨by omega, h2, h3, fun t ht hst => ?_⟩
          by_cases e : t = i
          · rw [e]; omega
          · exact h4 t (by omega) hst
      · refine ih (i + 1) (by omega) i (F i) (Or.inr ⟨by omega, hs, rfl, fun t ht hst => ?_⟩)
        by_cases e : t = i
        · rw [e]; omega
        · rcases h with ⟨h, h2⟩ | ⟨h1, h2, h3, h4⟩
          · rw [h2 t (by omega)] at hst; cases hst
          · have := h4 t (by omega) hst
            omega
theorem ct_strongest {S : Nat → Bool} {F : Nat → Int} (hS : sc 161 = ((bm S 8 : Nat) : Int)) (hF : ar 160 = F) (hb : ∀ y, y < 8 → 0 ≤ F y ∧ F y ≤ 10000000) (hx : ∃ t, t < 8 ∧ S t = false) (k : ∀ m : Nat, m < 8 → S m = false → (∀ t, t < 8 → S t = false → F t ≤ F m) → Q (some (vI m)) (sc, ar)) : Ev (d + 1) M_Spread_strongestLeft (0, [some (vO 10), none, none, none], [], (sc, ar)) Q :=
  Ev.deep (Nat.le_add_left 1 d) (sg_Spread_strongestLeft_0 (lp_strongest hS hF hb hx k 8 0 (by omega) 0 (-1) (Or.inl ⟨rfl, fun t h => by omega⟩)))
theorem ct_forceAt {t : Nat} (ht : t < 8) (k : Q (some (vI (ar 160 t))) (sc, ar)) : Ev (d + 1) M_Spread_forceAt (0, [some (vO 10), some (vI t)], [], (sc, ar)) Q := by
  refine Ev.deep (Nat.le_add_left 1 d) (sg_Spread_forceAt_0 (ct_valueOf (by decide) (by omega) (by show (t : Int) < 8; omega) (by show (8 : Int) < _; omega) (sg_Spread_forceAt_8 ?_)))
  rw [Int.toNat_natCast]
  exact k
theorem lp_passOn {S : Nat → Bool} {F : Nat → Int} {m : Nat} {a0 : Nat → Nat → Int} (hR : R9 nd) (hnd : a0 16 = nd) (hS : sc 161 = ((bm S 8 : Nat) : Int)) (hm : m < 8) (hSm : S m = true) (hb : ∀ y, y < 8 → 0 ≤ F y ∧ F y ≤ 10000000) (k : Q none (sc, up a0 160 (pX nd F S m 8))) :
    ∀ j i : Nat, i + j = 8 → Ev 2 M_Spread_passOn (2, [some (vO 10), some (vI m), some (vO 1), some (vI i), none], [], (sc, up a0 160 (pX nd F S m i))) Q := by
  intro j
  induction j with
  | zero =>
    intro i hi
    have : i = 8 := by omega
    subst this
    exact sg_Spread_passOn_2 ⟨by omega, fun _ => k, fun c => by omega⟩
  | succ j ih =>
    intro i hi
    have h1 := ih (i + 1) (by omega)
    refine sg_Spread_passOn_2 ⟨by omega, fun c => by omega, fun _ => ct_isLeft (by omega) hS (sg_Spread_passOn_13 ⟨b2_in _, fun c => ?_, fun c => ct_forceAt hm (sg_Spread_passOn_21 (ct_getN (by omega) (by omega) (sg_Spread_passOn_27 ?_)))⟩)⟩
    · have hs : S i = true := by
        have := b2_0.mp c
        simpa using this
      rw [show pX nd F S m (i + 1) = pX nd F S m i by
        funext u
        by_cases e : u = i
        · rw [e, pX_t hs, pX_t hs]
        · exact pX_o e] at h1
      exact h1
    · have hs : S i = false := by
        have := b2_1.mp c
        simpa using this
      have em : pX nd F S m i m = F m := by
        unfold pX
        rw [if_neg (by rw [hSm]; simp)]
      have ei : pX nd F S m i i = F i := by
        unfold pX
        rw [if_neg (by omega)]
      rw [up_ne _ _ (show (16 : Nat) ≠ 160 by decide), hnd, show (8 * (i : Int) + (m : Int)).toNat = 8 * i + m by omega]
      simp only [up_eq, up_up, Int.toNat_natCast]
      rw [em, ei]
      have hp := pw_bd (hb m hm).1 (hR.at (show i < 8 by omega) hm)
      have hbm := hb m hm
      have hbi := hb i (by omega)
      have ep : Int.tdiv (nd (8 * i + m) * F m) 10 = pw (F m) (nd (8 * i + m)) := by
        unfold pw
        rw [Int.mul_comm]
      have ep2 : Int.tdiv (F m * nd (8 * i + m)) 10 = pw (F m) (nd (8 * i + m)) := rfl
      first | rw [ep] | rw [ep2]
      have e2 : up (pX nd F S m i) i (if F i < pw (F m) (nd (8 * i + m)) then pw (F m) (nd (8 * i + m)) else F i) = pX nd F S m (i + 1) := by
        funext u
        by_cases e : u = i
        · rw [e, up_eq]
          unfold pX
          rw [if_pos (show i < i + 1 ∧ S i = false from ⟨by omega, hs⟩)]
        · rw [up_ne _ _ e, pX_o e]
      rw [e2]
      refine ⟨?_, by omega, by omega, by omega, by omega, by omega, by omega, h1⟩
      first | omega | (rw [Int.mul_comm]; omega)
theorem ct_passOn {S : Nat → Bool} {F : Nat → Int} {m : Nat} (hR : R9 nd) (hnd : ar 16 = nd) (hF : ar 160 = F) (hS : sc 161 = ((bm S 8 : Nat) : Int)) (hm : m < 8) (hSm : S m = true) (hb : ∀ y, y < 8 → 0 ≤ F y ∧ F y ≤ 10000000) (k : Q none (sc, up ar 160 (pX nd F S m 8))) : Ev (d + 2) M_Spread_passOn (0, [some (vO 10), some (vI m), some (vO 1), none, none], [], (sc, ar)) Q := by
  refine Ev.deep (Nat.le_add_left 2 d) (sg_Spread_passOn_0 ?_)
  have := lp_passOn (sc := sc) (Q := Q) hR hnd hS hm hSm hb k 8 0 (by omega)
  rw [show pX nd F S m 0 = ar 160 by
    rw [hF]
    funext u
    unfold pX
    rw [if_neg (by omega)], up_id] at this
  exact this
theorem lp_from {s0 : Nat → Int} {a0 : Nat → Nat → Int} (hR : R9 nd) (hz : ∀ a b : Nat, a < 8 → b < 8 → (N ≤ a ∨ N ≤ b ∨ a = b) → nd (8 * a + b) = 0) (hN : N ≤ 8) (ha : a < N) (hnd : a0 16 = nd) (k : ∀ F v, FX nd N a F → Q none (up s0 161 v, up a0 160 F)) :
    ∀ j r : Nat, r + j = N → ∀ F S, DJ nd N a r F S → Ev 3 M_Spread_from (43, [some (vO 10), some (vI a), some (vI N), some (vO 1), some (vI r), none], [], (up s0 161 (bm S 8 : Nat), up a0 160 F)) Q := by
  intro j
  induction j with
  | zero =>
    intro r hr F S h
    have : r = N := by omega
    subst this
    exact sg_Spread_from_43 ⟨by omega, by omega, fun _ => k F _ (DJ_end hR hN ha h), fun c => by omega⟩
  | succ j ih =>
    intro r hr F S h
    have hx : ∃ t, t < 8 ∧ S t = false := by
      rcases Classical.em (∃ t, t < 8 ∧ S t = false) with q | q
      · exact q
      · exfalso
        have h6 := h.2.2.2.2.2.1
        have := cn_le (P := fun i => decide (i < 8)) (R := S) 8 (fun i hi _ => by
          cases hs : S i
          · exact absurd ⟨i, hi, hs⟩ q
          · rfl)
        rw [cn_below, h6] at this
        simp at this
        omega
    refine sg_Spread_from_43 ⟨by omega, by omega, fun c => by omega, fun _ => ct_strongest (S := S) (F := F) (up_eq _ _ _) (up_eq _ _ _) h.1 hx (fun m hm hSm hmx => sg_Spread_from_53 ?_)⟩
    rw [up_eq, bm_one hm, bm_or]
    simp only [up_up]
    have h2 := DJ_step (S2 := fun i => S i || decide (m = i)) hR hz ha hN h hm hSm hmx (fun i hi => rfl)
    refine ct_passOn (S := fun i => S i || decide (m = i)) (F := F) hR (by rw [up_ne _ _ (by decide)]; exact hnd) (up_eq _ _ _) (up_eq _ _ _) hm (by simp) h.1 (sg_Spread_from_75 ?_)
    simp only [up_up]
    exact ih (r + 1) (by omega) _ _ h2
theorem lp_from0 {s0 : Nat → Int} {a0 : Nat → Nat → Int} (ha : a < 8) (k : ∀ f, (∀ y, y < 8 → f y = fz0 a y) → Ev 3 M_Spread_from (43, [some (vO 10), some (vI a), some (vI N), some (vO 1), some (vI 0), none], [], (up s0 161 0, up a0 160 f)) Q) :
    ∀ j i : Nat, i + j = 8 → ∀ f, (∀ y, y < i → f y = fz0 a y) → Ev 3 M_Spread_from (3, [some (vO 10), some (vI a), some (vI N), some (vO 1), some (vI i), none], [], (s0, up a0 160 f)) Q := by
  intro j
  induction j with
  | zero =>
    intro i hi f h
    have : i = 8 := by omega
    subst this
    exact sg_Spread_from_3 ⟨by omega, fun _ => k f h, fun c => by omega⟩
  | succ j ih =>
    intro i hi f h
    have go : ∀ v, v = fz0 a i → Ev 3 M_Spread_from (3, [some (vO 10), some (vI a), some (vI N), some (vO 1), some (vI ((i : Int) + 1)), none], [], (s0, up a0 160 (up f i v))) Q := by
      intro v hv
      refine ih (i + 1) (by omega) _ (fun y hy => ?_)
      by_cases e : y = i
      · rw [e, up_eq, hv]
      · rw [up_ne _ _ e]
        exact h y (by omega)
    refine sg_Spread_from_3 ⟨by omega, fun c => by omega, fun _ => ⟨by omega, by omega, fun c => ⟨by omega, by omega, ?_⟩, fun c => ⟨by omega, by omega, ?_⟩⟩⟩
    · simp only [up_eq, up_up, Int.toNat_natCast]
      refine go _ ?_
      unfold fz0
      rw [if_neg (by omega)]
    · simp only [up_eq, up_up, Int.toNat_natCast]
      refine go _ ?_
      unfold fz0
      rw [if_pos (by omega)]
theorem ct_from (hR : R9 nd) (hz : ∀ a b : Nat, a < 8 → b < 8 → (N ≤ a ∨ N ≤ b ∨ a = b) → nd (8 * a + b) = 0) (hN : N ≤ 8) (ha : a < N) (hnd : ar 16 = nd) (k : ∀ F v, FX nd N a F → Q none (up sc 161 v, up ar 160 F)) : Ev (d + 3) M_Spread_from (0, [some (vO 10), some (vI a), some (vI N), some (vO 1), none, none], [], (sc, ar)) Q := by
  refine Ev.deep (Nat.le_add_left 3 d) (sg_Spread_from_0 ?_)
  have := lp_from0 (Q := Q) (N := N) (s0 := sc) (a0 := ar) (a := a) (by omega) (fun f hf => by
    have := lp_from (Q := Q) (s0 := sc) (a0 := ar) hR hz hN ha hnd k N 0 (by omega) f (fun _ => false) ⟨fun y hy => by
        rw [hf y hy]
        unfold fz0
        split <;> omega, fun y hy hNy => by
        rw [hf y hy]
        unfold fz0
        rw [if_neg (by omega)], by
        rw [hf a (by omega)]
        unfold fz0
        rw [if_pos rfl], fun s l _ _ h => Bool.noConfusion h, fun x y _ _ h => Bool.noConfusion h, cn_no 8 (fun _ _ => rfl), fun y hy => by
        rw [hf y hy]
        exact Int.le_refl _⟩
    rw [show ((bm (fun _ => false) 8 : Nat) : Int) = 0 by decide] at this
    exact this) 8 0 (by omega) (ar 160) (fun y h => by omega)
  rw [up_id] at this
  exact this
end SPREAD

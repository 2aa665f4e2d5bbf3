/-! THE LEAST ORDER: the reference; guesses and places of the told order, both -/
section LEASTM
variable {sc : Nat → Int} {ar : Nat → Nat → Int} {Q : Option mV → mH → Prop} {d : Nat} {N : Nat} {nd : Nat → Int}
def mv (nd : Nat → Int) (N : Nat) (g : Nat → Int) (s i : Nat) : Int := if s = 2 ^ N - 1 then 0 else md (nin s) (dpF nd N g s) i
theorem lp_leastOfI {a0 : Nat → Nat → Int} {g : Nat → Int} {s : Nat} (hN : N ≤ 8) (hs : s < 2 ^ N) (hn : sc 177 = (N : Int)) (hnd : a0 179 = nd) (hz : ∀ t, t < N → nd (8 * t + t) = 0) (hF : ∀ t, t < N → s.testBit t = false → 0 ≤ dpF nd N g s t ∧ dpF nd N g s t < 1000000) (k : Ev 1 M_Md_leastOf (11, [some (vO 11), some (vI ((2 ^ N : Nat) - 1 : Int)), some (vI ((s : Int) + (-1))), none, none], [], (sc, up a0 182 (up g s (mv nd N g s N)))) Q) :
    ∀ j i : Nat, i + j = N → Ev 1 M_Md_leastOf (34, [some (vO 11), some (vI ((2 ^ N : Nat) - 1 : Int)), some (vI s), some (vI i), none], [], (sc, up a0 182 (up g s (mv nd N g s i)))) Q := by
  have h2 := bt_2 N (by omega)
  have hs256 : s < 256 := by omega
  intro j
  induction j with
  | zero =>
    intro i hi
    have : i = N := by omega
    subst this
    exact sg_Md_leastOf_34 ⟨by omega, by omega, fun _ => k, fun c => by omega⟩
  | succ j ih =>
    intro i hi
    have h1 := ih (i + 1) (by omega)
    refine sg_Md_leastOf_34 ⟨by omega, by omega, fun c => by omega, fun _ => ⟨bs_inR hs256 (by omega), fun c => ?_, fun c => ?_⟩⟩
    · have hb := (bs_ne hs256 (by omega)).mp c
      have hp : nin s i = false := by unfold nin; rw [hb]; rfl
      have e : mv nd N g s (i + 1) = mv nd N g s i := by
        unfold mv
        simp [md, hp]
      rw [e] at h1
      exact h1
    · have hb : s.testBit i = false := by
        cases h : s.testBit i
        · rfl
        · exact absurd ((bs_ne hs256 (by omega)).mpr h) c
      have hp := nin_iff.mpr hb
      have hne : s ≠ 2 ^ N - 1 := fun e => by
        rw [e, bt_top N (by omega) i (by omega)] at hb
        cases hb
      have hgt := bt_gt s hs256 i (by omega) hb
      have hlt := bt_lt s hs256 i (by omega)
      have hv := hF i (by omega) hb
      have em : mv nd N g s i = md (nin s) (dpF nd N g s) i := if_neg hne
      have em1 : mv nd N g s (i + 1) = if md (nin s) (dpF nd N g s) i = -9 then dpF nd N g s i else if md (nin s) (dpF nd N g s) i ≤ dpF nd N g s i then md (nin s) (dpF nd N g s) i else dpF nd N g s i := by
        unfold mv
        rw [if_neg hne]
        simp only [md, hp, if_true]
      have hm := md_mn (P := nin s) (F := dpF nd N g s) i (fun t ht hpp => hF t (by omega) (nin_iff.mp hpp))
      have htop := mnA_top (P := nin s) (F := dpF nd N g s) i
      have hmr : -9 ≤ md (nin s) (dpF nd N g s) i ∧ md (nin s) (dpF nd N g s) i ≤ 1000000 := by
        rcases hm with ⟨_, a, _⟩ | ⟨a, b, _⟩ <;> omega
      refine ct_guessed hN (by omega) hs256 hn (by rw [up_ne _ _ (by decide)]; exact hnd) (hz i (by omega)) (sg_Md_leastOf_56 ?_)
      rw [bt_or s hs256 i (by omega)]
      simp only [up_eq, up_up, Int.toNat_natCast]
      rw [up_ne g _ (show s ||| 2 ^ i ≠ s by omega), show G nd N i s + g (s ||| 2 ^ i) = dpF nd N g s i from Int.add_comm _ _, em]
      rw [em1] at h1
      refine ⟨by omega, by omega, by omega, by omega, by omega, fun c => ⟨by omega, by omega, ?_⟩, fun c => ⟨by omega, by omega, by omega, by omega, fun c2 => ⟨by omega, by omega, by omega, by omega, ?_⟩, fun c2 => ⟨by omega, by omega, ?_⟩⟩⟩
      · rw [if_pos c] at h1
        exact h1
      · rw [if_neg c, if_pos c2] at h1
        exact h1
      · rw [if_neg c, if_neg c2] at h1
        exact h1
theorem lp_leastOf {f0 : Nat → Int} {a0 : Nat → Nat → Int} (hR : R9 nd) (hN : N ≤ 8) (hn : sc 177 = (N : Int)) (hnd : a0 179 = nd) (hz : ∀ t, t < N → nd (8 * t + t) = 0) (k : Q (some (vI (LV nd N 0))) (sc, up a0 182 (dp nd N f0 (2 ^ N)))) : ∀ r j : Nat, j + r = 2 ^ N → Ev 1 M_Md_leastOf (11, [some (vO 11), some (vI ((2 ^ N : Nat) - 1 : Int)), some (vI ((2 ^ N : Nat) - 1 - j : Int)), none, none], [], (sc, up a0 182 (dp nd N f0 j))) Q := by
  have h2 := bt_2 N (by omega)
  intro r
  induction r with
  | zero =>
    intro j hj
    have : j = 2 ^ N := by omega
    subst this
    refine sg_Md_leastOf_11 ⟨by omega, fun _ => ?_, fun c => by omega⟩
    rw [up_eq]
    rw [show (0 : Int).toNat = 0 from rfl, LV_of hN f0 (by omega)]
    exact k
  | succ r ih =>
    intro j hj
    have h1 := ih (j + 1) (by omega)
    obtain ⟨s, hs⟩ : ∃ s : Nat, s = 2 ^ N - 1 - j := ⟨_, rfl⟩
    have es : ((2 ^ N : Nat) - 1 - j : Int) = (s : Int) := by omega
    rw [es]
    have hs256 : s < 256 := by omega
    have hF : ∀ t, t < N → s.testBit t = false → 0 ≤ dpF nd N (dp nd N f0 j) s t ∧ dpF nd N (dp nd N f0 j) s t < 1000000 := by
      intro t ht hb
      have hgt := bt_gt s hs256 t (by omega) hb
      have hin := bt_in N (by omega) s hs256 (by omega) t ht
      have hv := dp_bd hR hN (f0 := f0) j (by omega) (s ||| 2 ^ t) hin (by omega)
      have hG := G_bd hR hN (show t < 8 by omega) s
      unfold dpF
      omega
    have eN : mv nd N (dp nd N f0 j) s N = dpV nd N (dp nd N f0 j) s := by
      unfold mv dpV
      split
      · rfl
      next hne =>
        rcases md_mn (P := nin s) (F := dpF nd N (dp nd N f0 j) s) N (fun t ht hpp => hF t ht (nin_iff.mp hpp)) with ⟨a, _, _⟩ | ⟨_, b, _⟩
        · obtain ⟨t, ht, hb⟩ := bt_all N (by omega) s hs256 (by omega)
          have := a t ht
          rw [nin_iff.mpr hb] at this
          cases this
        · exact b
    have fin : ∀ v, v = mv nd N (dp nd N f0 j) s 0 → Ev 1 M_Md_leastOf (34, [some (vO 11), some (vI ((2 ^ N : Nat) - 1 : Int)), some (vI s), some (vI 0), none], [], (sc, up a0 182 (up (dp nd N f0 j) s v))) Q := by
      intro v hv
      rw [hv]
      refine lp_leastOfI hN (by omega) hn hnd hz hF ?_ N 0 (by omega)
      rw [eN, show (s : Int) + (-1) = (2 ^ N : Nat) - 1 - ((j + 1 : Nat) : Int) by omega]
      simp only [dp] at h1
      rw [← hs] at h1
      exact h1
    refine sg_Md_leastOf_11 ⟨by omega, fun c => by omega, fun _ => ⟨by omega, by omega, fun c => ⟨by omega, by omega, ?_⟩, fun c => ⟨by omega, by omega, ?_⟩⟩⟩
    · simp only [up_eq, up_up, Int.toNat_natCast]
      refine fin _ ?_
      unfold mv
      rw [if_neg (by omega)]
      rfl
    · simp only [up_eq, up_up, Int.toNat_natCast]
      refine fin _ ?_
      unfold mv
      rw [if_pos (by omega)]
theorem ct_leastOf (hR : R9 nd) (hN : N ≤ 8) (hn : sc 177 = (N : Int)) (hnd : ar 179 = nd) (hz : ∀ t, t < N → nd (8 * t + t) = 0) (k : ∀ f : Nat → Int, (∀ s, s < 2 ^ N → f s = LV nd N s) → Q (some (vI (LV nd N 0))) (sc, up ar 182 f)) : Ev (d + 1) M_Md_leastOf (0, [some (vO 11), none, none, none, none], [], (sc, ar)) Q := by
  refine Ev.deep (Nat.le_add_left 1 d) (sg_Md_leastOf_0 ?_)
  rw [hn, bt_shl N (by omega)]
  have := lp_leastOf (sc := sc) (a0 := ar) (Q := Q) (f0 := ar 182) hR hN hn hnd hz (k _ (fun s hs => LV_of hN _ hs)) (2 ^ N) 0 (by omega)
  simp only [dp, up_id] at this
  rw [show ((2 ^ N : Nat) - 1 - ((0 : Nat) : Int) : Int) = (2 ^ N : Nat) - 1 by omega] at this
  exact this
theorem lp_leastRowI {s p : Nat} (hR : R9 nd) (hN : N ≤ 8) (hs : s < 2 ^ N) (hn : sc 177 = (N : Int)) (hnd : ar 179 = nd) (hz : ∀ t, t < N → nd (8 * t + t) = 0) (hf : ∀ u, u < 2 ^ N → ar 182 u = LV nd N u) (hp : p < 8) (k : Ev 2 M_Md_leastRow (9, [some (vO 11), some (vI (bOr s (bShl 1 (lw (tqP nd N s) N N)))), some (vI ((p : Int) + 1)), none, none], [], (sc, up ar 188 (up (ar 188) p (lw (tqP nd N s) N N)))) Q) :
    ∀ r j : Nat, j + r = N → Ev 2 M_Md_leastRow (28, [some (vO 11), some (vI s), some (vI p), some (vI (lw (tqP nd N s) N j)), some (vI ((N : Int) - 1 - j))], [], (sc, ar)) Q := by
  have h2 := bt_2 N (by omega)
  have hs256 : s < 256 := by omega
  intro r
  induction r with
  | zero =>
    intro j hj
    have : j = N := by omega
    subst this
    refine sg_Md_leastRow_28 ⟨by omega, fun _ => ⟨by omega, by omega, ?_⟩, fun c => by omega⟩
    exact k
  | succ r ih =>
    intro j hj
    have h1 := ih (j + 1) (by omega)
    obtain ⟨t, ht⟩ : ∃ t : Nat, t = N - 1 - j := ⟨_, rfl⟩
    rw [show (N : Int) - 1 - j = (t : Int) by omega]
    rw [show (N : Int) - 1 - ((j + 1 : Nat) : Int) = (t : Int) + (-1) by omega] at h1
    simp only [lw] at h1
    rw [← ht] at h1
    refine sg_Md_leastRow_28 ⟨by omega, fun c => by omega, fun _ => ⟨bs_inR hs256 (by omega), fun c => ?_, fun c => ?_⟩⟩
    · have hb := (bs_ne hs256 (by omega)).mp c
      rw [if_neg (fun q => by rw [(tqP_iff.mp q).1] at hb; cases hb)] at h1
      exact h1
    · have hb : s.testBit t = false := by
        cases h : s.testBit t
        · rfl
        · exact absurd ((bs_ne hs256 (by omega)).mpr h) c
      have hlt := bt_lt s hs256 t (by omega)
      have hin := bt_in N (by omega) s hs256 hs t (by omega)
      have hv1 := LV_bd hR hN hin
      have hv2 := LV_bd hR hN hs
      have hG := G_bd hR hN (show t < 8 by omega) s
      refine ct_guessed hN (by omega) hs256 hn hnd (hz t (by omega)) (sg_Md_leastRow_49 ?_)
      rw [bt_or s hs256 t (by omega)]
      simp only [Int.toNat_natCast]
      rw [hf _ hin, hf _ hs, Int.add_comm]
      refine ⟨by omega, by omega, by omega, by omega, by omega, by omega, fun c => ?_, fun c => ?_⟩
      · rw [if_neg (fun q => c (tqP_iff.mp q).2)] at h1
        exact h1
      · rw [if_pos (tqP_iff.mpr ⟨hb, Classical.not_not.mp c⟩)] at h1
        exact h1
theorem lp_leastRow (hN : N ≤ 8) (hR : R9 nd) {a0 : Nat → Nat → Int} (hn : sc 177 = (N : Int)) (hnd : a0 179 = nd) (hz : ∀ t, t < N → nd (8 * t + t) = 0) (hf : ∀ u, u < 2 ^ N → a0 182 u = LV nd N u) {f : Nat → Int} (k : Q none (sc, up a0 188 (wr f (LO nd N) N))) : ∀ j p : Nat, p + j = N → Ev 2 M_Md_leastRow (9, [some (vO 11), some (vI (setR nd N p : Nat)), some (vI p), none, none], [], (sc, up a0 188 (wr f (LO nd N) p))) Q := by
  have h2 := bt_2 N (by omega)
  intro j
  induction j with
  | zero =>
    intro p hp
    have : p = N := by omega
    subst this
    exact sg_Md_leastRow_9 ⟨by omega, by omega, fun _ => k, fun c => by omega⟩
  | succ j ih =>
    intro p hp
    have h1 := ih (p + 1) (by omega)
    have hset := setR_ok hR hN p (by omega)
    have hlt := hset.2.2.1 (by omega)
    have htq := tq_ok hR hN hlt
    obtain ⟨t, t1, t2, t3⟩ := tq_ex hR hN hlt
    have elw : lw (tqP nd N (setR nd N p)) N N = (tq nd N (setR nd N p) : Int) := lw_ff N 0 (by omega) ⟨t, t1, by omega, t3⟩
    refine sg_Md_leastRow_9 ⟨by omega, by omega, fun c => by omega, fun _ => ?_⟩
    have := lp_leastRowI (sc := sc) (ar := up a0 188 (wr f (LO nd N) p)) (Q := Q) (p := p) hR hN hset.1 hn (by rw [up_ne _ _ (by decide)]; exact hnd) hz (by rw [up_ne _ _ (by decide)]; exact hf) (by omega) (by
      rw [elw, bt_or _ (by omega) _ (by omega)]
      simp only [up_eq, up_up]
      simp only [setR, wr] at h1
      exact h1) N 0 (by omega)
    simp only [lw] at this
    rw [hn]
    rw [show (N : Int) - 1 - ((0 : Nat) : Int) = (N : Int) - 1 by omega] at this
    exact this
theorem ct_leastRow (hR : R9 nd) (hN : N ≤ 8) (hn : sc 177 = (N : Int)) (hnd : ar 179 = nd) (hz : ∀ t, t < N → nd (8 * t + t) = 0) (k : ∀ f : Nat → Int, Q none (sc, up (up ar 182 f) 188 (wr (ar 188) (LO nd N) N))) : Ev (d + 2) M_Md_leastRow (0, [some (vO 11), none, none, none, none], [], (sc, ar)) Q := by
  refine Ev.deep (Nat.le_add_left 2 d) (sg_Md_leastRow_0 (ct_leastOf hR hN hn hnd hz (fun f hf => sg_Md_leastRow_4 ?_)))
  have := lp_leastRow (sc := sc) (Q := Q) (a0 := up ar 182 f) (f := ar 188) hN hR hn (by rw [up_ne _ _ (by decide)]; exact hnd) hz (by rw [up_eq]; exact hf) (k f) N 0 (by omega)
  simp only [setR, wr] at this
  rw [show up (up ar 182 f) 188 (ar 188) = up ar 182 f by
    rw [show ar 188 = up ar 182 f 188 from (up_ne _ _ (by decide)).symm, up_id]] at this
  exact this
/-! the told order's guess -/
theorem lp_guessI {od : Nat → Int} {p : Nat} (hN : N ≤ 8) (hn : sc 49 = (N : Int)) (hod : ar 48 = od) (hnd : ar 16 = nd) (ho : OD (N : Int) od) (hp : p < N) (base : Int) (k : Ev 2 M_Order_guessOf (4, [some (vO 3), some (vO 1), some (vI (base + sm (rowG nd od p) N)), some (vI ((p : Int) + 1)), none], [], (sc, ar)) Q) :
    ∀ j q : Nat, q + j = N → p < q → Ev 2 M_Order_guessOf (17, [some (vO 3), some (vO 1), some (vI (base + sm (rowG nd od p) q)), some (vI p), some (vI q)], [], (sc, ar)) Q := by
  intro j
  induction j with
  | zero =>
    intro q hq _
    have : q = N := by omega
    subst this
    exact sg_Order_guessOf_17 ⟨by omega, by omega, fun _ => k, fun c => by omega⟩
  | succ j ih =>
    intro q hq hpq
    have h1 := ih (q + 1) (by omega) (by omega)
    have o1 := ho.1 p (by omega)
    have o2 := ho.1 q (by omega)
    refine sg_Order_guessOf_17 ⟨by omega, by omega, fun c => by omega, fun _ => ct_taskAtT hn (by omega) (by omega) (sg_Order_guessOf_33 (ct_taskAtT hn (by omega) (by omega) (sg_Order_guessOf_39 (ct_getN (by rw [hod]; simp only [Int.toNat_natCast]; omega) (by rw [hod]; simp only [Int.toNat_natCast]; omega) (sg_Order_guessOf_42 ?_)))))⟩
    simp only [Int.toNat_natCast, hod, hnd]
    rw [show (8 * od p + od q).toNat = 8 * (od p).toNat + (od q).toNat by omega, Int.add_assoc]
    simp only [sm, rowG, if_pos hpq, ndo] at h1
    exact h1
theorem sm_low {f : Nat → Int} : ∀ n, (∀ i, i < n → f i = 0) → sm f n = 0
  | 0, _ => rfl
  | n + 1, h => by
    have := sm_low n (fun i hi => h i (by omega))
    have := h n (by omega)
    show sm f n + f n = 0
    omega
theorem lp_guess {od : Nat → Int} (hN : N ≤ 8) (hn : sc 49 = (N : Int)) (hod : ar 48 = od) (hnd : ar 16 = nd) (ho : OD (N : Int) od) (k : Q (some (vI (GS nd od N))) (sc, ar)) : ∀ j p : Nat, p + j = N → Ev 2 M_Order_guessOf (4, [some (vO 3), some (vO 1), some (vI (sm (fun p => sm (rowG nd od p) N) p)), some (vI p), none], [], (sc, ar)) Q := by
  intro j
  induction j with
  | zero =>
    intro p hp
    have : p = N := by omega
    subst this
    exact sg_Order_guessOf_4 ⟨by omega, by omega, fun _ => k, fun c => by omega⟩
  | succ j ih =>
    intro p hp
    have h1 := ih (p + 1) (by omega)
    refine sg_Order_guessOf_4 ⟨by omega, by omega, fun c => by omega, fun _ => ?_⟩
    have := lp_guessI hN hn hod hnd ho (show p < N by omega) (sm (fun p => sm (rowG nd od p) N) p) h1 (N - (p + 1)) (p + 1) (by omega) (by omega)
    rw [sm_low (f := rowG nd od p) (p + 1) (fun i hi => by unfold rowG; rw [if_neg (by omega)]), Int.add_zero] at this
    exact this
theorem ct_guessOf {od : Nat → Int} (hN : N ≤ 8) (hn : sc 49 = (N : Int)) (hod : ar 48 = od) (hnd : ar 16 = nd) (ho : OD (N : Int) od) (k : Q (some (vI (GS nd od N))) (sc, ar)) : Ev (d + 2) M_Order_guessOf (0, [some (vO 3), some (vO 1), none, none, none], [], (sc, ar)) Q :=
  Ev.deep (Nat.le_add_left 2 d) (sg_Order_guessOf_0 (lp_guess hN hn hod hnd ho k N 0 (by omega)))
theorem lp_guessM {tm ch od : Nat → Int} (hV : VV N tm nd ch od) (hn : sc 177 = (N : Int)) (hod : ar 181 = od) (hnd : ar 179 = nd) (k : Q (some (vI (GS nd od N))) (sc, ar)) : ∀ j p : Nat, p + j = N → Ev 1 M_Md_guessOf (6, [some (vO 11), some (vI (sm (fun p => G nd N (od p).toNat (setO od p)) p)), some (vI (setO od p : Nat)), some (vI p)], [], (sc, ar)) Q := by
  have hG := GS_eq hV
  obtain ⟨hN, -, -, hR, hz, -, -, ho⟩ := hV
  intro j
  induction j with
  | zero =>
    intro p hp
    have : p = N := by omega
    subst this
    refine sg_Md_guessOf_6 ⟨by omega, by omega, fun _ => ?_, fun c => by omega⟩
    rw [hG]
    exact k
  | succ j ih =>
    intro p hp
    have h1 := ih (p + 1) (by omega)
    have o1 := ho.1 p (by omega)
    have hs := (setO_ok hN ho p (by omega)).1
    refine sg_Md_guessOf_6 ⟨by omega, by omega, fun c => by omega, fun _ => ⟨by omega, by omega, ?_⟩⟩
    rw [hod, Int.toNat_natCast]
    obtain ⟨t, ht⟩ : ∃ t : Nat, t = (od p).toNat := ⟨_, rfl⟩
    rw [show od p = (t : Int) by omega]
    refine ct_guessed hN (by omega) hs hn hnd (hz t t (by omega) (by omega) (Or.inr (Or.inr rfl))) (sg_Md_guessOf_26 ⟨by omega, by omega, ?_⟩)
    rw [hod, Int.toNat_natCast, show od p = (t : Int) by omega, bt_or _ hs _ (by omega)]
    simp only [sm, setO] at h1
    rw [← ht] at h1
    exact h1
theorem ct_guessM {tm ch od : Nat → Int} (hV : VV N tm nd ch od) (hn : sc 177 = (N : Int)) (hod : ar 181 = od) (hnd : ar 179 = nd) (k : Q (some (vI (GS nd od N))) (sc, ar)) : Ev (d + 1) M_Md_guessOf (0, [some (vO 11), none, none, none], [], (sc, ar)) Q :=
  Ev.deep (Nat.le_add_left 1 d) (sg_Md_guessOf_0 (lp_guessM hV hn hod hnd k N 0 (by omega)))
/-! a task's place -/
theorem lp_placeOf {od : Nat → Int} {t : Int} {p : Nat} (hN : N ≤ 8) (hn : sc 49 = (N : Int)) (hod : ar 48 = od) (ho : OD (N : Int) od) (ht : inR t) (hp : p < N) (he : od p = t) (k : Q (some (vI p)) (sc, ar)) : ∀ j i : Nat, i + j = N → i ≤ p → Ev 0 M_Order_placeOf (2, [some (vO 3), some (vI t), some (vI i)], [], (sc, ar)) Q := by
  intro j
  induction j with
  | zero => intro i hi hp; omega
  | succ j ih =>
    intro i hi hip
    have o1 := ho.1 i (by omega)
    refine sg_Order_placeOf_2 ⟨by omega, by omega, fun c => by omega, fun _ => ⟨by omega, fun c => by omega, fun _ => ⟨by omega, by omega, by rw [hod, Int.toNat_natCast]; omega, ht, fun c => ?_, fun c => ?_⟩⟩⟩
    · rw [hod, Int.toNat_natCast] at c
      have : i ≠ p := fun e => c (by rw [e]; exact he)
      exact ih (i + 1) (by omega) (by omega)
    · rw [hod, Int.toNat_natCast] at c
      have : i = p := ho.2 i p (by omega) (by omega) ((Classical.not_not.mp c).trans he.symm)
      subst this
      exact k
theorem ct_placeOf {od : Nat → Int} {t : Int} {p : Nat} (hN : N ≤ 8) (hn : sc 49 = (N : Int)) (hod : ar 48 = od) (ho : OD (N : Int) od) (ht : inR t) (hp : p < N) (he : od p = t) (k : Q (some (vI p)) (sc, ar)) : Ev d M_Order_placeOf (0, [some (vO 3), some (vI t), none], [], (sc, ar)) Q :=
  Ev.deep (Nat.zero_le d) (sg_Order_placeOf_0 (lp_placeOf hN hn hod ho ht hp he k N 0 (by omega) (by omega)))
theorem lp_placeM {od : Nat → Int} {t : Int} {p : Nat} (hN : N ≤ 8) (hn : sc 177 = (N : Int)) (hod : ar 181 = od) (ho : OD (N : Int) od) (ht : inR t) (hp : p < N) (he : od p = t) (k : Q (some (vI p)) (sc, ar)) : ∀ j i : Nat, i + j = N → ∀ x : Int, (p < i → x = p) → Ev 0 M_Md_placeOf (4, [some (vO 11), some (vI t), some (vI x), some (vI i)], [], (sc, ar)) Q := by
  intro j
  induction j with
  | zero =>
    intro i hi x hx
    have : i = N := by omega
    subst this
    have := hx hp
    subst this
    exact sg_Md_placeOf_4 ⟨by omega, by omega, fun _ => k, fun c => by omega⟩
  | succ j ih =>
    intro i hi x hx
    have o1 := ho.1 i (by omega)
    refine sg_Md_placeOf_4 ⟨by omega, by omega, fun c => by omega, fun _ => ⟨by omega, by omega, by rw [hod, Int.toNat_natCast]; omega, ht, fun c => ?_, fun c => ?_⟩⟩
    · rw [hod, Int.toNat_natCast] at c
      have : i ≠ p := fun e => c (by rw [e]; exact he)
      exact ih (i + 1) (by omega) x (fun h => hx (by omega))
    · rw [hod, Int.toNat_natCast] at c
      have : i = p := ho.2 i p (by omega) (by omega) ((Classical.not_not.mp c).trans he.symm)
      subst this
      exact ih (i + 1) (by omega) i (fun h => rfl)
theorem ct_placeM {od : Nat → Int} {t : Int} {p : Nat} (hN : N ≤ 8) (hn : sc 177 = (N : Int)) (hod : ar 181 = od) (ho : OD (N : Int) od) (ht : inR t) (hp : p < N) (he : od p = t) (k : Q (some (vI p)) (sc, ar)) : Ev d M_Md_placeOf (0, [some (vO 11), some (vI t), none, none], [], (sc, ar)) Q :=
  Ev.deep (Nat.zero_le d) (sg_Md_placeOf_0 (lp_placeM hN hn hod ho ht hp he k N 0 (by omega) 0 (fun h => by omega)))
end LEASTM

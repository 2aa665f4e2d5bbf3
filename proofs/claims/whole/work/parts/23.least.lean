/-! THE LEAST ORDER: the class's search and the reference's -/
theorem ci (i : Nat) : ((i + 1 : Nat) : Int) = (i : Int) + 1 := rfl
theorem mnA_top {P : Nat → Bool} {F : Nat → Int} : ∀ n, mnA P F n ≤ 1000000
  | 0 => Int.le_refl _
  | n + 1 => by
    have := mnA_top (P := P) (F := F) n
    simp only [mnA]
    split
    · split <;> omega
    · exact this
/-- the reference's least of some, with -9 for none yet -/
def md (P : Nat → Bool) (F : Nat → Int) : Nat → Int
  | 0 => -9
  | i + 1 => if P i = true then (if md P F i = -9 then F i else if md P F i ≤ F i then md P F i else F i) else md P F i
theorem md_mn {P : Nat → Bool} {F : Nat → Int} : ∀ n, (∀ i, i < n → P i = true → 0 ≤ F i ∧ F i < 1000000) → ((∀ i, i < n → P i = false) ∧ md P F n = -9 ∧ mnA P F n = 1000000) ∨ (0 ≤ md P F n ∧ md P F n = mnA P F n ∧ ∃ i, i < n ∧ P i = true)
  | 0, _ => Or.inl ⟨fun i h => by omega, rfl, rfl⟩
  | n + 1, h => by
    simp only [md, mnA]
    rcases md_mn n (fun i hi => h i (by omega)) with ⟨a, b, c⟩ | ⟨a, b, i, hi, hp⟩
    · cases hp : P n
      · refine Or.inl ⟨fun i hi => ?_, by simpa using b, by simpa using c⟩
        by_cases e : i = n
        · rw [e]; exact hp
        · exact a i (by omega)
      · have := h n (by omega) hp
        refine Or.inr ?_
        rw [b, c]
        simp only [if_true]
        rw [if_pos (by omega)]
        exact ⟨this.1, rfl, n, by omega, hp⟩
    · refine Or.inr ?_
      cases hq : P n
      · exact ⟨by simpa using a, by simpa using b, i, by omega, hp⟩
      · have := h n (by omega) hq
        simp only [if_true]
        rw [if_neg (by omega)]
        refine ⟨by split <;> omega, ?_, n, by omega, hq⟩
        split
        · rw [if_neg (by omega)]; exact b
        · rw [if_pos (by omega)]
section LEAST
variable {sc : Nat → Int} {ar : Nat → Nat → Int} {Q : Option mV → mH → Prop} {d : Nat} {N : Nat} {nd : Nat → Int}
theorem lp_gwn {t s : Nat} (hN : N ≤ 8) (ht : t < N) (hs : s < 256) (hnd : ar 16 = nd) (base : Int) (k : Q (some (vI (base + G nd N t s))) (sc, ar)) : ∀ j i : Nat, i + j = N → Ev 2 M_Least_guessWithNext (17, [some (vO 5), some (vI t), some (vI s), some (vI N), some (vO 1), some (vI (base + sm (fun b => if s.testBit b = true then 0 else nd (8 * t + b)) i)), some (vI i)], [], (sc, ar)) Q := by
  intro j
  induction j with
  | zero =>
    intro i hi
    have : i = N := by omega
    subst this
    exact sg_Least_guessWithNext_17 ⟨by omega, by omega, fun _ => k, fun c => by omega⟩
  | succ j ih =>
    intro i hi
    have h1 := ih (i + 1) (by omega)
    refine sg_Least_guessWithNext_17 ⟨by omega, by omega, fun c => by omega, fun _ => ⟨bt_inR hs (by omega), fun c => ?_, fun c => ?_⟩⟩
    · have hb := (bt_ne hs (by omega)).mp c
      simp only [sm, if_pos hb, Int.add_zero] at h1
      exact h1
    · have hb : ¬ s.testBit i = true := fun q => c ((bt_ne hs (by omega)).mpr q)
      refine ct_getN (by omega) (by omega) (sg_Least_guessWithNext_42 ?_)
      simp only [sm, if_neg hb] at h1
      rw [hnd, show (8 * (t : Int) + (i : Int)).toNat = 8 * t + i by omega, Int.add_assoc]
      exact h1
theorem ct_gwn {t s : Nat} (hN : N ≤ 8) (ht : t < N) (hs : s < 256) (hnd : ar 16 = nd) (k : Q (some (vI (ar 80 (s ||| 2 ^ t) + G nd N t s))) (sc, ar)) : Ev (d + 2) M_Least_guessWithNext (0, [some (vO 5), some (vI t), some (vI s), some (vI N), some (vO 1), none, none], [], (sc, ar)) Q := by
  refine Ev.deep (Nat.le_add_left 2 d) (sg_Least_guessWithNext_0 ?_)
  rw [bt_or s hs t (by omega)]
  have hlt := bt_lt s hs t (by omega)
  have hl : mLen (sc, ar) 80 = 256 := rfl
  refine ct_valueOf rfl (by omega) (by rw [hl]; omega) (by rw [hl]; omega) (sg_Least_guessWithNext_12 ?_)
  have := lp_gwn (Q := Q) hN ht hs hnd (ar 80 (s ||| 2 ^ t)) k N 0 (by omega)
  simp only [sm, Int.add_zero] at this
  rw [Int.toNat_natCast]
  exact this
theorem lp_leastAfter {s : Nat} (hN : N ≤ 8) (hs : s < 256) (hnd : ar 16 = nd) (hF : ∀ t, t < N → s.testBit t = false → 0 ≤ dpF nd N (ar 80) s t ∧ dpF nd N (ar 80) s t ≤ 1000000) (k : Q (some (vI (mnA (nin s) (dpF nd N (ar 80) s) N))) (sc, ar)) : ∀ j i : Nat, i + j = N → Ev 3 M_Least_leastAfter (7, [some (vO 5), some (vI s), some (vI N), some (vO 1), some (vI (mnA (nin s) (dpF nd N (ar 80) s) i)), some (vI i)], [], (sc, ar)) Q := by
  intro j
  induction j with
  | zero =>
    intro i hi
    have : i = N := by omega
    subst this
    exact sg_Least_leastAfter_7 ⟨by omega, by omega, fun _ => k, fun c => by omega⟩
  | succ j ih =>
    intro i hi
    have h1 := ih (i + 1) (by omega)
    refine sg_Least_leastAfter_7 ⟨by omega, by omega, fun c => by omega, fun _ => ⟨bt_inR hs (by omega), fun c => ?_, fun c => ?_⟩⟩
    · have hb := (bt_ne hs (by omega)).mp c
      have hp : nin s i = false := by unfold nin; rw [hb]; rfl
      simp only [mnA, hp] at h1
      exact h1
    · have hb : s.testBit i = false := by
        cases h : s.testBit i
        · rfl
        · exact absurd ((bt_ne hs (by omega)).mpr h) c
      have hp := nin_iff.mpr hb
      have hv := hF i (by omega) hb
      have ht := mnA_top (P := nin s) (F := dpF nd N (ar 80) s) i
      have hg := mnA_ge (P := nin s) (F := dpF nd N (ar 80) s) (b := 0) (by omega) i (fun t htt hpp => (hF t (by omega) (nin_iff.mp hpp)).1)
      simp only [mnA, hp, if_true] at h1
      have e : dpF nd N (ar 80) s i = ar 80 (s ||| 2 ^ i) + G nd N i s := rfl
      rw [e] at hv h1
      refine ct_gwn hN (by omega) hs hnd (sg_Least_leastAfter_33 ⟨by omega, by omega, ?_⟩)
      exact h1
theorem ct_leastAfter {s : Nat} (hN : N ≤ 8) (hs : s < 256) (hnd : ar 16 = nd) (hF : ∀ t, t < N → s.testBit t = false → 0 ≤ dpF nd N (ar 80) s t ∧ dpF nd N (ar 80) s t ≤ 1000000) (k : Q (some (vI (mnA (nin s) (dpF nd N (ar 80) s) N))) (sc, ar)) : Ev (d + 3) M_Least_leastAfter (0, [some (vO 5), some (vI s), some (vI N), some (vO 1), none, none], [], (sc, ar)) Q :=
  Ev.deep (Nat.le_add_left 3 d) (sg_Least_leastAfter_0 (lp_leastAfter hN hs hnd hF k N 0 (by omega)))
theorem lp_leastGuess {f0 : Nat → Int} (hR : R9 nd) (hN : N ≤ 8) (hnd : ar 16 = nd) (k : Q (some (vI (LV nd N 0))) (sc, up ar 80 (dp nd N f0 (2 ^ N)))) : ∀ r j : Nat, j + r = 2 ^ N → Ev 4 M_Least_leastGuess (9, [some (vO 5), some (vI N), some (vO 1), some (vI ((2 ^ N : Nat) - 1 : Int)), some (vI ((2 ^ N : Nat) - 1 - j : Int))], [], (sc, up ar 80 (dp nd N f0 j))) Q := by
  have h2 := bt_2 N (by omega)
  intro r
  induction r with
  | zero =>
    intro j hj
    have : j = 2 ^ N := by omega
    subst this
    refine sg_Least_leastGuess_9 ⟨by omega, fun _ => ?_, fun c => by omega⟩
    rw [up_eq]
    rw [show (0 : Int).toNat = 0 from rfl, LV_of hN f0 (by omega)]
    exact k
  | succ r ih =>
    intro j hj
    have h1 := ih (j + 1) (by omega)
    obtain ⟨s, hs⟩ : ∃ s : Nat, s = 2 ^ N - 1 - j := ⟨_, rfl⟩
    have es : ((2 ^ N : Nat) - 1 - j : Int) = (s : Int) := by omega
    rw [es]
    have hs256 : s < 256 := by omega
    have fin : ∀ v, v = dpV nd N (dp nd N f0 j) s → Ev 4 M_Least_leastGuess (48, [some (vO 5), some (vI N), some (vO 1), some (vI ((2 ^ N : Nat) - 1 : Int)), some (vI s)], [vI v, vI s, vA 80], (sc, up ar 80 (dp nd N f0 j))) Q := by
      intro v hv
      refine sg_Least_leastGuess_48 ⟨by omega, by omega, ?_⟩
      rw [up_eq, up_up, Int.toNat_natCast, hv, show (s : Int) + (-1) = (2 ^ N : Nat) - 1 - ((j + 1 : Nat) : Int) by omega]
      simp only [dp] at h1
      rw [← hs] at h1
      exact h1
    refine sg_Least_leastGuess_9 ⟨by omega, fun c => by omega, fun _ => ⟨by omega, fun c => by omega, fun _ => ⟨by omega, by omega, fun c => ?_, fun c => ?_⟩⟩⟩
    · have hF : ∀ t, t < N → s.testBit t = false → 0 ≤ dpF nd N (dp nd N f0 j) s t ∧ dpF nd N (dp nd N f0 j) s t ≤ 1000000 := by
        intro t ht hb
        have hgt := bt_gt s hs256 t (by omega) hb
        have hin := bt_in N (by omega) s hs256 (by omega) t ht
        have hv := dp_bd hR hN (f0 := f0) j (by omega) (s ||| 2 ^ t) hin (by omega)
        have hG := G_bd hR hN (show t < 8 by omega) s
        unfold dpF
        omega
      refine ct_leastAfter (nd := nd) hN hs256 (by rw [up_ne _ _ (by decide)]; exact hnd) (by rw [up_eq]; exact hF) (fin _ ?_)
      rw [up_eq]
      unfold dpV
      rw [if_neg (by omega)]
    · refine fin 0 ?_
      unfold dpV
      rw [if_pos (by omega)]
theorem ct_leastGuess (hR : R9 nd) (hN : N ≤ 8) (hnd : ar 16 = nd) (k : ∀ f : Nat → Int, (∀ s, s < 2 ^ N → f s = LV nd N s) → Q (some (vI (LV nd N 0))) (sc, up ar 80 f)) : Ev (d + 4) M_Least_leastGuess (0, [some (vO 5), some (vI N), some (vO 1), none, none], [], (sc, ar)) Q := by
  refine Ev.deep (Nat.le_add_left 4 d) (sg_Least_leastGuess_0 ?_)
  rw [bt_shl N (by omega)]
  have := lp_leastGuess (sc := sc) (ar := ar) (Q := Q) (f0 := ar 80) hR hN hnd (k _ (fun s hs => LV_of hN _ hs)) (2 ^ N) 0 (by omega)
  simp only [dp, up_id] at this
  rw [show ((2 ^ N : Nat) - 1 - ((0 : Nat) : Int) : Int) = (2 ^ N : Nat) - 1 by omega] at this
  exact this
theorem lp_firstOfLeast {s : Nat} (hN : N ≤ 8) (hs : s < 2 ^ N) (hR : R9 nd) (hnd : ar 16 = nd) (hf : ∀ u, u < 2 ^ N → ar 80 u = LV nd N u) {v : Nat} (k : Q (some (vI (v : Nat))) (sc, ar)) : ∀ j i : Nat, i + j = N → ff (tqP nd N s) j i = v → Ev 3 M_Least_firstOfLeast (3, [some (vO 5), some (vI s), some (vI N), some (vO 1), some (vI i)], [], (sc, ar)) Q := by
  have h2 := bt_2 N (by omega)
  have hs256 : s < 256 := by omega
  intro j
  induction j with
  | zero =>
    intro i hi hv
    have : i = N := by omega
    subst this
    simp only [ff] at hv
    subst hv
    exact sg_Least_firstOfLeast_3 ⟨by omega, by omega, fun _ => k, fun c => by omega⟩
  | succ j ih =>
    intro i hi hv
    simp only [ff] at hv
    refine sg_Least_firstOfLeast_3 ⟨by omega, by omega, fun c => by omega, fun _ => ⟨bt_inR hs256 (by omega), fun c => ?_, fun c => ?_⟩⟩
    · have hb := (bt_ne hs256 (by omega)).mp c
      rw [if_neg (fun q => by rw [(tqP_iff.mp q).1] at hb; cases hb)] at hv
      exact ih (i + 1) (by omega) hv
    · have hb : s.testBit i = false := by
        cases h : s.testBit i
        · rfl
        · exact absurd ((bt_ne hs256 (by omega)).mpr h) c
      have hin := bt_in N (by omega) s hs256 hs i (by omega)
      have hv1 := LV_bd hR hN hin
      have hv2 := LV_bd hR hN hs
      have hG := G_bd hR hN (show i < 8 by omega) s
      have hl : mLen (sc, ar) 80 = 256 := rfl
      refine ct_gwn hN (by omega) hs256 hnd (sg_Least_firstOfLeast_27 (ct_valueOf rfl (by omega) (by rw [hl]; omega) (by rw [hl]; omega) (sg_Least_firstOfLeast_35 ?_)))
      rw [hf _ hin, Int.toNat_natCast, hf _ hs]
      refine ⟨by omega, by omega, fun c => ?_, fun c => ?_⟩
      · rw [if_neg (fun q => c (tqP_iff.mp q).2)] at hv
        exact ih (i + 1) (by omega) hv
      · have hp : tqP nd N s i = true := tqP_iff.mpr ⟨hb, Classical.not_not.mp c⟩
        rw [if_pos hp] at hv
        subst hv
        exact k
theorem ct_firstOfLeast {s : Nat} (hN : N ≤ 8) (hs : s < 2 ^ N) (hR : R9 nd) (hnd : ar 16 = nd) (hf : ∀ u, u < 2 ^ N → ar 80 u = LV nd N u) (k : Q (some (vI (tq nd N s : Nat))) (sc, ar)) : Ev (d + 3) M_Least_firstOfLeast (0, [some (vO 5), some (vI s), some (vI N), some (vO 1), none], [], (sc, ar)) Q :=
  Ev.deep (Nat.le_add_left 3 d) (sg_Least_firstOfLeast_0 (lp_firstOfLeast hN hs hR hnd hf k N 0 (by omega) rfl))
theorem lp_find (hN : N ≤ 8) (hR : R9 nd) {s0 : Nat → Int} {a0 : Nat → Nat → Int} (hnd : a0 16 = nd) (hf : ∀ u, u < 2 ^ N → a0 80 u = LV nd N u) {f : Nat → Int} (k : Q (some (vO 6)) (up s0 97 N, up a0 96 (wr f (LO nd N) N))) : ∀ j p : Nat, p + j = N → Ev 5 M_Least_find (19, [some (vO 5), some (vI N), some (vO 1), some (vI (setR nd N p : Nat)), some (vI p), none], [], (up s0 97 p, up a0 96 (wr f (LO nd N) p))) Q := by
  have h2 := bt_2 N (by omega)
  intro j
  induction j with
  | zero =>
    intro p hp
    have : p = N := by omega
    subst this
    exact sg_Least_find_19 ⟨by omega, by omega, fun _ => k, fun c => by omega⟩
  | succ j ih =>
    intro p hp
    have h1 := ih (p + 1) (by omega)
    have hset := setR_ok hR hN p (by omega)
    have htq := tq_ok hR hN (hset.2.2.1 (by omega))
    refine sg_Least_find_19 ⟨by omega, by omega, fun c => by omega, fun _ => ct_firstOfLeast hN hset.1 hR (by rw [up_ne _ _ (by decide)]; exact hnd) (by rw [up_ne _ _ (by decide)]; exact hf) (sg_Least_find_32 (ct_addL (by rw [up_eq]; omega) (sg_Least_find_43 ?_)))⟩
    rw [bt_or _ (by omega) _ (by omega)]
    simp only [up_eq, up_up, Int.toNat_natCast]
    simp only [setR, wr] at h1
    exact h1
theorem ct_find (hR : R9 nd) (hN : N ≤ 8) (hnd : ar 16 = nd) (k : ∀ f : Nat → Int, Q (some (vO 6)) (up sc 97 N, up (up ar 80 f) 96 (wr (ar 96) (LO nd N) N))) : Ev (d + 5) M_Least_find (0, [some (vO 5), some (vI N), some (vO 1), none, none, none], [], (sc, ar)) Q := by
  refine Ev.deep (Nat.le_add_left 5 d) (sg_Least_find_0 (ct_leastGuess hR hN hnd (fun f hf => sg_Least_find_6 (ct_clearL (sg_Least_find_14 ?_)))))
  have := lp_find (Q := Q) (s0 := sc) (a0 := up ar 80 f) (f := ar 96) hN hR (by rw [up_ne _ _ (by decide)]; exact hnd) (by rw [up_eq]; exact hf) (k f) N 0 (by omega)
  simp only [setR, wr] at this
  rw [show up (up ar 80 f) 96 (ar 96) = up ar 80 f by
    rw [show ar 96 = up ar 80 f 96 from (up_ne _ _ (by decide)).symm, up_id]] at this
  exact this
/-! the reference -/
theorem lp_guessed {t s : Nat} (hN : N ≤ 8) (ht : t < N) (hs : s < 256) (hn : sc 177 = (N : Int)) (hnd : ar 179 = nd) (hz : nd (8 * t + t) = 0) (k : Q (some (vI (G nd N t s))) (sc, ar)) : ∀ j i : Nat, i + j = N → Ev 0 M_Md_guessed (5, [some (vO 11), some (vI t), some (vI s), some (vI (sm (fun b => if s.testBit b = true then 0 else nd (8 * t + b)) i)), some (vI i)], [], (sc, ar)) Q := by
  intro j
  induction j with
  | zero =>
    intro i hi
    have : i = N := by omega
    subst this
    exact sg_Md_guessed_5 ⟨by omega, by omega, fun _ => k, fun c => by omega⟩
  | succ j ih =>
    intro i hi
    have h1 := ih (i + 1) (by omega)
    refine sg_Md_guessed_5 ⟨by omega, by omega, fun c => by omega, fun _ => ⟨bs_inR hs (by omega), fun c => ?_, fun c => ⟨by omega, by omega, fun c2 => ?_, fun c2 => ⟨by omega, by omega, ?_⟩⟩⟩⟩
    · have hb := (bs_ne hs (by omega)).mp c
      simp only [sm, if_pos hb] at h1
      exact h1
    · have hb : ¬ s.testBit i = true := fun q => c ((bs_ne hs (by omega)).mpr q)
      have : i = t := by omega
      subst this
      simp only [sm, if_neg hb, hz] at h1
      exact h1
    · have hb : ¬ s.testBit i = true := fun q => c ((bs_ne hs (by omega)).mpr q)
      simp only [sm, if_neg hb] at h1
      rw [hnd, show (8 * (t : Int) + (i : Int)).toNat = 8 * t + i by omega]
      exact h1
theorem ct_guessed {t s : Nat} (hN : N ≤ 8) (ht : t < N) (hs : s < 256) (hn : sc 177 = (N : Int)) (hnd : ar 179 = nd) (hz : nd (8 * t + t) = 0) (k : Q (some (vI (G nd N t s))) (sc, ar)) : Ev d M_Md_guessed (0, [some (vO 11), some (vI t), some (vI s), none, none], [], (sc, ar)) Q :=
  Ev.deep (Nat.zero_le d) (sg_Md_guessed_0 (lp_guessed hN ht hs hn hnd hz k N 0 (by omega)))
end LEAST

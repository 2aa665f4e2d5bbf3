/-! THE CLASS'S CALLS that change nothing; heads by tools/gen_ops.py -/
section OPX
variable {sc : Nat → Int} {ar : Nat → Nat → Int} {Q : Option mV → mH → Prop} {N : Nat} {tm nd ch od : Nat → Int} {x1 x2 x3 : Int}
theorem ox_strength (hV : VV N tm nd ch od) (hI : IX N tm nd ch od sc ar) (i1 : inR x1) (i2 : inR x2) (k : ∀ sc2 ar2, Pe sc ar sc2 ar2 → inR (aTwo N x1 x2 (nd (8 * x1.toNat + x2.toNat))) → Q (some (vI (aTwo N x1 x2 (nd (8 * x1.toNat + x2.toNat))))) (sc2, ar2)) : Ev 15 M_Dt_strength (0, [some (vO 0), some (vI x1), some (vI x2)], [], (sc, ar)) Q := by
  obtain ⟨hN, v1, v2, hR, hz, v5, v6, v7⟩ := id hV
  obtain ⟨h10, h49, h0, hnd, hch, hod⟩ := id hI
  have kn : ¬ (tk N x1 ∧ tk N x2) → Q (some (vI (-1))) (sc, ar) := fun h => by
    have := k sc ar Pe.rf
    rw [aTwo_no h] at this
    exact this (by decide)
  refine Ev.deep (by decide) (sg_Dt_strength_0 (ct_isTask hN h10 i1 (fun a => sg_Dt_strength_5 ⟨by omega, fun c => by omega, fun _ => ct_isTask hN h10 i2 (fun b => sg_Dt_strength_13 ⟨by omega, fun _ => ?_, fun c => absurd (by decide) c⟩) (fun b => sg_Dt_strength_13 ⟨by omega, fun c => absurd rfl c, fun _ => kn (fun z => b z.2)⟩)⟩) (fun a => sg_Dt_strength_5 ⟨by omega, fun _ => kn (fun z => a z.1), fun c => absurd rfl c⟩)))
  obtain ⟨p, rfl, hp⟩ := tk_nat a
  obtain ⟨q, rfl, hq⟩ := tk_nat b
  simp only [aTwo_yes a b, Int.toNat_natCast] at k
  have e : (8 * (p : Int) + (q : Int)).toNat = 8 * p + q := by omega
  have hr := hR.at (show p < 8 by omega) (show q < 8 by omega)
  refine ct_getN (by omega) (by omega) (sg_Dt_strength_27 ?_)
  rw [e, hnd]
  exact k sc ar Pe.rf (by omega)
theorem ox_leans (hV : VV N tm nd ch od) (hI : IX N tm nd ch od sc ar) (i1 : inR x1) (i2 : inR x2) (k : ∀ sc2 ar2, Pe sc ar sc2 ar2 → inR (aTwo N x1 x2 (b2 (LL nd N x1.toNat x2.toNat))) → Q (some (vI (aTwo N x1 x2 (b2 (LL nd N x1.toNat x2.toNat))))) (sc2, ar2)) : Ev 15 M_Dt_leans (0, [some (vO 0), some (vI x1), some (vI x2)], [], (sc, ar)) Q := by
  obtain ⟨hN, v1, v2, hR, hz, v5, v6, v7⟩ := id hV
  obtain ⟨h10, h49, h0, hnd, hch, hod⟩ := id hI
  have kn : ¬ (tk N x1 ∧ tk N x2) → Q (some (vI (-1))) (sc, ar) := fun h => by
    have := k sc ar Pe.rf
    rw [aTwo_no h] at this
    exact this (by decide)
  refine Ev.deep (by decide) (sg_Dt_leans_0 (ct_isTask hN h10 i1 (fun a => sg_Dt_leans_5 ⟨by omega, fun c => by omega, fun _ => ct_isTask hN h10 i2 (fun b => sg_Dt_leans_13 ⟨by omega, fun _ => ?_, fun c => absurd (by decide) c⟩) (fun b => sg_Dt_leans_13 ⟨by omega, fun c => absurd rfl c, fun _ => kn (fun z => b z.2)⟩)⟩) (fun a => sg_Dt_leans_5 ⟨by omega, fun _ => kn (fun z => a z.1), fun c => absurd rfl c⟩)))
  obtain ⟨p, rfl, hp⟩ := tk_nat a
  obtain ⟨q, rfl, hq⟩ := tk_nat b
  simp only [aTwo_yes a b, Int.toNat_natCast] at k
  rw [h10]
  refine ct_ringsFind hN hnd hR hz (fun f g hf hg => sg_Dt_leans_33 (ct_isLeaning (g := LL nd N) hN hp (by omega) (by rw [up_ne _ _ (by decide), up_eq]; exact hf) (sg_Dt_leans_42 ⟨b2_in _, fun c => ?_, fun c => ?_⟩)))
  · have := k _ _ (((Pe.rf.a 64 f).a 65 g).s 66 (((bS nd N N).2.1 : Nat) : Int)) (b2_in _)
    rw [c] at this
    exact this
  · have e : b2 (LL nd N p q) = 1 := by
      rw [b2_1.mp c]
      rfl
    have := k _ _ (((Pe.rf.a 64 f).a 65 g).s 66 (((bS nd N N).2.1 : Nat) : Int)) (b2_in _)
    rw [e] at this
    exact this
theorem ox_blocks (hV : VV N tm nd ch od) (hI : IX N tm nd ch od sc ar)  (k : ∀ sc2 ar2, Pe sc ar sc2 ar2 → inR (((bS nd N N).2.1 : Nat)) → Q (some (vI (((bS nd N N).2.1 : Nat)))) (sc2, ar2)) : Ev 15 M_Dt_blocks (0, [some (vO 0)], [], (sc, ar)) Q := by
  obtain ⟨hN, v1, v2, hR, hz, v5, v6, v7⟩ := id hV
  obtain ⟨h10, h49, h0, hnd, hch, hod⟩ := id hI
  refine Ev.deep (by decide) (sg_Dt_blocks_0 ?_)
  rw [h10]
  have hb := bS_nb (nd := nd) (N := N) N 0
  refine ct_ringsFind hN hnd hR hz (fun f g hf hg => sg_Dt_blocks_15 (Ev.deep (by decide) (sg_Rings_howMany_0 (sg_Dt_blocks_22 ?_))))
  rw [up_eq]
  exact k _ _ (((Pe.rf.a 64 f).a 65 g).s 66 _) (by omega)
theorem ox_block (hV : VV N tm nd ch od) (hI : IX N tm nd ch od sc ar) (i1 : inR x1) (k : ∀ sc2 ar2, Pe sc ar sc2 ar2 → inR (aOne N x1 (-1) ((bS nd N N).2.2 x1.toNat)) → Q (some (vI (aOne N x1 (-1) ((bS nd N N).2.2 x1.toNat)))) (sc2, ar2)) : Ev 15 M_Dt_block (0, [some (vO 0), some (vI x1)], [], (sc, ar)) Q := by
  obtain ⟨hN, v1, v2, hR, hz, v5, v6, v7⟩ := id hV
  obtain ⟨h10, h49, h0, hnd, hch, hod⟩ := id hI
  have kn : ¬ tk N x1 → Q (some (vI (-1))) (sc, ar) := fun h => by
    have := k sc ar Pe.rf
    rw [aOne_no h] at this
    exact this (by decide)
  refine Ev.deep (by decide) (sg_Dt_block_0 (ct_isTask hN h10 i1 (fun a => sg_Dt_block_5 ⟨by omega, fun _ => ?_, fun c => absurd (by decide) c⟩) (fun a => sg_Dt_block_5 ⟨by omega, fun c => absurd rfl c, fun _ => kn a⟩)))
  obtain ⟨p, rfl, hp⟩ := tk_nat a
  simp only [aOne_yes a, Int.toNat_natCast] at k
  rw [h10]
  have hb := bS_nb (nd := nd) (N := N) N p
  refine ct_ringsFind hN hnd hR hz (fun f g hf hg => sg_Dt_block_25 (Ev.deep (by decide) (sg_Rings_numberOf_0 (ct_valueOf (by decide) (by omega) (by show (p : Int) < 8; omega) (by show (8 : Int) < _; omega) (sg_Rings_numberOf_8 (sg_Dt_block_33 ?_))))))
  rw [up_eq, Int.toNat_natCast, hg p hp]
  exact k _ _ (((Pe.rf.a 64 f).a 65 g).s 66 _) (by omega)
theorem ox_least (hV : VV N tm nd ch od) (hI : IX N tm nd ch od sc ar)  (k : ∀ sc2 ar2, Pe sc ar sc2 ar2 → inR (LV nd N 0) → Q (some (vI (LV nd N 0))) (sc2, ar2)) : Ev 15 M_Dt_least (0, [some (vO 0)], [], (sc, ar)) Q := by
  obtain ⟨hN, v1, v2, hR, hz, v5, v6, v7⟩ := id hV
  obtain ⟨h10, h49, h0, hnd, hch, hod⟩ := id hI
  refine Ev.deep (by decide) (sg_Dt_least_0 ?_)
  rw [h10]
  have hb := LV_bd hR hN (s := 0) (by have := bt_2 N (by omega); omega)
  exact ct_leastGuess hR hN hnd (fun f hf => sg_Dt_least_15 (k _ _ (Pe.rf.a 80 f) (by omega)))
theorem ox_leastAt (hV : VV N tm nd ch od) (hI : IX N tm nd ch od sc ar) (i1 : inR x1) (k : ∀ sc2 ar2, Pe sc ar sc2 ar2 → inR (aOne N x1 (-9) (LO nd N x1.toNat)) → Q (some (vI (aOne N x1 (-9) (LO nd N x1.toNat)))) (sc2, ar2)) : Ev 15 M_Dt_leastAt (0, [some (vO 0), some (vI x1)], [], (sc, ar)) Q := by
  obtain ⟨hN, v1, v2, hR, hz, v5, v6, v7⟩ := id hV
  obtain ⟨h10, h49, h0, hnd, hch, hod⟩ := id hI
  have kn : ¬ tk N x1 → Q (some (vI (-9))) (sc, ar) := fun h => by
    have := k sc ar Pe.rf
    rw [aOne_no h] at this
    exact this (by decide)
  refine Ev.deep (by decide) (sg_Dt_leastAt_0 ⟨i1, fun c => kn (fun z => by have := z.1; omega), fun c => ⟨i1, by omega, fun c2 => ?_, fun c2 => kn (fun z => by have := z.2; omega)⟩⟩)
  have a : tk N x1 := ⟨by omega, by omega⟩
  obtain ⟨p, rfl, hp⟩ := tk_nat a
  simp only [aOne_yes a, Int.toNat_natCast] at k
  have hb := (LO_od hR hN).1 p (by omega)
  rw [h10]
  refine ct_find hR hN hnd (fun f => sg_Dt_leastAt_30 (ct_taskAtL (n := N) (up_eq _ _ _) (by omega) (by omega) (sg_Dt_leastAt_34 ?_)))
  rw [up_eq, Int.toNat_natCast, wr_at, if_pos hp]
  exact k _ _ (((Pe.rf.a 80 f).a 96 _).s 97 _) (by omega)
theorem ox_saved (hV : VV N tm nd ch od) (hI : IX N tm nd ch od sc ar) (i1 : inR x1) (i2 : inR x2) (k : ∀ sc2 ar2, Pe sc ar sc2 ar2 → inR (aTwo N x1 x2 (LV nd N 0 - LV (up nd (8 * x1.toNat + x2.toNat) 0) N 0)) → Q (some (vI (aTwo N x1 x2 (LV nd N 0 - LV (up nd (8 * x1.toNat + x2.toNat) 0) N 0)))) (sc2, ar2)) : Ev 15 M_Dt_saved (0, [some (vO 0), some (vI x1), some (vI x2), none, none, none], [], (sc, ar)) Q := by
  obtain ⟨hN, v1, v2, hR, hz, v5, v6, v7⟩ := id hV
  obtain ⟨h10, h49, h0, hnd, hch, hod⟩ := id hI
  have kn : ¬ (tk N x1 ∧ tk N x2) → Q (some (vI (-1))) (sc, ar) := fun h => by
    have := k sc ar Pe.rf
    rw [aTwo_no h] at this
    exact this (by decide)
  refine Ev.deep (by decide) (sg_Dt_saved_0 (ct_isTask hN h10 i1 (fun a => sg_Dt_saved_5 ⟨by omega, fun c => by omega, fun _ => ct_isTask hN h10 i2 (fun b => sg_Dt_saved_13 ⟨by omega, fun _ => ?_, fun c => absurd (by decide) c⟩) (fun b => sg_Dt_saved_13 ⟨by omega, fun c => absurd rfl c, fun _ => kn (fun z => b z.2)⟩)⟩) (fun a => sg_Dt_saved_5 ⟨by omega, fun _ => kn (fun z => a z.1), fun c => absurd rfl c⟩)))
  obtain ⟨p, rfl, hp⟩ := tk_nat a
  obtain ⟨q, rfl, hq⟩ := tk_nat b
  simp only [aTwo_yes a b, Int.toNat_natCast] at k
  have e : (8 * (p : Int) + (q : Int)).toNat = 8 * p + q := by omega
  have hr := hR.at (show p < 8 by omega) (show q < 8 by omega)
  have hR2 : R9 (up nd (8 * p + q) 0) := fun i hi => by
    by_cases c : i = 8 * p + q
    · rw [c, up_eq]
      omega
    · rw [up_ne _ _ c]
      exact hR i hi
  have h2 := bt_2 N (by omega)
  have hb := LV_bd hR hN (s := 0) (by omega)
  have hb2 := LV_bd hR2 hN (s := 0) (by omega)
  rw [h10]
  refine ct_leastGuess hR hN hnd (fun f hf => sg_Dt_saved_33 (ct_putN (by omega) (by omega) (sg_Dt_saved_44 ?_)))
  have e16 : up ar 80 f 16 = nd := by
    rw [up_ne _ _ (by decide)]
    exact hnd
  rw [h10, e, e16]
  refine ct_leastGuess hR2 hN (up_eq _ _ _) (fun f2 hf2 => sg_Dt_saved_61 (ct_putN (by omega) (by omega) (sg_Dt_saved_74 (k _ _ ⟨fun _ _ => rfl, fun i hi => ?_⟩ (by omega)))))
  rw [e, up_ne _ _ (show (16 : Nat) ≠ 80 by decide), up_eq, up_up, up_id]
  by_cases c : i = 16
  · rw [c, up_eq, hnd]
  · have c80 : i ≠ 80 := fun w => by rw [w] at hi; revert hi; decide
    rw [up_ne _ _ c, up_ne _ _ c80, up_ne _ _ c, up_ne _ _ c80]
theorem ox_at (hV : VV N tm nd ch od) (hI : IX N tm nd ch od sc ar) (i1 : inR x1) (k : ∀ sc2 ar2, Pe sc ar sc2 ar2 → inR (aOne N x1 (-9) (od x1.toNat)) → Q (some (vI (aOne N x1 (-9) (od x1.toNat)))) (sc2, ar2)) : Ev 15 M_Dt_at (0, [some (vO 0), some (vI x1)], [], (sc, ar)) Q := by
  obtain ⟨hN, v1, v2, hR, hz, v5, v6, v7⟩ := id hV
  obtain ⟨h10, h49, h0, hnd, hch, hod⟩ := id hI
  rcases Classical.em (tk N x1) with a | a
  · obtain ⟨p, rfl, hp⟩ := tk_nat a
    simp only [aOne_yes a, Int.toNat_natCast] at k
    have hb := v7.1 p (by omega)
    refine Ev.deep (by decide) (sg_Dt_at_0 (ct_taskAtT h49 (by omega) (by omega) (sg_Dt_at_8 ?_)))
    rw [Int.toNat_natCast, hod]
    exact k sc ar Pe.rf (by omega)
  · simp only [aOne_no a] at k
    exact Ev.deep (by decide) (sg_Dt_at_0 (ct_taskAtT0 h49 i1 a (by omega) (sg_Dt_at_8 (k sc ar Pe.rf (by decide)))))
theorem ox_guess (hV : VV N tm nd ch od) (hI : IX N tm nd ch od sc ar)  (k : ∀ sc2 ar2, Pe sc ar sc2 ar2 → inR (GS nd od N) → Q (some (vI (GS nd od N))) (sc2, ar2)) : Ev 15 M_Dt_guess (0, [some (vO 0)], [], (sc, ar)) Q := by
  obtain ⟨hN, v1, v2, hR, hz, v5, v6, v7⟩ := id hV
  obtain ⟨h10, h49, h0, hnd, hch, hod⟩ := id hI
  refine Ev.deep (by decide) (sg_Dt_guess_0 ?_)
  have hb := GS_bd hR hN v7
  exact ct_guessOf hN h49 hod hnd v7 (sg_Dt_guess_11 (k sc ar Pe.rf (by omega)))
theorem ox_torn (hV : VV N tm nd ch od) (hI : IX N tm nd ch od sc ar) (i1 : inR x1) (i2 : inR x2) (k : ∀ sc2 ar2, Pe sc ar sc2 ar2 → inR (aTwo N x1 x2 (if nd (8 * x1.toNat + x2.toNat) ≤ 0 then 0 else if pl N od x2.toNat ≤ pl N od x1.toNat then 0 else 1)) → Q (some (vI (aTwo N x1 x2 (if nd (8 * x1.toNat + x2.toNat) ≤ 0 then 0 else if pl N od x2.toNat ≤ pl N od x1.toNat then 0 else 1)))) (sc2, ar2)) : Ev 15 M_Dt_torn (0, [some (vO 0), some (vI x1), some (vI x2)], [], (sc, ar)) Q := by
  obtain ⟨hN, v1, v2, hR, hz, v5, v6, v7⟩ := id hV
  obtain ⟨h10, h49, h0, hnd, hch, hod⟩ := id hI
  have kn : ¬ (tk N x1 ∧ tk N x2) → Q (some (vI (-1))) (sc, ar) := fun h => by
    have := k sc ar Pe.rf
    rw [aTwo_no h] at this
    exact this (by decide)
  refine Ev.deep (by decide) (sg_Dt_torn_0 (ct_isTask hN h10 i1 (fun a => sg_Dt_torn_5 ⟨by omega, fun c => by omega, fun _ => ct_isTask hN h10 i2 (fun b => sg_Dt_torn_13 ⟨by omega, fun _ => ?_, fun c => absurd (by decide) c⟩) (fun b => sg_Dt_torn_13 ⟨by omega, fun c => absurd rfl c, fun _ => kn (fun z => b z.2)⟩)⟩) (fun a => sg_Dt_torn_5 ⟨by omega, fun _ => kn (fun z => a z.1), fun c => absurd rfl c⟩)))
  obtain ⟨p, rfl, hp⟩ := tk_nat a
  obtain ⟨q, rfl, hq⟩ := tk_nat b
  simp only [aTwo_yes a b, Int.toNat_natCast] at k
  have e : (8 * (p : Int) + (q : Int)).toNat = 8 * p + q := by omega
  have hr := hR.at (show p < 8 by omega) (show q < 8 by omega)
  obtain ⟨hp1, hp2⟩ := pl_ok v7 hp
  obtain ⟨hq1, hq2⟩ := pl_ok v7 hq
  have k2 := k sc ar Pe.rf (by split <;> (try split) <;> omega)
  refine ct_getN (by omega) (by omega) (sg_Dt_torn_27 ?_)
  rw [e, hnd]
  refine ⟨by omega, fun c => ?_, fun c => ct_placeOf hN h49 hod v7 (by omega) hq1 hq2 (sg_Dt_torn_38 (ct_placeOf hN h49 hod v7 (by omega) hp1 hp2 (sg_Dt_torn_46 ⟨by omega, by omega, fun c2 => ?_, fun c2 => ?_⟩)))⟩
  · rw [if_pos c] at k2
    exact k2
  · rw [if_neg c, if_pos (by omega)] at k2
    exact k2
  · rw [if_neg c, if_neg (by omega)] at k2
    exact k2
theorem ox_mean (hV : VV N tm nd ch od) (hI : IX N tm nd ch od sc ar) (i1 : inR x1) (k : ∀ sc2 ar2, Pe sc ar sc2 ar2 → inL (toldF (TT ch od (fun p => tm (od p).toNat) N) (BL ch od N) x1) → Q (some (vL (toldF (TT ch od (fun p => tm (od p).toNat) N) (BL ch od N) x1))) (sc2, ar2)) : Ev 15 M_Dt_mean (0, [some (vO 0), some (vI x1)], [], (sc, ar)) Q := by
  obtain ⟨hN, v1, v2, hR, hz, v5, v6, v7⟩ := id hV
  obtain ⟨h10, h49, h0, hnd, hch, hod⟩ := id hI
  refine Ev.deep (by decide) (sg_Dt_mean_0 ?_)
  have hc : ∀ p, p < N → 0 ≤ (fun p => tm (od p).toNat) p ∧ (fun p => tm (od p).toNat) p ≤ 20 := fun p hp => v1 _ (by
    have := v7.1 p (by omega)
    omega)
  have t1 := TT_lt (c := fun p => tm (od p).toNat) hV hc
  have t2 := BL_lt hV (Nat.le_refl N)
  refine ct_reckt (c := fun p => tm (od p).toNat) hV hI h0 v1 (fun p _ => rfl) (fun g hg => sg_Dt_mean_19 (ct_above (sg_Dt_mean_26 (Ev.deep (by decide) (sg_Returns_below_0 (sg_Dt_mean_33 ?_))))))
  rw [up_eq, up_eq, hg]
  exact ct_inLeast t1 t2 i1 (sg_Dt_mean_37 (k _ _ ((Pe.rf.a 112 g).s 114 _) (told_bd t1 t2)))
theorem ox_often (hV : VV N tm nd ch od) (hI : IX N tm nd ch od sc ar) (i1 : inR x1) (i2 : inR x2) (k : ∀ sc2 ar2, Pe sc ar sc2 ar2 → inL (aOne N x1 (-1) (toldF (TT ch od (fun p => if (od p).toNat = x1.toNat then 1 else 0) N) (BL ch od N) x2)) → Q (some (vL (aOne N x1 (-1) (toldF (TT ch od (fun p => if (od p).toNat = x1.toNat then 1 else 0) N) (BL ch od N) x2)))) (sc2, ar2)) : Ev 15 M_Dt_often (0, [some (vO 0), some (vI x1), some (vI x2)], [], (sc, ar)) Q := by
  obtain ⟨hN, v1, v2, hR, hz, v5, v6, v7⟩ := id hV
  obtain ⟨h10, h49, h0, hnd, hch, hod⟩ := id hI
  have kn : ¬ tk N x1 → Q (some (vL (-1))) (sc, ar) := fun h => by
    have := k sc ar Pe.rf
    rw [aOne_no h] at this
    exact this (by decide)
  refine Ev.deep (by decide) (sg_Dt_often_0 (ct_isTask hN h10 i1 (fun a => sg_Dt_often_5 ⟨by omega, fun _ => ?_, fun c => absurd (by decide) c⟩) (fun a => sg_Dt_often_5 ⟨by omega, fun c => absurd rfl c, fun _ => kn a⟩)))
  obtain ⟨p, rfl, hp⟩ := tk_nat a
  simp only [aOne_yes a, Int.toNat_natCast] at k
  have hc : ∀ r, r < N → 0 ≤ (fun r => if (od r).toNat = p then (1 : Int) else 0) r ∧ (fun r => if (od r).toNat = p then (1 : Int) else 0) r ≤ 20 := fun r hr => by
    show 0 ≤ (if (od r).toNat = p then (1 : Int) else 0) ∧ (if (od r).toNat = p then (1 : Int) else 0) ≤ 20
    split <;> omega
  have t1 := TT_lt (c := fun r => if (od r).toNat = p then 1 else 0) hV hc
  have t2 := BL_lt hV (Nat.le_refl N)
  refine ct_reckOne (by omega) hV hI (fun f g hg => sg_Dt_often_28 (ct_above (sg_Dt_often_35 (Ev.deep (by decide) (sg_Returns_below_0 (sg_Dt_often_42 ?_))))))
  rw [up_eq, up_eq, hg]
  exact ct_inLeast t1 t2 i2 (sg_Dt_often_46 (k _ _ (((Pe.rf.a 113 f).a 112 g).s 114 _) (told_bd t1 t2)))
theorem ox_ends (hV : VV N tm nd ch od) (hI : IX N tm nd ch od sc ar) (i1 : inR x1) (k : ∀ sc2 ar2, Pe sc ar sc2 ar2 → inR (aOne N x1 (-1) (EF tm nd od (pl N od x1.toNat))) → Q (some (vI (aOne N x1 (-1) (EF tm nd od (pl N od x1.toNat))))) (sc2, ar2)) : Ev 15 M_Dt_ends (0, [some (vO 0), some (vI x1)], [], (sc, ar)) Q := by
  obtain ⟨hN, v1, v2, hR, hz, v5, v6, v7⟩ := id hV
  obtain ⟨h10, h49, h0, hnd, hch, hod⟩ := id hI
  have kn : ¬ tk N x1 → Q (some (vI (-1))) (sc, ar) := fun h => by
    have := k sc ar Pe.rf
    rw [aOne_no h] at this
    exact this (by decide)
  refine Ev.deep (by decide) (sg_Dt_ends_0 (ct_isTask hN h10 i1 (fun a => sg_Dt_ends_5 ⟨by omega, fun _ => ?_, fun c => absurd (by decide) c⟩) (fun a => sg_Dt_ends_5 ⟨by omega, fun c => absurd rfl c, fun _ => kn a⟩)))
  obtain ⟨p, rfl, hp⟩ := tk_nat a
  simp only [aOne_yes a, Int.toNat_natCast] at k
  obtain ⟨hp1, hp2⟩ := pl_ok v7 hp
  have hb := EF_bd hV N (Nat.le_refl N) _ hp1
  refine ct_bReckon hV hI (fun g hg hg0 => sg_Dt_ends_29 (ct_placeOf hN h49 (by rw [up_ne _ _ (by decide)]; exact hod) v7 (by omega) hp1 hp2 (sg_Dt_ends_41 (Ev.deep (by decide) (sg_Beside_endAt_0 (ct_valueOf (by decide) (by omega) (by show ((pl N od p : Nat) : Int) < 8; omega) (by show (8 : Int) < _; omega) (sg_Beside_endAt_8 (sg_Dt_ends_44 ?_))))))))
  rw [up_eq, Int.toNat_natCast, hg _ hp1]
  exact k _ _ (Pe.rf.a 128 g) (by omega)
theorem ox_span (hV : VV N tm nd ch od) (hI : IX N tm nd ch od sc ar)  (k : ∀ sc2 ar2, Pe sc ar sc2 ar2 → inR (mxF (EF tm nd od) N) → Q (some (vI (mxF (EF tm nd od) N))) (sc2, ar2)) : Ev 15 M_Dt_span (0, [some (vO 0)], [], (sc, ar)) Q := by
  obtain ⟨hN, v1, v2, hR, hz, v5, v6, v7⟩ := id hV
  obtain ⟨h10, h49, h0, hnd, hch, hod⟩ := id hI
  refine Ev.deep (by decide) (sg_Dt_span_0 ?_)
  have hE := EF_bd hV N (Nat.le_refl N)
  have hb := mxF_bd (E := EF tm nd od) (b := 200) (by decide) N (fun q hq => by have := hE q hq; omega)
  refine ct_bReckon hV hI (fun g hg hg0 => sg_Dt_span_19 (ct_latest (up_eq _ _ _) (fun i hi => ?_) (sg_Dt_span_26 ?_)))
  · by_cases c : i < N
    · rw [hg i c]
      have := hE i c
      omega
    · rw [hg0 i (by omega) hi]
      omega
  · rw [mxF_more 8 hN (fun q h1 h2 => hg0 q h1 h2), mxF_congr N hg]
    exact k _ _ (Pe.rf.a 128 g) (by omega)
theorem ox_between (hV : VV N tm nd ch od) (hI : IX N tm nd ch od sc ar) (i1 : inR x1) (hk : 1 ≤ x1 ∧ x1 ≤ 8) (k : ∀ sc2 ar2 B F w, Pe sc ar sc2 ar2 → tbs nd N x1 (fun _ => True) B F w → Q (some (vI B)) (sc2, ar2)) : Ev 15 M_Dt_between (0, [some (vO 0), some (vI x1)], [], (sc, ar)) Q := by
  obtain ⟨hN, v1, v2, hR, hz, v5, v6, v7⟩ := id hV
  obtain ⟨h10, h49, h0, hnd, hch, hod⟩ := id hI
  refine Ev.deep (d := 14) (by decide) (sgd_Dt_between_0 (ct_isTeamSize i1 (fun _ => sgd_Dt_between_4 ⟨by omega, fun _ => ?_, fun c => absurd (by decide) c⟩) (fun c => absurd hk c)))
  rw [h10]
  exact ct_teamFind hR hN hnd hk (fun sc2 ar2 p h => sgd_Dt_between_26 (Ev.deep (by decide) (sg_Team_leastBetween_0 (sgd_Dt_between_33 (k sc2 ar2 _ _ _ p h)))))
theorem ox_between0 (hV : VV N tm nd ch od) (hI : IX N tm nd ch od sc ar) (i1 : inR x1) (hk : ¬ (1 ≤ x1 ∧ x1 ≤ 8)) (k : Q (some (vI (-2))) (sc, ar)) : Ev 15 M_Dt_between (0, [some (vO 0), some (vI x1)], [], (sc, ar)) Q :=
  Ev.deep (d := 14) (by decide) (sgd_Dt_between_0 (ct_isTeamSize i1 (fun c => absurd c hk) (fun _ => sgd_Dt_between_4 ⟨by omega, fun c => absurd rfl c, fun _ => k⟩)))
theorem ox_team (hV : VV N tm nd ch od) (hI : IX N tm nd ch od sc ar) (i1 : inR x1) (i2 : inR x2) (hk : 1 ≤ x1 ∧ x1 ≤ 8) (a : tk N x2) (k : ∀ sc2 ar2 B F w, Pe sc ar sc2 ar2 → tbs nd N x1 (fun _ => True) B F w → Q (some (vI (w x2.toNat))) (sc2, ar2)) : Ev 15 M_Dt_team (0, [some (vO 0), some (vI x1), some (vI x2)], [], (sc, ar)) Q := by
  obtain ⟨hN, v1, v2, hR, hz, v5, v6, v7⟩ := id hV
  obtain ⟨h10, h49, h0, hnd, hch, hod⟩ := id hI
  refine Ev.deep (d := 14) (by decide) (sgd_Dt_team_0 (ct_isTask hN h10 i2 (fun _ => sgd_Dt_team_5 ⟨by omega, fun _ => ct_isTeamSize i1 (fun _ => sgd_Dt_team_14 ⟨by omega, fun _ => ?_, fun c => absurd (by decide) c⟩) (fun c => absurd hk c), fun c => absurd (by decide) c⟩) (fun c => absurd a c)))
  obtain ⟨p, rfl, hp⟩ := tk_nat a
  rw [h10]
  refine ct_teamFind hR hN hnd hk (fun sc2 ar2 pe h => sgd_Dt_team_36 (Ev.deep (by decide) (sg_Team_teamOf_0 (ct_valueOf (by decide) (by omega) (by show (p : Int) < 8; omega) (by show (8 : Int) < _; omega) (sg_Team_teamOf_8 (sgd_Dt_team_44 ?_))))))
  exact k sc2 ar2 _ _ _ pe h
theorem ox_team0 (hV : VV N tm nd ch od) (hI : IX N tm nd ch od sc ar) (i1 : inR x1) (i2 : inR x2) (h : ¬ ((1 ≤ x1 ∧ x1 ≤ 8) ∧ tk N x2)) (k : Q (some (vI (aOne N x2 (-1) (-2)))) (sc, ar)) : Ev 15 M_Dt_team (0, [some (vO 0), some (vI x1), some (vI x2)], [], (sc, ar)) Q := by
  obtain ⟨hN, v1, v2, hR, hz, v5, v6, v7⟩ := id hV
  obtain ⟨h10, h49, h0, hnd, hch, hod⟩ := id hI
  refine Ev.deep (d := 14) (by decide) (sgd_Dt_team_0 (ct_isTask hN h10 i2 (fun a => sgd_Dt_team_5 ⟨by omega, fun _ => ct_isTeamSize i1 (fun c => absurd ⟨c, a⟩ h) (fun _ => sgd_Dt_team_14 ⟨by omega, fun c => absurd rfl c, fun _ => ?_⟩), fun c => absurd (by decide) c⟩) (fun a => sgd_Dt_team_5 ⟨by omega, fun c => absurd rfl c, fun _ => ?_⟩)))
  · rw [aOne_yes a] at k
    exact k
  · rw [aOne_no a] at k
    exact k
theorem ox_force (hV : VV N tm nd ch od) (hI : IX N tm nd ch od sc ar) (i1 : inR x1) (i2 : inR x2) (i3 : inR x3) (a : tk N x1) (b : tk N x2) (k : ∀ sc2 ar2 F, Pe sc ar sc2 ar2 → FX nd N x1.toNat F → inL (toldF (F x2.toNat) 10000000 x3) → Q (some (vL (toldF (F x2.toNat) 10000000 x3))) (sc2, ar2)) : Ev 15 M_Dt_force (0, [some (vO 0), some (vI x1), some (vI x2), some (vI x3)], [], (sc, ar)) Q := by
  obtain ⟨hN, v1, v2, hR, hz, v5, v6, v7⟩ := id hV
  obtain ⟨h10, h49, h0, hnd, hch, hod⟩ := id hI
  have kn : ¬ (tk N x1 ∧ tk N x2) → Q (some (vL (-1))) (sc, ar) := fun h => absurd ⟨a, b⟩ h
  refine Ev.deep (by decide) (sg_Dt_force_0 (ct_isTask hN h10 i1 (fun a => sg_Dt_force_5 ⟨by omega, fun c => by omega, fun _ => ct_isTask hN h10 i2 (fun b => sg_Dt_force_13 ⟨by omega, fun _ => ?_, fun c => absurd (by decide) c⟩) (fun b => sg_Dt_force_13 ⟨by omega, fun c => absurd rfl c, fun _ => kn (fun z => b z.2)⟩)⟩) (fun a => sg_Dt_force_5 ⟨by omega, fun _ => kn (fun z => a z.1), fun c => absurd rfl c⟩)))
  obtain ⟨p, rfl, hp⟩ := tk_nat a
  obtain ⟨q, rfl, hq⟩ := tk_nat b
  simp only [Int.toNat_natCast] at k
  rw [h10]
  refine ct_from hR hz hN hp hnd (fun F v hF => sg_Dt_force_36 (ct_forceAt (t := q) (by omega) (sg_Dt_force_44 ?_)))
  have hb := hF.1 q (by omega)
  rw [up_eq]
  exact ⟨by omega, ct_inLeast (by omega) (by omega) i3 (sg_Dt_force_52 (k _ _ F ((Pe.rf.a 160 F).s 161 v) hF (told_bd (by omega) (by omega))))⟩
theorem ox_force0 (hV : VV N tm nd ch od) (hI : IX N tm nd ch od sc ar) (i1 : inR x1) (i2 : inR x2) (h : ¬ (tk N x1 ∧ tk N x2)) (k : Q (some (vL (-1))) (sc, ar)) : Ev 15 M_Dt_force (0, [some (vO 0), some (vI x1), some (vI x2), some (vI x3)], [], (sc, ar)) Q := by
  obtain ⟨hN, v1, v2, hR, hz, v5, v6, v7⟩ := id hV
  obtain ⟨h10, h49, h0, hnd, hch, hod⟩ := id hI
  have kn : ¬ (tk N x1 ∧ tk N x2) → Q (some (vL (-1))) (sc, ar) := fun _ => k
  refine Ev.deep (by decide) (sg_Dt_force_0 (ct_isTask hN h10 i1 (fun a => sg_Dt_force_5 ⟨by omega, fun c => by omega, fun _ => ct_isTask hN h10 i2 (fun b => sg_Dt_force_13 ⟨by omega, fun _ => ?_, fun c => absurd (by decide) c⟩) (fun b => sg_Dt_force_13 ⟨by omega, fun c => absurd rfl c, fun _ => kn (fun z => b z.2)⟩)⟩) (fun a => sg_Dt_force_5 ⟨by omega, fun _ => kn (fun z => a z.1), fun c => absurd rfl c⟩)))
  exact absurd ⟨a, b⟩ h
theorem ox_reach (hV : VV N tm nd ch od) (hI : IX N tm nd ch od sc ar) (i1 : inR x1) (i2 : inR x2) (a : tk N x1) (h2 : 1 ≤ x2 ∧ x2 ≤ 1000) (k : ∀ sc2 ar2 F, Pe sc ar sc2 ar2 → FX nd N x1.toNat F → Q (some (vI (sm (fun t => if F t < 10000 * x2 then 0 else 1) 8 - 1))) (sc2, ar2)) : Ev 15 M_Dt_reach (0, [some (vO 0), some (vI x1), some (vI x2), none], [], (sc, ar)) Q := by
  obtain ⟨hN, v1, v2, hR, hz, v5, v6, v7⟩ := id hV
  obtain ⟨h10, h49, h0, hnd, hch, hod⟩ := id hI
  refine Ev.deep (by decide) (sg_Dt_reach_0 (ct_isTask hN h10 i1 (fun _ => sg_Dt_reach_5 ⟨by omega, fun _ => ⟨i2, fun c => by omega, fun _ => ⟨i2, fun _ => ?_, fun c => by omega⟩⟩, fun c => absurd (by decide) c⟩) (fun c => absurd a c)))
  obtain ⟨p, rfl, hp⟩ := tk_nat a
  simp only [Int.toNat_natCast] at k
  rw [h10]
  exact ct_from hR hz hN hp hnd (fun F v hF => sg_Dt_reach_41 (ct_howManyF (F := F) (up_eq _ _ _) hF.1 (by omega) (sg_Dt_reach_55 (k _ _ F ((Pe.rf.a 160 F).s 161 v) hF))))
theorem ox_reach0 (hV : VV N tm nd ch od) (hI : IX N tm nd ch od sc ar) (i1 : inR x1) (i2 : inR x2) (h : ¬ (tk N x1 ∧ 1 ≤ x2 ∧ x2 ≤ 1000)) (k : Q (some (vI (aOne N x1 (-1) (-2)))) (sc, ar)) : Ev 15 M_Dt_reach (0, [some (vO 0), some (vI x1), some (vI x2), none], [], (sc, ar)) Q := by
  obtain ⟨hN, v1, v2, hR, hz, v5, v6, v7⟩ := id hV
  obtain ⟨h10, h49, h0, hnd, hch, hod⟩ := id hI
  refine Ev.deep (by decide) (sg_Dt_reach_0 (ct_isTask hN h10 i1 (fun a => sg_Dt_reach_5 ⟨by omega, fun _ => ⟨i2, fun c => ?_, fun _ => ⟨i2, fun _ => absurd ⟨a, by omega⟩ h, fun c => ?_⟩⟩, fun c => absurd (by decide) c⟩) (fun a => sg_Dt_reach_5 ⟨by omega, fun c => absurd rfl c, fun _ => ?_⟩)))
  · rw [aOne_yes a] at k
    exact k
  · rw [aOne_yes a] at k
    exact k
  · rw [aOne_no a] at k
    exact k
def aTot (N : Nat) (tm nd ch : Nat → Int) (x : Int) : Int := if x = 0 then (N : Int) else if x = 1 then sm (nz nd) 64 else if x = 2 then sm nd 64 else if x = 3 then sm (nz ch) 64 else if x = 4 then sm tm 8 else -2
theorem aTot_bd (hV : VV N tm nd ch od) (x : Int) : inR (aTot N tm nd ch x) := by
  obtain ⟨hN, v1, v2, hR, hz, v5, v6, v7⟩ := id hV
  have b1 := sm_bd (f := nz nd) (b := 1) 64 (fun i hi => by unfold nz; split <;> omega)
  have b2 := sm_bd (f := nd) (b := 9) 64 (fun i hi => hR i hi)
  have b3 := sm_bd (f := nz ch) (b := 1) 64 (fun i hi => by unfold nz; split <;> omega)
  have b4 := sm_bd (f := tm) (b := 20) 8 (fun i hi => v1 i hi)
  unfold aTot
  split
  · omega
  · split
    · omega
    · split
      · omega
      · split
        · omega
        · split <;> omega
theorem ox_total (hV : VV N tm nd ch od) (hI : IX N tm nd ch od sc ar) (i1 : inR x1) (k : inR (aTot N tm nd ch x1) → Q (some (vI (aTot N tm nd ch x1))) (sc, ar)) : Ev 15 M_Dt_total (0, [some (vO 0), some (vI x1)], [], (sc, ar)) Q := by
  obtain ⟨hN, v1, v2, hR, hz, v5, v6, v7⟩ := id hV
  obtain ⟨h10, h49, h0, hnd, hch, hod⟩ := id hI
  have k2 := k (aTot_bd hV x1)
  refine Ev.deep (by decide) (sg_Dt_total_0 (sg_Dt_total_1 ⟨i1, fun c => sg_Dt_total_70 ?_, fun c => sg_Dt_total_36 ?_, fun c => sg_Dt_total_41 (ct_howManyN (fun i hi => ?_) (sg_Dt_total_48 ?_)), fun c => sg_Dt_total_49 (ct_sum (sg_Dt_total_56 ?_)), fun c => sg_Dt_total_57 (ct_howManyC (fun i hi => ?_) (sg_Dt_total_64 ?_)), fun c => sg_Dt_total_65 (ct_times (sg_Dt_total_69 ?_))⟩))
  · unfold aTot at k2
    rw [if_neg (by omega), if_neg (by omega), if_neg (by omega), if_neg (by omega), if_neg (by omega)] at k2
    exact k2
  · unfold aTot at k2
    rw [if_pos c] at k2
    rw [h10]
    exact k2
  · rw [hnd]
    have := hR i hi
    omega
  · unfold aTot at k2
    rw [if_neg (by omega), if_pos c] at k2
    rw [hnd]
    exact k2
  · unfold aTot at k2
    rw [if_neg (by omega), if_neg (by omega), if_pos c] at k2
    rw [hnd]
    exact k2
  · rw [hch]
    have := v5 i hi
    omega
  · unfold aTot at k2
    rw [if_neg (by omega), if_neg (by omega), if_neg (by omega), if_pos c] at k2
    rw [hch]
    exact k2
  · unfold aTot at k2
    rw [if_neg (by omega), if_neg (by omega), if_neg (by omega), if_neg (by omega), if_pos c] at k2
    rw [h0]
    exact k2
end OPX

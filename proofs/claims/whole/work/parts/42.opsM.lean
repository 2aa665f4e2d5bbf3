/-! THE REFERENCE'S CALLS that change nothing; heads by tools/gen_opsm.py -/
section OPM
variable {sc : Nat → Int} {ar : Nat → Nat → Int} {Q : Option mV → mH → Prop} {N : Nat} {tm nd ch od : Nat → Int} {x1 x2 x3 : Int}
theorem om_strength (hV : VV N tm nd ch od) (hI : IM N tm nd ch od sc ar) (i1 : inR x1) (i2 : inR x2) (k : ∀ sc2 ar2, Pe sc ar sc2 ar2 → Q (some (vI (aTwo N x1 x2 (nd (8 * x1.toNat + x2.toNat))))) (sc2, ar2)) : Ev 15 M_Md_strength (0, [some (vO 11), some (vI x1), some (vI x2)], [], (sc, ar)) Q := by
  obtain ⟨hN, v1, v2, hR, hz, v5, v6, v7⟩ := id hV
  have h177o := hI.1
  have hJ : IM N tm nd ch od (up sc 176 0) ar := hI.pe (Pe.rf.s 176 0)
  obtain ⟨h177, h178, hnd, hch, hod⟩ := id hJ
  have pe : Pe sc ar (up sc 176 0) ar := Pe.rf.s 176 0
  have hzz : ∀ t, t < N → nd (8 * t + t) = 0 := fun t ht => hz t t (by omega) (by omega) (Or.inr (Or.inr rfl))
  have kn : ¬ (tk N x1 ∧ tk N x2) → Q (some (vI (-1))) (up sc 176 0, ar) := fun h => by
    have := k _ _ pe
    rw [aTwo_no h] at this
    exact this
  refine Ev.deep (by decide) (sg_Md_strength_0 (ct_no hN h177 i1 (fun a => sg_Md_strength_10 ⟨by omega, fun c => absurd rfl c, fun _ => ct_no hN h177 i2 (fun b => sg_Md_strength_18 ⟨by omega, fun _ => ?_, fun c => absurd rfl c⟩) (fun b => sg_Md_strength_18 ⟨by omega, fun c => by omega, fun _ => kn (fun z => b z.2)⟩)⟩) (fun a => sg_Md_strength_10 ⟨by omega, fun _ => kn (fun z => a z.1), fun c => absurd (by decide) c⟩)))
  obtain ⟨p, rfl, hp⟩ := tk_nat a
  obtain ⟨q, rfl, hq⟩ := tk_nat b
  simp only [aTwo_yes a b, Int.toNat_natCast] at k
  have e : (8 * (p : Int) + (q : Int)).toNat = 8 * p + q := by omega
  have hr := hR.at (show p < 8 by omega) (show q < 8 by omega)
  rw [e, hnd]
  exact ⟨by omega, by omega, k _ _ pe⟩
theorem om_leans (hV : VV N tm nd ch od) (hI : IM N tm nd ch od sc ar) (i1 : inR x1) (i2 : inR x2) (k : ∀ sc2 ar2, Pe sc ar sc2 ar2 → Q (some (vI (aTwo N x1 x2 (b2 (LL nd N x1.toNat x2.toNat))))) (sc2, ar2)) : Ev 15 M_Md_leans (0, [some (vO 11), some (vI x1), some (vI x2)], [], (sc, ar)) Q := by
  obtain ⟨hN, v1, v2, hR, hz, v5, v6, v7⟩ := id hV
  have h177o := hI.1
  have hJ : IM N tm nd ch od (up sc 176 0) ar := hI.pe (Pe.rf.s 176 0)
  obtain ⟨h177, h178, hnd, hch, hod⟩ := id hJ
  have pe : Pe sc ar (up sc 176 0) ar := Pe.rf.s 176 0
  have hzz : ∀ t, t < N → nd (8 * t + t) = 0 := fun t ht => hz t t (by omega) (by omega) (Or.inr (Or.inr rfl))
  have kn : ¬ (tk N x1 ∧ tk N x2) → Q (some (vI (-1))) (up sc 176 0, ar) := fun h => by
    have := k _ _ pe
    rw [aTwo_no h] at this
    exact this
  refine Ev.deep (by decide) (sg_Md_leans_0 (ct_no hN h177 i1 (fun a => sg_Md_leans_10 ⟨by omega, fun c => absurd rfl c, fun _ => ct_no hN h177 i2 (fun b => sg_Md_leans_18 ⟨by omega, fun _ => ?_, fun c => absurd rfl c⟩) (fun b => sg_Md_leans_18 ⟨by omega, fun c => by omega, fun _ => kn (fun z => b z.2)⟩)⟩) (fun a => sg_Md_leans_10 ⟨by omega, fun _ => kn (fun z => a z.1), fun c => absurd (by decide) c⟩)))
  obtain ⟨p, rfl, hp⟩ := tk_nat a
  obtain ⟨q, rfl, hq⟩ := tk_nat b
  simp only [aTwo_yes a b, Int.toNat_natCast] at k
  have e : (8 * (p : Int) + (q : Int)).toNat = 8 * p + q := by omega
  have hr := hR.at (show p < 8 by omega) (show q < 8 by omega)
  refine ct_leanM hN hnd hR hz (fun f hf => sg_Md_leans_27 ⟨by omega, by omega, ?_⟩)
  rw [up_eq, e, hf p q (by omega) (by omega)]
  have k2 := k _ _ (pe.a 183 f)
  refine ⟨b2_in _, fun c => ?_, fun c => ?_⟩
  · rw [c] at k2
    exact k2
  · have e : b2 (LL nd N p q) = 1 := by
      rw [b2_1.mp c]
      rfl
    rw [e] at k2
    exact k2
theorem om_blocks (hV : VV N tm nd ch od) (hI : IM N tm nd ch od sc ar)  (k : ∀ sc2 ar2, Pe sc ar sc2 ar2 → Q (some (vI (((bS nd N N).2.1 : Nat)))) (sc2, ar2)) : Ev 15 M_Md_blocks (0, [some (vO 11)], [], (sc, ar)) Q := by
  obtain ⟨hN, v1, v2, hR, hz, v5, v6, v7⟩ := id hV
  have h177o := hI.1
  have hJ : IM N tm nd ch od (up sc 176 0) ar := hI.pe (Pe.rf.s 176 0)
  obtain ⟨h177, h178, hnd, hch, hod⟩ := id hJ
  have pe : Pe sc ar (up sc 176 0) ar := Pe.rf.s 176 0
  have hzz : ∀ t, t < N → nd (8 * t + t) = 0 := fun t ht => hz t t (by omega) (by omega) (Or.inr (Or.inr rfl))
  refine Ev.deep (by decide) (sg_Md_blocks_0 ?_)
  exact ct_numbered hN hR hz h177 hnd (fun f g hg => sg_Md_blocks_9 (k _ _ ((pe.a 183 f).a 184 g)))
theorem om_block (hV : VV N tm nd ch od) (hI : IM N tm nd ch od sc ar) (i1 : inR x1) (k : ∀ sc2 ar2, Pe sc ar sc2 ar2 → Q (some (vI (aOne N x1 (-1) ((bS nd N N).2.2 x1.toNat)))) (sc2, ar2)) : Ev 15 M_Md_block (0, [some (vO 11), some (vI x1)], [], (sc, ar)) Q := by
  obtain ⟨hN, v1, v2, hR, hz, v5, v6, v7⟩ := id hV
  have h177o := hI.1
  have hJ : IM N tm nd ch od (up sc 176 0) ar := hI.pe (Pe.rf.s 176 0)
  obtain ⟨h177, h178, hnd, hch, hod⟩ := id hJ
  have pe : Pe sc ar (up sc 176 0) ar := Pe.rf.s 176 0
  have hzz : ∀ t, t < N → nd (8 * t + t) = 0 := fun t ht => hz t t (by omega) (by omega) (Or.inr (Or.inr rfl))
  have kn : ¬ tk N x1 → Q (some (vI (-1))) (up sc 176 0, ar) := fun h => by
    have := k _ _ pe
    rw [aOne_no h] at this
    exact this
  refine Ev.deep (by decide) (sg_Md_block_0 (ct_no hN h177 i1 (fun a => sg_Md_block_10 ⟨by omega, fun _ => ?_, fun c => absurd rfl c⟩) (fun a => sg_Md_block_10 ⟨by omega, fun c => by omega, fun _ => kn a⟩)))
  obtain ⟨p, rfl, hp⟩ := tk_nat a
  simp only [aOne_yes a, Int.toNat_natCast] at k
  refine ct_numbered hN hR hz h177 hnd (fun f g hg => sg_Md_block_19 ⟨by omega, by omega, ?_⟩)
  rw [up_eq, Int.toNat_natCast, hg p hp]
  exact k _ _ ((pe.a 183 f).a 184 g)
theorem om_least (hV : VV N tm nd ch od) (hI : IM N tm nd ch od sc ar)  (k : ∀ sc2 ar2, Pe sc ar sc2 ar2 → Q (some (vI (LV nd N 0))) (sc2, ar2)) : Ev 15 M_Md_least (0, [some (vO 11)], [], (sc, ar)) Q := by
  obtain ⟨hN, v1, v2, hR, hz, v5, v6, v7⟩ := id hV
  have h177o := hI.1
  have hJ : IM N tm nd ch od (up sc 176 0) ar := hI.pe (Pe.rf.s 176 0)
  obtain ⟨h177, h178, hnd, hch, hod⟩ := id hJ
  have pe : Pe sc ar (up sc 176 0) ar := Pe.rf.s 176 0
  have hzz : ∀ t, t < N → nd (8 * t + t) = 0 := fun t ht => hz t t (by omega) (by omega) (Or.inr (Or.inr rfl))
  refine Ev.deep (by decide) (sg_Md_least_0 ?_)
  exact ct_leastOf hR hN h177 hnd hzz (fun f hf => sg_Md_least_9 (k _ _ (pe.a 182 f)))
theorem om_leastAt (hV : VV N tm nd ch od) (hI : IM N tm nd ch od sc ar) (i1 : inR x1) (k : ∀ sc2 ar2, Pe sc ar sc2 ar2 → Q (some (vI (aOne N x1 (-9) (LO nd N x1.toNat)))) (sc2, ar2)) : Ev 15 M_Md_leastAt (0, [some (vO 11), some (vI x1)], [], (sc, ar)) Q := by
  obtain ⟨hN, v1, v2, hR, hz, v5, v6, v7⟩ := id hV
  have h177o := hI.1
  have hJ : IM N tm nd ch od (up sc 176 0) ar := hI.pe (Pe.rf.s 176 0)
  obtain ⟨h177, h178, hnd, hch, hod⟩ := id hJ
  have pe : Pe sc ar (up sc 176 0) ar := Pe.rf.s 176 0
  have hzz : ∀ t, t < N → nd (8 * t + t) = 0 := fun t ht => hz t t (by omega) (by omega) (Or.inr (Or.inr rfl))
  refine Ev.deep (by decide) (sg_Md_leastAt_0 ⟨i1, by omega, ct_in i1 (by omega) (by omega) (fun c => sg_Md_leastAt_18 ⟨by omega, fun _ => ?_, fun c => absurd (by decide) c⟩) (fun c => sg_Md_leastAt_18 ⟨by omega, fun c => absurd rfl c, fun _ => ?_⟩)⟩)
  · have a : tk N x1 := ⟨by omega, by omega⟩
    obtain ⟨p, rfl, hp⟩ := tk_nat a
    simp only [aOne_yes a, Int.toNat_natCast] at k
    refine ct_leastRow hR hN h177 hnd hzz (fun f => sg_Md_leastAt_28 ⟨by omega, by omega, ?_⟩)
    rw [up_eq, Int.toNat_natCast, wr_at, if_pos hp]
    exact k _ _ ((pe.a 182 f).a 188 _)
  · have := k _ _ pe
    rw [aOne_no (fun z => c ⟨z.1, by have := z.2; omega⟩)] at this
    exact this
theorem om_saved (hV : VV N tm nd ch od) (hI : IM N tm nd ch od sc ar) (i1 : inR x1) (i2 : inR x2) (k : ∀ sc2 ar2, Pe sc ar sc2 ar2 → Q (some (vI (aTwo N x1 x2 (LV nd N 0 - LV (up nd (8 * x1.toNat + x2.toNat) 0) N 0)))) (sc2, ar2)) : Ev 15 M_Md_saved (0, [some (vO 11), some (vI x1), some (vI x2), none, none, none], [], (sc, ar)) Q := by
  obtain ⟨hN, v1, v2, hR, hz, v5, v6, v7⟩ := id hV
  have h177o := hI.1
  have hJ : IM N tm nd ch od (up sc 176 0) ar := hI.pe (Pe.rf.s 176 0)
  obtain ⟨h177, h178, hnd, hch, hod⟩ := id hJ
  have pe : Pe sc ar (up sc 176 0) ar := Pe.rf.s 176 0
  have hzz : ∀ t, t < N → nd (8 * t + t) = 0 := fun t ht => hz t t (by omega) (by omega) (Or.inr (Or.inr rfl))
  have kn : ¬ (tk N x1 ∧ tk N x2) → Q (some (vI (-1))) (up sc 176 0, ar) := fun h => by
    have := k _ _ pe
    rw [aTwo_no h] at this
    exact this
  refine Ev.deep (by decide) (sg_Md_saved_0 (ct_no hN h177 i1 (fun a => sg_Md_saved_10 ⟨by omega, fun c => absurd rfl c, fun _ => ct_no hN h177 i2 (fun b => sg_Md_saved_18 ⟨by omega, fun _ => ?_, fun c => absurd rfl c⟩) (fun b => sg_Md_saved_18 ⟨by omega, fun c => by omega, fun _ => kn (fun z => b z.2)⟩)⟩) (fun a => sg_Md_saved_10 ⟨by omega, fun _ => kn (fun z => a z.1), fun c => absurd (by decide) c⟩)))
  obtain ⟨p, rfl, hp⟩ := tk_nat a
  obtain ⟨q, rfl, hq⟩ := tk_nat b
  simp only [aTwo_yes a b, Int.toNat_natCast] at k
  have e : (8 * (p : Int) + (q : Int)).toNat = 8 * p + q := by omega
  have hr := hR.at (show p < 8 by omega) (show q < 8 by omega)
  have hR2 : R9 (up nd (8 * p + q) 0) := fun i hi => by
    by_cases c : i = 8 * p + q
    · rw [c, up_eq]
      omega
    · rw [up_ne _ _ c]
      exact hR i hi
  have hz2 : ∀ t, t < N → up nd (8 * p + q) 0 (8 * t + t) = 0 := fun t ht => by
    by_cases c : 8 * t + t = 8 * p + q
    · rw [c, up_eq]
    · rw [up_ne _ _ c]
      exact hzz t ht
  refine ct_leastOf hR hN h177 hnd hzz (fun f hf => sg_Md_saved_27 ?_)
  have e179 : up ar 182 f 179 = nd := by
    rw [up_ne _ _ (by decide)]
    exact hnd
  rw [e179, e]
  refine ⟨by omega, by omega, by omega, by omega, ct_leastOf hR2 hN h177 (up_eq _ _ _) hz2 (fun f2 hf2 => sg_Md_saved_57 ⟨by omega, by omega, k _ _ ⟨pe.1, fun i hi => ?_⟩⟩)⟩
  rw [e, up_ne _ _ (show (179 : Nat) ≠ 182 by decide), up_eq, up_up, up_id]
  by_cases c : i = 179
  · rw [c, up_eq, hnd]
  · have c80 : i ≠ 182 := fun w => by rw [w] at hi; revert hi; decide
    rw [up_ne _ _ c, up_ne _ _ c80, up_ne _ _ c, up_ne _ _ c80]
theorem om_at (hV : VV N tm nd ch od) (hI : IM N tm nd ch od sc ar) (i1 : inR x1) (k : ∀ sc2 ar2, Pe sc ar sc2 ar2 → Q (some (vI (aOne N x1 (-9) (od x1.toNat)))) (sc2, ar2)) : Ev 15 M_Md_at (0, [some (vO 11), some (vI x1)], [], (sc, ar)) Q := by
  obtain ⟨hN, v1, v2, hR, hz, v5, v6, v7⟩ := id hV
  have h177o := hI.1
  have hJ : IM N tm nd ch od (up sc 176 0) ar := hI.pe (Pe.rf.s 176 0)
  obtain ⟨h177, h178, hnd, hch, hod⟩ := id hJ
  have pe : Pe sc ar (up sc 176 0) ar := Pe.rf.s 176 0
  have hzz : ∀ t, t < N → nd (8 * t + t) = 0 := fun t ht => hz t t (by omega) (by omega) (Or.inr (Or.inr rfl))
  have k2 := k _ _ pe
  refine Ev.deep (by decide) (sg_Md_at_0 ⟨i1, by omega, ct_in i1 (by omega) (by omega) (fun c => sg_Md_at_18 ⟨by omega, fun c => by omega, fun _ => ⟨by omega, by omega, ?_⟩⟩) (fun c => sg_Md_at_18 ⟨by omega, fun _ => ?_, fun c => absurd rfl c⟩)⟩)
  · rw [aOne_yes ⟨by omega, by omega⟩] at k2
    rw [hod]
    exact k2
  · rw [aOne_no (fun z => c ⟨z.1, by have := z.2; omega⟩)] at k2
    exact k2
theorem om_guess (hV : VV N tm nd ch od) (hI : IM N tm nd ch od sc ar)  (k : ∀ sc2 ar2, Pe sc ar sc2 ar2 → Q (some (vI (GS nd od N))) (sc2, ar2)) : Ev 15 M_Md_guess (0, [some (vO 11)], [], (sc, ar)) Q := by
  obtain ⟨hN, v1, v2, hR, hz, v5, v6, v7⟩ := id hV
  have h177o := hI.1
  have hJ : IM N tm nd ch od (up sc 176 0) ar := hI.pe (Pe.rf.s 176 0)
  obtain ⟨h177, h178, hnd, hch, hod⟩ := id hJ
  have pe : Pe sc ar (up sc 176 0) ar := Pe.rf.s 176 0
  have hzz : ∀ t, t < N → nd (8 * t + t) = 0 := fun t ht => hz t t (by omega) (by omega) (Or.inr (Or.inr rfl))
  refine Ev.deep (by decide) (sg_Md_guess_0 ?_)
  exact ct_guessM hV h177 hod hnd (sg_Md_guess_9 (k _ _ pe))
theorem om_torn (hV : VV N tm nd ch od) (hI : IM N tm nd ch od sc ar) (i1 : inR x1) (i2 : inR x2) (k : ∀ sc2 ar2, Pe sc ar sc2 ar2 → Q (some (vI (aTwo N x1 x2 (if nd (8 * x1.toNat + x2.toNat) ≤ 0 then 0 else if pl N od x2.toNat ≤ pl N od x1.toNat then 0 else 1)))) (sc2, ar2)) : Ev 15 M_Md_torn (0, [some (vO 11), some (vI x1), some (vI x2)], [], (sc, ar)) Q := by
  obtain ⟨hN, v1, v2, hR, hz, v5, v6, v7⟩ := id hV
  have h177o := hI.1
  have hJ : IM N tm nd ch od (up sc 176 0) ar := hI.pe (Pe.rf.s 176 0)
  obtain ⟨h177, h178, hnd, hch, hod⟩ := id hJ
  have pe : Pe sc ar (up sc 176 0) ar := Pe.rf.s 176 0
  have hzz : ∀ t, t < N → nd (8 * t + t) = 0 := fun t ht => hz t t (by omega) (by omega) (Or.inr (Or.inr rfl))
  have kn : ¬ (tk N x1 ∧ tk N x2) → Q (some (vI (-1))) (up sc 176 0, ar) := fun h => by
    have := k _ _ pe
    rw [aTwo_no h] at this
    exact this
  refine Ev.deep (by decide) (sg_Md_torn_0 (ct_no hN h177 i1 (fun a => sg_Md_torn_10 ⟨by omega, fun c => absurd rfl c, fun _ => ct_no hN h177 i2 (fun b => sg_Md_torn_18 ⟨by omega, fun _ => ?_, fun c => absurd rfl c⟩) (fun b => sg_Md_torn_18 ⟨by omega, fun c => by omega, fun _ => kn (fun z => b z.2)⟩)⟩) (fun a => sg_Md_torn_10 ⟨by omega, fun _ => kn (fun z => a z.1), fun c => absurd (by decide) c⟩)))
  obtain ⟨p, rfl, hp⟩ := tk_nat a
  obtain ⟨q, rfl, hq⟩ := tk_nat b
  simp only [aTwo_yes a b, Int.toNat_natCast] at k
  have e : (8 * (p : Int) + (q : Int)).toNat = 8 * p + q := by omega
  have hr := hR.at (show p < 8 by omega) (show q < 8 by omega)
  obtain ⟨hp1, hp2⟩ := pl_ok v7 hp
  obtain ⟨hq1, hq2⟩ := pl_ok v7 hq
  have k2 := k _ _ pe
  rw [e, hnd]
  refine ⟨by omega, by omega, by omega, fun c => ?_, fun c => ct_placeM hN h177 hod v7 (by omega) hq1 hq2 (sg_Md_torn_44 (ct_placeM hN h177 hod v7 (by omega) hp1 hp2 (sg_Md_torn_49 ⟨by omega, by omega, fun c2 => ?_, fun c2 => ?_⟩)))⟩
  · rw [if_pos c] at k2
    exact k2
  · rw [if_neg c, if_pos (by omega)] at k2
    exact k2
  · rw [if_neg c, if_neg (by omega)] at k2
    exact k2
theorem om_mean (hV : VV N tm nd ch od) (hI : IM N tm nd ch od sc ar) (i1 : inR x1) (k : ∀ sc2 ar2, Pe sc ar sc2 ar2 → Q (some (vL (toldF (TT ch od (fun p => tm (od p).toNat) N) (BL ch od N) x1))) (sc2, ar2)) : Ev 15 M_Md_mean (0, [some (vO 11), some (vI x1)], [], (sc, ar)) Q := by
  obtain ⟨hN, v1, v2, hR, hz, v5, v6, v7⟩ := id hV
  have h177o := hI.1
  have hJ : IM N tm nd ch od (up sc 176 0) ar := hI.pe (Pe.rf.s 176 0)
  obtain ⟨h177, h178, hnd, hch, hod⟩ := id hJ
  have pe : Pe sc ar (up sc 176 0) ar := Pe.rf.s 176 0
  have hzz : ∀ t, t < N → nd (8 * t + t) = 0 := fun t ht => hz t t (by omega) (by omega) (Or.inr (Or.inr rfl))
  refine Ev.deep (by decide) (sg_Md_mean_0 ?_)
  exact ct_meanOf (c := fun p => tm (od p).toNat) hV hJ (by omega) i1 (fun p hp => ⟨fun _ => rfl, fun c => absurd rfl c⟩) (fun f g => sg_Md_mean_12 (k _ _ ((pe.a 185 f).a 186 g)))
theorem om_often (hV : VV N tm nd ch od) (hI : IM N tm nd ch od sc ar) (i1 : inR x1) (i2 : inR x2) (k : ∀ sc2 ar2, Pe sc ar sc2 ar2 → Q (some (vL (aOne N x1 (-1) (toldF (TT ch od (fun p => if (od p).toNat = x1.toNat then 1 else 0) N) (BL ch od N) x2)))) (sc2, ar2)) : Ev 15 M_Md_often (0, [some (vO 11), some (vI x1), some (vI x2)], [], (sc, ar)) Q := by
  obtain ⟨hN, v1, v2, hR, hz, v5, v6, v7⟩ := id hV
  have h177o := hI.1
  have hJ : IM N tm nd ch od (up sc 176 0) ar := hI.pe (Pe.rf.s 176 0)
  obtain ⟨h177, h178, hnd, hch, hod⟩ := id hJ
  have pe : Pe sc ar (up sc 176 0) ar := Pe.rf.s 176 0
  have hzz : ∀ t, t < N → nd (8 * t + t) = 0 := fun t ht => hz t t (by omega) (by omega) (Or.inr (Or.inr rfl))
  have kn : ¬ tk N x1 → Q (some (vL (-1))) (up sc 176 0, ar) := fun h => by
    have := k _ _ pe
    rw [aOne_no h] at this
    exact this
  refine Ev.deep (by decide) (sg_Md_often_0 (ct_no hN h177 i1 (fun a => sg_Md_often_10 ⟨by omega, fun _ => ?_, fun c => absurd rfl c⟩) (fun a => sg_Md_often_10 ⟨by omega, fun c => by omega, fun _ => sg_Md_often_25 (kn a)⟩)))
  obtain ⟨p, rfl, hp⟩ := tk_nat a
  simp only [aOne_yes a, Int.toNat_natCast] at k
  refine ct_meanOf (c := fun r => if (od r).toNat = p then 1 else 0) hV hJ (by omega) i2 (fun r hr => ⟨fun c => by omega, fun _ => ⟨fun c => ?_, fun c => ?_⟩⟩) (fun f g => sg_Md_often_25 (k _ _ ((pe.a 185 f).a 186 g)))
  · have := v7.1 r (by omega)
    exact if_neg (by omega)
  · exact if_pos (by omega)
theorem om_ends (hV : VV N tm nd ch od) (hI : IM N tm nd ch od sc ar) (i1 : inR x1) (k : ∀ sc2 ar2, Pe sc ar sc2 ar2 → Q (some (vI (aOne N x1 (-1) (EF tm nd od (pl N od x1.toNat))))) (sc2, ar2)) : Ev 15 M_Md_ends (0, [some (vO 11), some (vI x1)], [], (sc, ar)) Q := by
  obtain ⟨hN, v1, v2, hR, hz, v5, v6, v7⟩ := id hV
  have h177o := hI.1
  have hJ : IM N tm nd ch od (up sc 176 0) ar := hI.pe (Pe.rf.s 176 0)
  obtain ⟨h177, h178, hnd, hch, hod⟩ := id hJ
  have pe : Pe sc ar (up sc 176 0) ar := Pe.rf.s 176 0
  have hzz : ∀ t, t < N → nd (8 * t + t) = 0 := fun t ht => hz t t (by omega) (by omega) (Or.inr (Or.inr rfl))
  have kn : ¬ tk N x1 → Q (some (vI (-1))) (up sc 176 0, ar) := fun h => by
    have := k _ _ pe
    rw [aOne_no h] at this
    exact this
  refine Ev.deep (by decide) (sg_Md_ends_0 (ct_no hN h177 i1 (fun a => sg_Md_ends_10 ⟨by omega, fun _ => ?_, fun c => absurd rfl c⟩) (fun a => sg_Md_ends_10 ⟨by omega, fun c => by omega, fun _ => kn a⟩)))
  obtain ⟨p, rfl, hp⟩ := tk_nat a
  simp only [aOne_yes a, Int.toNat_natCast] at k
  obtain ⟨hp1, hp2⟩ := pl_ok v7 hp
  refine ct_besideM hV hJ (fun g hg => sg_Md_ends_19 ⟨by omega, by omega, ?_⟩)
  have := hg _ hp1
  rw [hp2] at this
  rw [up_eq, this]
  exact k _ _ (pe.a 187 g)
theorem om_span (hV : VV N tm nd ch od) (hI : IM N tm nd ch od sc ar)  (k : ∀ sc2 ar2, Pe sc ar sc2 ar2 → Q (some (vI (mxF (EF tm nd od) N))) (sc2, ar2)) : Ev 15 M_Md_span (0, [some (vO 11)], [], (sc, ar)) Q := by
  obtain ⟨hN, v1, v2, hR, hz, v5, v6, v7⟩ := id hV
  have h177o := hI.1
  have hJ : IM N tm nd ch od (up sc 176 0) ar := hI.pe (Pe.rf.s 176 0)
  obtain ⟨h177, h178, hnd, hch, hod⟩ := id hJ
  have pe : Pe sc ar (up sc 176 0) ar := Pe.rf.s 176 0
  have hzz : ∀ t, t < N → nd (8 * t + t) = 0 := fun t ht => hz t t (by omega) (by omega) (Or.inr (Or.inr rfl))
  refine Ev.deep (by decide) (sg_Md_span_0 ?_)
  exact ct_besideM hV hJ (fun g hg => sg_Md_span_9 (k _ _ (pe.a 187 g)))
theorem om_between (hV : VV N tm nd ch od) (hI : IM N tm nd ch od sc ar) (i1 : inR x1) (hk : 1 ≤ x1 ∧ x1 ≤ 8) (k : ∀ sc2 ar2 B F w, Pe sc ar sc2 ar2 → tbs nd N x1 (fun _ => True) B F w → Q (some (vI B)) (sc2, ar2)) : Ev 15 M_Md_between (0, [some (vO 11), some (vI x1)], [], (sc, ar)) Q := by
  obtain ⟨hN, v1, v2, hR, hz, v5, v6, v7⟩ := id hV
  have h177o := hI.1
  have hJ : IM N tm nd ch od (up sc 176 0) ar := hI.pe (Pe.rf.s 176 0)
  obtain ⟨h177, h178, hnd, hch, hod⟩ := id hJ
  have pe : Pe sc ar (up sc 176 0) ar := Pe.rf.s 176 0
  have hzz : ∀ t, t < N → nd (8 * t + t) = 0 := fun t ht => hz t t (by omega) (by omega) (Or.inr (Or.inr rfl))
  refine Ev.deep (by decide) (sg_Md_between_0 ⟨i1, ct_in i1 (by omega) (by omega) (fun _ => sg_Md_between_14 ⟨by omega, fun _ => ct_teams hR hN hk h177 hnd (fun B F r w h => sg_Md_between_25 ?_), fun c => absurd (by decide) c⟩) (fun c => absurd hk c)⟩)
  rw [up_eq]
  exact k _ _ B F w (((pe.a 188 r).a 189 w).s 190 B) h
theorem om_between0 (hV : VV N tm nd ch od) (hI : IM N tm nd ch od sc ar) (i1 : inR x1) (hk : ¬ (1 ≤ x1 ∧ x1 ≤ 8)) (k : ∀ sc2 ar2, Pe sc ar sc2 ar2 → Q (some (vI (-2))) (sc2, ar2)) : Ev 15 M_Md_between (0, [some (vO 11), some (vI x1)], [], (sc, ar)) Q :=
  Ev.deep (by decide) (sg_Md_between_0 ⟨i1, ct_in i1 (by omega) (by omega) (fun c => absurd c hk) (fun _ => sg_Md_between_14 ⟨by omega, fun c => absurd rfl c, fun _ => k _ _ (Pe.rf.s 176 0)⟩)⟩)
theorem om_team (hV : VV N tm nd ch od) (hI : IM N tm nd ch od sc ar) (i1 : inR x1) (i2 : inR x2) (hk : 1 ≤ x1 ∧ x1 ≤ 8) (a : tk N x2) (k : ∀ sc2 ar2 B F w, Pe sc ar sc2 ar2 → tbs nd N x1 (fun _ => True) B F w → Q (some (vI (w x2.toNat))) (sc2, ar2)) : Ev 15 M_Md_team (0, [some (vO 11), some (vI x1), some (vI x2)], [], (sc, ar)) Q := by
  obtain ⟨hN, v1, v2, hR, hz, v5, v6, v7⟩ := id hV
  have h177o := hI.1
  have hJ : IM N tm nd ch od (up sc 176 0) ar := hI.pe (Pe.rf.s 176 0)
  obtain ⟨h177, h178, hnd, hch, hod⟩ := id hJ
  have pe : Pe sc ar (up sc 176 0) ar := Pe.rf.s 176 0
  have hzz : ∀ t, t < N → nd (8 * t + t) = 0 := fun t ht => hz t t (by omega) (by omega) (Or.inr (Or.inr rfl))
  refine Ev.deep (by decide) (sg_Md_team_0 (ct_no hN h177 i2 (fun _ => sg_Md_team_10 ⟨by omega, fun _ => ⟨i1, ct_in i1 (by omega) (by omega) (fun _ => sg_Md_team_24 ⟨by omega, fun _ => ct_teams hR hN hk h177 hnd (fun B F r w h => sg_Md_team_35 ⟨a.1, by have := a.2; omega, ?_⟩), fun c => absurd (by decide) c⟩) (fun c => absurd hk c)⟩, fun c => absurd rfl c⟩) (fun c => absurd a c)))
  rw [up_eq]
  exact k _ _ B F w (((pe.a 188 r).a 189 w).s 190 B) h
theorem om_team0 (hV : VV N tm nd ch od) (hI : IM N tm nd ch od sc ar) (i1 : inR x1) (i2 : inR x2) (h : ¬ ((1 ≤ x1 ∧ x1 ≤ 8) ∧ tk N x2)) (k : ∀ sc2 ar2, Pe sc ar sc2 ar2 → Q (some (vI (aOne N x2 (-1) (-2)))) (sc2, ar2)) : Ev 15 M_Md_team (0, [some (vO 11), some (vI x1), some (vI x2)], [], (sc, ar)) Q := by
  obtain ⟨hN, v1, v2, hR, hz, v5, v6, v7⟩ := id hV
  have h177o := hI.1
  have hJ : IM N tm nd ch od (up sc 176 0) ar := hI.pe (Pe.rf.s 176 0)
  obtain ⟨h177, h178, hnd, hch, hod⟩ := id hJ
  have pe : Pe sc ar (up sc 176 0) ar := Pe.rf.s 176 0
  have hzz : ∀ t, t < N → nd (8 * t + t) = 0 := fun t ht => hz t t (by omega) (by omega) (Or.inr (Or.inr rfl))
  have k2 := k _ _ pe
  refine Ev.deep (by decide) (sg_Md_team_0 (ct_no hN h177 i2 (fun a => sg_Md_team_10 ⟨by omega, fun _ => ⟨i1, ct_in i1 (by omega) (by omega) (fun c => absurd ⟨c, a⟩ h) (fun _ => sg_Md_team_24 ⟨by omega, fun c => absurd rfl c, fun _ => ?_⟩)⟩, fun c => absurd rfl c⟩) (fun a => sg_Md_team_10 ⟨by omega, fun c => by omega, fun _ => ?_⟩)))
  · rw [aOne_yes a] at k2
    exact k2
  · rw [aOne_no a] at k2
    exact k2
theorem om_force (hV : VV N tm nd ch od) (hI : IM N tm nd ch od sc ar) (i1 : inR x1) (i2 : inR x2) (i3 : inR x3) (a : tk N x1) (b : tk N x2) (k : ∀ sc2 ar2 F, Pe sc ar sc2 ar2 → FM nd N x1.toNat F → Q (some (vL (toldF (F x2.toNat) 10000000 x3))) (sc2, ar2)) : Ev 15 M_Md_force (0, [some (vO 11), some (vI x1), some (vI x2), some (vI x3)], [], (sc, ar)) Q := by
  obtain ⟨hN, v1, v2, hR, hz, v5, v6, v7⟩ := id hV
  have h177o := hI.1
  have hJ : IM N tm nd ch od (up sc 176 0) ar := hI.pe (Pe.rf.s 176 0)
  obtain ⟨h177, h178, hnd, hch, hod⟩ := id hJ
  have pe : Pe sc ar (up sc 176 0) ar := Pe.rf.s 176 0
  have hzz : ∀ t, t < N → nd (8 * t + t) = 0 := fun t ht => hz t t (by omega) (by omega) (Or.inr (Or.inr rfl))
  have kn : ¬ (tk N x1 ∧ tk N x2) → Q (some (vL (-1))) (up sc 176 0, ar) := fun h => absurd ⟨a, b⟩ h
  refine Ev.deep (by decide) (sg_Md_force_0 (ct_no hN h177 i1 (fun a => sg_Md_force_10 ⟨by omega, fun c => absurd rfl c, fun _ => ct_no hN h177 i2 (fun b => sg_Md_force_18 ⟨by omega, fun _ => ?_, fun c => absurd rfl c⟩) (fun b => sg_Md_force_18 ⟨by omega, fun c => by omega, fun _ => kn (fun z => b z.2)⟩)⟩) (fun a => sg_Md_force_10 ⟨by omega, fun _ => kn (fun z => a z.1), fun c => absurd (by decide) c⟩)))
  obtain ⟨p, rfl, hp⟩ := tk_nat a
  obtain ⟨q, rfl, hq⟩ := tk_nat b
  simp only [Int.toNat_natCast] at k
  refine ct_forces hR hz hN hp h177 hnd (fun F hF => sg_Md_force_30 ⟨by omega, by omega, ?_⟩)
  have hb := hF.1 q (by omega)
  rw [up_eq, Int.toNat_natCast]
  exact ct_told (by omega) (by omega) i3 (sg_Md_force_43 (k _ _ F (pe.a 191 F) hF))
theorem om_force0 (hV : VV N tm nd ch od) (hI : IM N tm nd ch od sc ar) (i1 : inR x1) (i2 : inR x2) (h : ¬ (tk N x1 ∧ tk N x2)) (k : ∀ sc2 ar2, Pe sc ar sc2 ar2 → Q (some (vL (-1))) (sc2, ar2)) : Ev 15 M_Md_force (0, [some (vO 11), some (vI x1), some (vI x2), some (vI x3)], [], (sc, ar)) Q := by
  obtain ⟨hN, v1, v2, hR, hz, v5, v6, v7⟩ := id hV
  have h177o := hI.1
  have hJ : IM N tm nd ch od (up sc 176 0) ar := hI.pe (Pe.rf.s 176 0)
  obtain ⟨h177, h178, hnd, hch, hod⟩ := id hJ
  have pe : Pe sc ar (up sc 176 0) ar := Pe.rf.s 176 0
  have hzz : ∀ t, t < N → nd (8 * t + t) = 0 := fun t ht => hz t t (by omega) (by omega) (Or.inr (Or.inr rfl))
  have kn : ¬ (tk N x1 ∧ tk N x2) → Q (some (vL (-1))) (up sc 176 0, ar) := fun _ => k _ _ pe
  refine Ev.deep (by decide) (sg_Md_force_0 (ct_no hN h177 i1 (fun a => sg_Md_force_10 ⟨by omega, fun c => absurd rfl c, fun _ => ct_no hN h177 i2 (fun b => sg_Md_force_18 ⟨by omega, fun _ => ?_, fun c => absurd rfl c⟩) (fun b => sg_Md_force_18 ⟨by omega, fun c => by omega, fun _ => kn (fun z => b z.2)⟩)⟩) (fun a => sg_Md_force_10 ⟨by omega, fun _ => kn (fun z => a z.1), fun c => absurd (by decide) c⟩)))
  exact absurd ⟨a, b⟩ h
theorem om_reach (hV : VV N tm nd ch od) (hI : IM N tm nd ch od sc ar) (i1 : inR x1) (i2 : inR x2) (a : tk N x1) (h2 : 1 ≤ x2 ∧ x2 ≤ 1000) (k : ∀ sc2 ar2 F, Pe sc ar sc2 ar2 → FM nd N x1.toNat F → Q (some (vI (sm (fun t => if t = x1.toNat then 0 else if F t < x2 * 10000 then 0 else 1) N))) (sc2, ar2)) : Ev 15 M_Md_reach (0, [some (vO 11), some (vI x1), some (vI x2), none, none], [], (sc, ar)) Q := by
  obtain ⟨hN, v1, v2, hR, hz, v5, v6, v7⟩ := id hV
  have h177o := hI.1
  have hJ : IM N tm nd ch od (up sc 176 0) ar := hI.pe (Pe.rf.s 176 0)
  obtain ⟨h177, h178, hnd, hch, hod⟩ := id hJ
  have pe : Pe sc ar (up sc 176 0) ar := Pe.rf.s 176 0
  have hzz : ∀ t, t < N → nd (8 * t + t) = 0 := fun t ht => hz t t (by omega) (by omega) (Or.inr (Or.inr rfl))
  refine Ev.deep (by decide) (sg_Md_reach_0 (ct_no hN h177 i1 (fun _ => sg_Md_reach_10 ⟨by omega, fun _ => ⟨i2, ct_in i2 (by omega) (by omega) (fun _ => sg_Md_reach_24 ⟨by omega, fun _ => ?_, fun c => absurd (by decide) c⟩) (fun c => absurd h2 c)⟩, fun c => absurd rfl c⟩) (fun c => absurd a c)))
  obtain ⟨p, rfl, hp⟩ := tk_nat a
  simp only [Int.toNat_natCast] at k
  exact ct_forces hR hz hN hp h177 hnd (fun F hF => sg_Md_reach_35 (lp_reachM hN hp h177 (up_eq _ _ _) hF.1 h2 (k _ _ F (pe.a 191 F) hF) N 0 (by omega)))
theorem om_reach0 (hV : VV N tm nd ch od) (hI : IM N tm nd ch od sc ar) (i1 : inR x1) (i2 : inR x2) (h : ¬ (tk N x1 ∧ 1 ≤ x2 ∧ x2 ≤ 1000)) (k : ∀ sc2 ar2, Pe sc ar sc2 ar2 → Q (some (vI (aOne N x1 (-1) (-2)))) (sc2, ar2)) : Ev 15 M_Md_reach (0, [some (vO 11), some (vI x1), some (vI x2), none, none], [], (sc, ar)) Q := by
  obtain ⟨hN, v1, v2, hR, hz, v5, v6, v7⟩ := id hV
  have h177o := hI.1
  have hJ : IM N tm nd ch od (up sc 176 0) ar := hI.pe (Pe.rf.s 176 0)
  obtain ⟨h177, h178, hnd, hch, hod⟩ := id hJ
  have pe : Pe sc ar (up sc 176 0) ar := Pe.rf.s 176 0
  have hzz : ∀ t, t < N → nd (8 * t + t) = 0 := fun t ht => hz t t (by omega) (by omega) (Or.inr (Or.inr rfl))
  have k2 := k _ _ pe
  refine Ev.deep (by decide) (sg_Md_reach_0 (ct_no hN h177 i1 (fun a => sg_Md_reach_10 ⟨by omega, fun _ => ⟨i2, ct_in i2 (by omega) (by omega) (fun c => absurd ⟨a, c⟩ h) (fun _ => sg_Md_reach_24 ⟨by omega, fun c => absurd rfl c, fun _ => ?_⟩)⟩, fun c => absurd rfl c⟩) (fun a => sg_Md_reach_10 ⟨by omega, fun c => by omega, fun _ => ?_⟩)))
  · rw [aOne_yes a] at k2
    exact k2
  · rw [aOne_no a] at k2
    exact k2
theorem sm_more {f : Nat → Int} {n : Nat} : ∀ m, n ≤ m → (∀ i, n ≤ i → i < m → f i = 0) → sm f m = sm f n := by
  intro m h
  induction h with
  | refl => intro _; rfl
  | step h2 ih =>
    rename_i m
    have h3 : n ≤ m := h2
    intro k
    show sm f m + f m = _
    rw [ih (fun i a b => k i a (by omega)), k m h3 (by omega), Int.add_zero]
theorem lp_total82 {a1 a2 a3 : Int} (hN : N ≤ 8) (h177 : sc 177 = (N : Int)) (h178 : ar 178 = tm) (i1 : inR x1) (k : Q (some (vI (if x1 = 0 then (N : Int) else if x1 = 1 then a1 else if x1 = 2 then a2 else if x1 = 3 then a3 else if x1 = 4 then sm tm N else -2))) (sc, ar)) : ∀ j i : Nat, i + j = N → Ev 0 M_Md_total (82, [some (vO 11), some (vI x1), some (vI a1), some (vI a2), some (vI a3), some (vI (sm tm i)), some (vI i)], [], (sc, ar)) Q := by
  intro j
  induction j with
  | zero =>
    intro i hi
    have : i = N := by omega
    subst this
    refine sg_Md_total_82 ⟨by omega, by omega, fun _ => ⟨i1, fun c0 => ⟨i1, fun c1 => ⟨i1, fun c2 => ⟨i1, fun c3 => ⟨i1, fun c4 => ?_, fun c4 => ?_⟩, fun c3 => ?_⟩, fun c2 => ?_⟩, fun c1 => ?_⟩, fun c0 => ?_⟩, fun c => by omega⟩
    · rw [if_neg c0, if_neg c1, if_neg c2, if_neg c3, if_neg c4] at k
      exact k
    · rw [if_neg c0, if_neg c1, if_neg c2, if_neg c3, if_pos (by omega)] at k
      exact k
    · rw [if_neg c0, if_neg c1, if_neg c2, if_pos (by omega)] at k
      exact k
    · rw [if_neg c0, if_neg c1, if_pos (by omega)] at k
      exact k
    · rw [if_neg c0, if_pos (by omega)] at k
      exact k
    · rw [if_pos (by omega)] at k
      rw [h177]
      exact k
  | succ j ih =>
    intro i hi
    have h1 := ih (i + 1) (by omega)
    refine sg_Md_total_82 ⟨by omega, by omega, fun c => by omega, fun _ => ⟨by omega, by omega, ?_⟩⟩
    rw [h178, Int.toNat_natCast]
    exact h1
theorem lp_total18 (hR : R9 nd) (hc : ∀ i : Nat, i < 64 → 0 ≤ ch i ∧ ch i ≤ 8) (hnd : ar 179 = nd) (hch : ar 180 = ch) (k : Ev 0 M_Md_total (82, [some (vO 11), some (vI x1), some (vI (sm (nz nd) 64)), some (vI (sm nd 64)), some (vI (sm (nz ch) 64)), some (vI 0), some (vI 0)], [], (sc, ar)) Q) : ∀ j i : Nat, i + j = 64 → Ev 0 M_Md_total (18, [some (vO 11), some (vI x1), some (vI (sm (nz nd) i)), some (vI (sm nd i)), some (vI (sm (nz ch) i)), some (vI 0), some (vI i)], [], (sc, ar)) Q := by
  intro j
  induction j with
  | zero =>
    intro i hi
    have : i = 64 := by omega
    subst this
    exact sg_Md_total_18 ⟨by omega, fun _ => k, fun c => by omega⟩
  | succ j ih =>
    intro i hi
    have h1 := ih (i + 1) (by omega)
    simp only [sm] at h1
    have b1 := hR i (by omega)
    have b2 := hc i (by omega)
    have z1 : nz nd i = if nd i = 0 then 0 else 1 := rfl
    have z2 : nz ch i = if ch i = 0 then 0 else 1 := rfl
    rw [z1, z2] at h1
    refine sg_Md_total_18 ⟨by omega, fun c => by omega, fun _ => ⟨by omega, by omega, ?_⟩⟩
    rw [hnd, hch, Int.toNat_natCast]
    refine ⟨by omega, fun c => ⟨by omega, by omega, by omega, by omega, by omega, fun c2 => ?_, fun c2 => ?_⟩, fun c => ⟨by omega, by omega, by omega, by omega, by omega, fun c2 => ?_, fun c2 => ?_⟩⟩
    · rw [if_pos (by omega), if_pos (by omega)] at h1
      exact h1
    · rw [if_pos (by omega), if_neg (by omega)] at h1
      exact h1
    · rw [if_neg (by omega), if_pos (by omega)] at h1
      exact h1
    · rw [if_neg (by omega), if_neg (by omega)] at h1
      exact h1
theorem om_total (hV : VV N tm nd ch od) (hI : IM N tm nd ch od sc ar) (i1 : inR x1) (k : ∀ sc2 ar2, Pe sc ar sc2 ar2 → Q (some (vI (aTot N tm nd ch x1))) (sc2, ar2)) : Ev 15 M_Md_total (0, [some (vO 11), some (vI x1), none, none, none, none, none], [], (sc, ar)) Q := by
  obtain ⟨hN, v1, v2, hR, hz, v5, v6, v7⟩ := id hV
  have h177o := hI.1
  have hJ : IM N tm nd ch od (up sc 176 0) ar := hI.pe (Pe.rf.s 176 0)
  obtain ⟨h177, h178, hnd, hch, hod⟩ := id hJ
  have pe : Pe sc ar (up sc 176 0) ar := Pe.rf.s 176 0
  have hzz : ∀ t, t < N → nd (8 * t + t) = 0 := fun t ht => hz t t (by omega) (by omega) (Or.inr (Or.inr rfl))
  have k2 := k _ _ pe
  unfold aTot at k2
  rw [sm_more (n := N) 8 hN (fun i a b => v2 i b a)] at k2
  exact Ev.deep (by decide) (sg_Md_total_0 (lp_total18 hR v5 hnd hch (lp_total82 hN h177 h178 i1 k2 N 0 (by omega)) 64 0 (by omega)))
end OPM

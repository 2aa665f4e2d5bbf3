/-! THE REFERENCE'S CALLS that change its state -/
def rS1 (i : Nat) : Bool := i == 10 || i == 49 || i == 999
def rA1 (a : Nat) : Bool := a == 0 || a == 16 || a == 32 || a == 48 || a == 999
/-- the class's cells and the script are as they were -/
def PM (sc : Nat → Int) (ar : Nat → Nat → Int) (sc2 : Nat → Int) (ar2 : Nat → Nat → Int) : Prop := (∀ i, rS1 i = true → sc2 i = sc i) ∧ ∀ a, rA1 a = true → ar2 a = ar a
theorem PM.rf {sc : Nat → Int} {ar : Nat → Nat → Int} : PM sc ar sc ar := ⟨fun _ _ => rfl, fun _ _ => rfl⟩
theorem PM.s {sc sc2 : Nat → Int} {ar ar2 : Nat → Nat → Int} (h : PM sc ar sc2 ar2) (i : Nat) (v : Int) (hi : rS1 i = false := by decide) : PM sc ar (up sc2 i v) ar2 := ⟨fun j hj => by
    rw [up_ne _ _ (fun e => by rw [e, hi] at hj; cases hj)]
    exact h.1 j hj, h.2⟩
theorem PM.a {sc sc2 : Nat → Int} {ar ar2 : Nat → Nat → Int} (h : PM sc ar sc2 ar2) (a : Nat) (f : Nat → Int) (ha : rA1 a = false := by decide) : PM sc ar sc2 (up ar2 a f) := ⟨h.1, fun j hj => by
    rw [up_ne _ _ (fun e => by rw [e, ha] at hj; cases hj)]
    exact h.2 j hj⟩
theorem Pe.pm {sc sc2 : Nat → Int} {ar ar2 : Nat → Nat → Int} (h : Pe sc ar sc2 ar2) : PM sc ar sc2 ar2 := ⟨fun i hi => h.1 i (by
    unfold rS1 at hi
    unfold pS
    simp only [Bool.or_eq_true, beq_iff_eq] at hi ⊢
    omega), fun a ha => h.2 a (by
    unfold rA1 at ha
    unfold pA
    simp only [Bool.or_eq_true, beq_iff_eq] at ha ⊢
    omega)⟩
theorem IX.pm {N : Nat} {tm nd ch od : Nat → Int} {sc sc2 : Nat → Int} {ar ar2 : Nat → Nat → Int} (h : IX N tm nd ch od sc ar) (p : PM sc ar sc2 ar2) : IX N tm nd ch od sc2 ar2 :=
  ⟨(p.1 10 rfl).trans h.1, (p.1 49 rfl).trans h.2.1, (p.2 0 rfl).trans h.2.2.1, (p.2 16 rfl).trans h.2.2.2.1, (p.2 32 rfl).trans h.2.2.2.2.1, (p.2 48 rfl).trans h.2.2.2.2.2⟩
section OPM2
variable {sc : Nat → Int} {ar : Nat → Nat → Int} {Q : Option mV → mH → Prop} {N : Nat} {tm nd ch od : Nat → Int} {x1 x2 x3 : Int}
theorem lp_taskM {f : Nat → Int} {s0 : Nat → Int} {a0 : Nat → Nat → Int} (hN : N < 8) (h177 : s0 177 = (N : Int) + 1) (k : Q (some (vI ((N : Int) + 1 - 1))) (s0, up a0 181 (wr f (fun i => (i : Int)) (N + 1)))) : ∀ j i : Nat, i + j = N + 1 → Ev 1 M_Md_task (54, [some (vO 11), some (vI x1), some (vI i)], [], (s0, up a0 181 (wr f (fun i => (i : Int)) i))) Q := by
  intro j
  induction j with
  | zero =>
    intro i hi
    have : i = N + 1 := by omega
    subst this
    refine sg_Md_task_54 ⟨by omega, by omega, fun _ => ?_, fun c => by omega⟩
    rw [h177]
    exact k
  | succ j ih =>
    intro i hi
    have h1 := ih (i + 1) (by omega)
    refine sg_Md_task_54 ⟨by omega, by omega, fun c => by omega, fun _ => ⟨by omega, by omega, ?_⟩⟩
    rw [up_eq, up_up, Int.toNat_natCast]
    exact h1
theorem om_task (hV : VV N tm nd ch od) (hI : IM N tm nd ch od sc ar) (i1 : inR x1) (h : 1 ≤ x1 ∧ x1 ≤ 20) (h8 : N < 8) (k : ∀ sc2 ar2, PM sc ar sc2 ar2 → IM (N + 1) (up tm N x1) nd ch (wr od (fun i => (i : Int)) (N + 1)) sc2 ar2 → Q (some (vI N)) (sc2, ar2)) : Ev 15 M_Md_task (0, [some (vO 11), some (vI x1), none], [], (sc, ar)) Q := by
  obtain ⟨hN, v1, v2, hR, hz, v5, v6, v7⟩ := id hV
  have hJ : IM N tm nd ch od (up sc 176 0) ar := hI.pe (Pe.rf.s 176 0)
  obtain ⟨h177, h178, hnd, hch, hod⟩ := id hJ
  refine Ev.deep (by decide) (sg_Md_task_0 ⟨i1, ct_in i1 (by omega) (by omega) (fun _ => sg_Md_task_14 ⟨by omega, fun _ => ⟨by omega, fun _ => ⟨by omega, by omega, ?_⟩, fun c => by omega⟩, fun c => absurd (by decide) c⟩) (fun c => absurd h c)⟩)
  rw [h177, h178, Int.toNat_natCast]
  have := lp_taskM (Q := Q) (x1 := x1) (f := od) (s0 := up (up sc 176 0) 177 ((N : Int) + 1)) (a0 := up ar 178 (up tm N x1)) h8 (up_eq _ _ _) (by
    rw [show (N : Int) + 1 - 1 = N by omega]
    refine k _ _ (((PM.rf.s 176 0).s 177 _).a 178 _ |>.a 181 _) ⟨?_, ?_, ?_, ?_, ?_⟩
    · rw [up_eq]
      rfl
    · rw [up_ne _ _ (by decide), up_eq]
    · rw [up_ne _ _ (by decide), up_ne _ _ (by decide), hnd]
    · rw [up_ne _ _ (by decide), up_ne _ _ (by decide), hch]
    · rw [up_eq]) (N + 1) 0 (by omega)
  have e : up (up ar 178 (up tm N x1)) 181 (wr od (fun i => (i : Int)) 0) = up ar 178 (up tm N x1) := by
    have e2 : wr od (fun i => (i : Int)) 0 = up ar 178 (up tm N x1) 181 := by
      rw [up_ne _ _ (by decide), hod]
      rfl
    rw [e2, up_id]
  rw [e] at this
  exact this
theorem om_task0 (hV : VV N tm nd ch od) (hI : IM N tm nd ch od sc ar) (i1 : inR x1) (h : ¬ ((1 ≤ x1 ∧ x1 ≤ 20) ∧ N < 8)) (k : ∀ sc2 ar2, Pe sc ar sc2 ar2 → Q (some (vI (if 1 ≤ x1 ∧ x1 ≤ 20 then -4 else -2))) (sc2, ar2)) : Ev 15 M_Md_task (0, [some (vO 11), some (vI x1), none], [], (sc, ar)) Q := by
  obtain ⟨hN, v1, v2, hR, hz, v5, v6, v7⟩ := id hV
  have hJ : IM N tm nd ch od (up sc 176 0) ar := hI.pe (Pe.rf.s 176 0)
  obtain ⟨h177, h178, hnd, hch, hod⟩ := id hJ
  have k2 := k _ _ (Pe.rf.s 176 0)
  refine Ev.deep (by decide) (sg_Md_task_0 ⟨i1, ct_in i1 (by omega) (by omega) (fun c => sg_Md_task_14 ⟨by omega, fun _ => ⟨by omega, fun c2 => absurd ⟨c, by omega⟩ h, fun _ => ?_⟩, fun c => absurd (by decide) c⟩) (fun c => sg_Md_task_14 ⟨by omega, fun c => absurd rfl c, fun _ => ?_⟩)⟩)
  · rw [if_pos c] at k2
    exact k2
  · rw [if_neg c] at k2
    exact k2
theorem om_time (hV : VV N tm nd ch od) (hI : IM N tm nd ch od sc ar) (i1 : inR x1) (i2 : inR x2) (a : tk N x1) (h : 1 ≤ x2 ∧ x2 ≤ 20) (k : ∀ sc2 ar2, PM sc ar sc2 ar2 → IM N (up tm x1.toNat x2) nd ch od sc2 ar2 → Q (some (vI (tm x1.toNat))) (sc2, ar2)) : Ev 15 M_Md_time (0, [some (vO 11), some (vI x1), some (vI x2), none], [], (sc, ar)) Q := by
  obtain ⟨hN, v1, v2, hR, hz, v5, v6, v7⟩ := id hV
  have hJ : IM N tm nd ch od (up sc 176 0) ar := hI.pe (Pe.rf.s 176 0)
  obtain ⟨h177, h178, hnd, hch, hod⟩ := id hJ
  obtain ⟨p, rfl, hp⟩ := tk_nat a
  refine Ev.deep (by decide) (sg_Md_time_0 (ct_no hN h177 i1 (fun _ => sg_Md_time_10 ⟨by omega, fun _ => ⟨i2, ct_in i2 (by omega) (by omega) (fun _ => sg_Md_time_24 ⟨by omega, fun _ => ⟨by omega, by omega, by omega, by omega, ?_⟩, fun c => absurd (by decide) c⟩) (fun c => absurd h c)⟩, fun c => absurd rfl c⟩) (fun c => absurd a c)))
  rw [h178]
  rw [Int.toNat_natCast] at k ⊢
  refine k _ _ ((PM.rf.s 176 0).a 178 _) ⟨h177, up_eq _ _ _, ?_, ?_, ?_⟩
  · rw [up_ne _ _ (by decide), hnd]
  · rw [up_ne _ _ (by decide), hch]
  · rw [up_ne _ _ (by decide), hod]
theorem om_time0 (hV : VV N tm nd ch od) (hI : IM N tm nd ch od sc ar) (i1 : inR x1) (i2 : inR x2) (h : ¬ (tk N x1 ∧ 1 ≤ x2 ∧ x2 ≤ 20)) (k : ∀ sc2 ar2, Pe sc ar sc2 ar2 → Q (some (vI (aOne N x1 (-1) (-2)))) (sc2, ar2)) : Ev 15 M_Md_time (0, [some (vO 11), some (vI x1), some (vI x2), none], [], (sc, ar)) Q := by
  obtain ⟨hN, v1, v2, hR, hz, v5, v6, v7⟩ := id hV
  have hJ : IM N tm nd ch od (up sc 176 0) ar := hI.pe (Pe.rf.s 176 0)
  obtain ⟨h177, h178, hnd, hch, hod⟩ := id hJ
  have k2 := k _ _ (Pe.rf.s 176 0)
  refine Ev.deep (by decide) (sg_Md_time_0 (ct_no hN h177 i1 (fun a => sg_Md_time_10 ⟨by omega, fun _ => ⟨i2, ct_in i2 (by omega) (by omega) (fun c => absurd ⟨a, c⟩ h) (fun _ => sg_Md_time_24 ⟨by omega, fun c => absurd rfl c, fun _ => ?_⟩)⟩, fun c => absurd rfl c⟩) (fun a => sg_Md_time_10 ⟨by omega, fun c => by omega, fun _ => ?_⟩)))
  · rw [aOne_yes a] at k2
    exact k2
  · rw [aOne_no a] at k2
    exact k2
theorem om_need (hV : VV N tm nd ch od) (hI : IM N tm nd ch od sc ar) (i1 : inR x1) (i2 : inR x2) (i3 : inR x3) (a : tk N x1) (b : tk N x2) (h : 0 ≤ x3 ∧ x3 ≤ 9) (hne : x1 ≠ x2) (k : ∀ sc2 ar2, PM sc ar sc2 ar2 → IM N tm (up nd (8 * x1.toNat + x2.toNat) x3) ch od sc2 ar2 → Q (some (vI (nd (8 * x1.toNat + x2.toNat)))) (sc2, ar2)) : Ev 15 M_Md_need (0, [some (vO 11), some (vI x1), some (vI x2), some (vI x3), none], [], (sc, ar)) Q := by
  obtain ⟨hN, v1, v2, hR, hz, v5, v6, v7⟩ := id hV
  have hJ : IM N tm nd ch od (up sc 176 0) ar := hI.pe (Pe.rf.s 176 0)
  obtain ⟨h177, h178, hnd, hch, hod⟩ := id hJ
  obtain ⟨p, rfl, hp⟩ := tk_nat a
  obtain ⟨q, rfl, hq⟩ := tk_nat b
  refine Ev.deep (by decide) (sg_Md_need_0 (ct_no hN h177 i1 (fun _ => sg_Md_need_10 ⟨by omega, fun c => absurd rfl c, fun _ => ct_no hN h177 i2 (fun _ => sg_Md_need_18 ⟨by omega, fun _ => ⟨i3, ct_in i3 (by omega) (by omega) (fun _ => sg_Md_need_32 ⟨by omega, fun _ => ⟨i1, i2, fun _ => ⟨by omega, by omega, by omega, by omega, ?_⟩, fun c => absurd hne c⟩, fun c => absurd (by decide) c⟩) (fun c => absurd h c)⟩, fun c => absurd rfl c⟩) (fun c => absurd b c)⟩) (fun c => absurd a c)))
  rw [show (8 * (p : Int) + (q : Int)).toNat = 8 * p + q by omega, hnd]
  rw [Int.toNat_natCast, Int.toNat_natCast] at k
  refine k _ _ ((PM.rf.s 176 0).a 179 _) ⟨h177, ?_, up_eq _ _ _, ?_, ?_⟩
  · rw [up_ne _ _ (by decide), h178]
  · rw [up_ne _ _ (by decide), hch]
  · rw [up_ne _ _ (by decide), hod]
theorem om_need0 (hV : VV N tm nd ch od) (hI : IM N tm nd ch od sc ar) (i1 : inR x1) (i2 : inR x2) (i3 : inR x3) (h : ¬ (tk N x1 ∧ tk N x2 ∧ (0 ≤ x3 ∧ x3 ≤ 9) ∧ x1 ≠ x2)) (k : ∀ sc2 ar2, Pe sc ar sc2 ar2 → Q (some (vI (aTwo N x1 x2 (if 0 ≤ x3 ∧ x3 ≤ 9 then -3 else -2)))) (sc2, ar2)) : Ev 15 M_Md_need (0, [some (vO 11), some (vI x1), some (vI x2), some (vI x3), none], [], (sc, ar)) Q := by
  obtain ⟨hN, v1, v2, hR, hz, v5, v6, v7⟩ := id hV
  have hJ : IM N tm nd ch od (up sc 176 0) ar := hI.pe (Pe.rf.s 176 0)
  obtain ⟨h177, h178, hnd, hch, hod⟩ := id hJ
  have k2 := k _ _ (Pe.rf.s 176 0)
  refine Ev.deep (by decide) (sg_Md_need_0 (ct_no hN h177 i1 (fun a => sg_Md_need_10 ⟨by omega, fun c => absurd rfl c, fun _ => ct_no hN h177 i2 (fun b => sg_Md_need_18 ⟨by omega, fun _ => ⟨i3, ct_in i3 (by omega) (by omega) (fun c3 => sg_Md_need_32 ⟨by omega, fun _ => ⟨i1, i2, fun c => absurd ⟨a, b, c3, c⟩ h, fun _ => ?_⟩, fun c => absurd (by decide) c⟩) (fun c3 => sg_Md_need_32 ⟨by omega, fun c => absurd rfl c, fun _ => ?_⟩)⟩, fun c => absurd rfl c⟩) (fun b => sg_Md_need_18 ⟨by omega, fun c => by omega, fun _ => ?_⟩)⟩) (fun a => sg_Md_need_10 ⟨by omega, fun _ => ?_, fun c => absurd (by decide) c⟩)))
  · rw [aTwo_yes a b, if_pos c3] at k2
    exact k2
  · rw [aTwo_yes a b, if_neg c3] at k2
    exact k2
  · rw [aTwo_no (fun z => b z.2)] at k2
    exact k2
  · rw [aTwo_no (fun z => a z.1)] at k2
    exact k2
def oth (ch : Nat → Int) (p : Nat) (b : Int) (x : Nat) : Int := if (x : Int) = b then 0 else ch (8 * p + x)
theorem oth_sum {p q : Nat} (hq : q < 8) : sm (oth ch p (q : Int)) 8 = sm (fun x => ch (8 * p + x)) 8 - ch (8 * p + q) := by
  rw [sm_upd (f := fun x => ch (8 * p + x)) (g := oth ch p (q : Int)) (m := q) 8 hq (fun i hi hne => by
    unfold oth
    rw [if_neg (by omega)])]
  have : oth ch p (q : Int) q = 0 := if_pos rfl
  omega
theorem lp_chanceM {s0 : Nat → Int} {p : Nat} (hp : p < 8) (hch : ar 180 = ch) (i2 : inR x2) (k : Ev 2 M_Md_chance (44, [some (vO 11), some (vI p), some (vI x2), some (vI x3), some (vI (x3 + sm (oth ch p x2) 8)), some (vI 8)], [], (s0, ar)) Q) : ∀ j i : Nat, i + j = 8 → Ev 2 M_Md_chance (44, [some (vO 11), some (vI p), some (vI x2), some (vI x3), some (vI (x3 + sm (oth ch p x2) i)), some (vI i)], [], (s0, ar)) Q := by
  intro j
  induction j with
  | zero =>
    intro i hi
    have : i = 8 := by omega
    subst this
    exact k
  | succ j ih =>
    intro i hi
    have h1 := ih (i + 1) (by omega)
    have e : sm (oth ch p x2) (i + 1) = sm (oth ch p x2) i + (if (i : Int) = x2 then 0 else ch (8 * p + i)) := rfl
    rw [e, ← Int.add_assoc] at h1
    refine sg_Md_chance_44 ⟨by omega, fun c => by omega, fun _ => ⟨by omega, i2, fun c => ⟨by omega, by omega, ?_⟩, fun c => ?_⟩⟩
    · rw [if_neg c] at h1
      rw [hch, show (8 * (p : Int) + (i : Int)).toNat = 8 * p + i by omega]
      exact h1
    · rw [if_pos (by omega)] at h1
      exact h1
theorem om_chance (hV : VV N tm nd ch od) (hI : IM N tm nd ch od sc ar) (i1 : inR x1) (i2 : inR x2) (i3 : inR x3) (a : tk N x1) (b : tk N x2) (h : 0 ≤ x3 ∧ x3 ≤ 8) (hne : x1 ≠ x2) (hs : sm (fun x => ch (8 * x1.toNat + x)) 8 - ch (8 * x1.toNat + x2.toNat) + x3 ≤ 8) (k : ∀ sc2 ar2, PM sc ar sc2 ar2 → IM N tm nd (up ch (8 * x1.toNat + x2.toNat) x3) od sc2 ar2 → Q (some (vI (ch (8 * x1.toNat + x2.toNat)))) (sc2, ar2)) : Ev 15 M_Md_chance (0, [some (vO 11), some (vI x1), some (vI x2), some (vI x3), none, none], [], (sc, ar)) Q := by
  obtain ⟨hN, v1, v2, hR, hz, v5, v6, v7⟩ := id hV
  have hJ : IM N tm nd ch od (up sc 176 0) ar := hI.pe (Pe.rf.s 176 0)
  obtain ⟨h177, h178, hnd, hch, hod⟩ := id hJ
  obtain ⟨p, rfl, hp⟩ := tk_nat a
  obtain ⟨q, rfl, hq⟩ := tk_nat b
  rw [Int.toNat_natCast, Int.toNat_natCast] at hs k
  have e := oth_sum (ch := ch) (p := p) (q := q) (by omega)
  have hr := v5 (8 * p + q) (by omega)
  have hb := sm_bd (f := fun x => ch (8 * p + x)) (b := 8) 8 (fun i hi => v5 _ (by omega))
  have e2 : (8 * (p : Int) + (q : Int)).toNat = 8 * p + q := by omega
  have lp := lp_chanceM (Q := Q) (x3 := x3) (s0 := up sc 176 0) (p := p) (ar := ar) (ch := ch) (by omega) hch i2 (by
    refine sg_Md_chance_44 ⟨by omega, fun _ => ⟨i1, i2, fun c => absurd c hne, fun _ => ⟨by omega, fun _ => ⟨by omega, by omega, by omega, by omega, ?_⟩, fun c => by omega⟩⟩, fun c => by omega⟩
    rw [e2, hch]
    refine k _ _ ((PM.rf.s 176 0).a 180 _) ⟨h177, ?_, ?_, up_eq _ _ _, ?_⟩
    · rw [up_ne _ _ (by decide), h178]
    · rw [up_ne _ _ (by decide), hnd]
    · rw [up_ne _ _ (by decide), hod]) 8 0 (by omega)
  have e0 : x3 + sm (oth ch p (q : Int)) 0 = x3 := by
    show x3 + 0 = x3
    omega
  rw [e0] at lp
  exact Ev.deep (by decide) (sg_Md_chance_0 (ct_no hN h177 i1 (fun _ => sg_Md_chance_10 ⟨by omega, fun c => absurd rfl c, fun _ => ct_no hN h177 i2 (fun _ => sg_Md_chance_18 ⟨by omega, fun _ => ⟨i3, ct_in i3 (by omega) (by omega) (fun _ => sg_Md_chance_32 ⟨by omega, fun _ => lp, fun c => absurd (by decide) c⟩) (fun c => absurd h c)⟩, fun c => absurd rfl c⟩) (fun c => absurd b c)⟩) (fun c => absurd a c)))
theorem om_chance0 (hV : VV N tm nd ch od) (hI : IM N tm nd ch od sc ar) (i1 : inR x1) (i2 : inR x2) (i3 : inR x3) (h : ¬ (tk N x1 ∧ tk N x2 ∧ (0 ≤ x3 ∧ x3 ≤ 8) ∧ x1 ≠ x2 ∧ sm (fun x => ch (8 * x1.toNat + x)) 8 - ch (8 * x1.toNat + x2.toNat) + x3 ≤ 8)) (k : ∀ sc2 ar2, Pe sc ar sc2 ar2 → Q (some (vI (aTwo N x1 x2 (if 0 ≤ x3 ∧ x3 ≤ 8 then -3 else -2)))) (sc2, ar2)) : Ev 15 M_Md_chance (0, [some (vO 11), some (vI x1), some (vI x2), some (vI x3), none, none], [], (sc, ar)) Q := by
  obtain ⟨hN, v1, v2, hR, hz, v5, v6, v7⟩ := id hV
  have hJ : IM N tm nd ch od (up sc 176 0) ar := hI.pe (Pe.rf.s 176 0)
  obtain ⟨h177, h178, hnd, hch, hod⟩ := id hJ
  have k2 := k _ _ (Pe.rf.s 176 0)
  refine Ev.deep (by decide) (sg_Md_chance_0 (ct_no hN h177 i1 (fun a => sg_Md_chance_10 ⟨by omega, fun c => absurd rfl c, fun _ => ct_no hN h177 i2 (fun b => sg_Md_chance_18 ⟨by omega, fun _ => ⟨i3, ct_in i3 (by omega) (by omega) (fun c3 => sg_Md_chance_32 ⟨by omega, fun _ => ?_, fun c => absurd (by decide) c⟩) (fun c3 => sg_Md_chance_32 ⟨by omega, fun c => absurd rfl c, fun _ => ?_⟩)⟩, fun c => absurd rfl c⟩) (fun b => sg_Md_chance_18 ⟨by omega, fun c => by omega, fun _ => ?_⟩)⟩) (fun a => sg_Md_chance_10 ⟨by omega, fun _ => ?_, fun c => absurd (by decide) c⟩)))
  · rw [aTwo_yes a b, if_pos c3] at k2
    obtain ⟨p, rfl, hp⟩ := tk_nat a
    obtain ⟨q, rfl, hq⟩ := tk_nat b
    rw [Int.toNat_natCast, Int.toNat_natCast] at h
    have e := oth_sum (ch := ch) (p := p) (q := q) (by omega)
    have hr := v5 (8 * p + q) (by omega)
    have hb := sm_bd (f := fun x => ch (8 * p + x)) (b := 8) 8 (fun i hi => v5 _ (by omega))
    have lp := lp_chanceM (Q := Q) (x3 := x3) (s0 := up sc 176 0) (p := p) (ar := ar) (ch := ch) (by omega) hch i2 (by
      exact sg_Md_chance_44 ⟨by omega, fun _ => ⟨i1, i2, fun _ => k2, fun c => ⟨by omega, fun c2 => absurd ⟨a, b, c3, c, by omega⟩ h, fun _ => k2⟩⟩, fun c => by omega⟩) 8 0 (by omega)
    have e0 : x3 + sm (oth ch p (q : Int)) 0 = x3 := by
      show x3 + 0 = x3
      omega
    rw [e0] at lp
    exact lp
  · rw [aTwo_yes a b, if_neg c3] at k2
    exact k2
  · rw [aTwo_no (fun z => b z.2)] at k2
    exact k2
  · rw [aTwo_no (fun z => a z.1)] at k2
    exact k2
theorem om_swap (hV : VV N tm nd ch od) (hI : IM N tm nd ch od sc ar) (i1 : inR x1) (i2 : inR x2) (a : tk N x1) (b : tk N x2) (k : ∀ sc2 ar2 od2, PM sc ar sc2 ar2 → od2 = up (up od x1.toNat (od x2.toNat)) x2.toNat (od x1.toNat) → IM N tm nd ch od2 sc2 ar2 → Q (some (vI (GS nd od2 N))) (sc2, ar2)) : Ev 15 M_Md_swap (0, [some (vO 11), some (vI x1), some (vI x2), none], [], (sc, ar)) Q := by
  obtain ⟨hN, v1, v2, hR, hz, v5, v6, v7⟩ := id hV
  have h177o := hI.1
  have hJ : IM N tm nd ch od (up sc 176 0) ar := hI.pe (Pe.rf.s 176 0)
  obtain ⟨h177, h178, hnd, hch, hod⟩ := id hJ
  obtain ⟨p, rfl, hp⟩ := tk_nat a
  obtain ⟨q, rfl, hq⟩ := tk_nat b
  rw [Int.toNat_natCast, Int.toNat_natCast] at k
  have hV2 := VV_od hV (OD_swap v7 hp hq)
  refine Ev.deep (by decide) (sg_Md_swap_0 ⟨i1, by omega, ct_in i1 (by omega) (by omega) (fun _ => sg_Md_swap_18 ⟨by omega, fun c => by omega, fun _ => ⟨i2, by omega, ct_in i2 (by omega) (by omega) (fun _ => sg_Md_swap_34 ⟨by omega, fun _ => ⟨by omega, by omega, by omega, by omega, by omega, by omega, by omega, by omega, ?_⟩, fun c => absurd (by decide) c⟩) (fun c => by omega)⟩⟩) (fun c => by omega)⟩)
  rw [up_up, Int.toNat_natCast, Int.toNat_natCast, hod]
  refine ct_guessM hV2 h177 (up_eq _ _ _) (by rw [up_ne _ _ (by decide)]; exact hnd) (sg_Md_swap_70 (k _ _ _ ((PM.rf.s 176 0).a 181 _) rfl ⟨h177, ?_, ?_, ?_, up_eq _ _ _⟩))
  · rw [up_ne _ _ (by decide), h178]
  · rw [up_ne _ _ (by decide), hnd]
  · rw [up_ne _ _ (by decide), hch]
theorem om_swap0 (hV : VV N tm nd ch od) (hI : IM N tm nd ch od sc ar) (i1 : inR x1) (i2 : inR x2) (h : ¬ (tk N x1 ∧ tk N x2)) (k : ∀ sc2 ar2, Pe sc ar sc2 ar2 → Q (some (vI (-2))) (sc2, ar2)) : Ev 15 M_Md_swap (0, [some (vO 11), some (vI x1), some (vI x2), none], [], (sc, ar)) Q := by
  obtain ⟨hN, v1, v2, hR, hz, v5, v6, v7⟩ := id hV
  have h177o := hI.1
  have hJ : IM N tm nd ch od (up sc 176 0) ar := hI.pe (Pe.rf.s 176 0)
  obtain ⟨h177, h178, hnd, hch, hod⟩ := id hJ
  have k2 := k _ _ (Pe.rf.s 176 0)
  refine Ev.deep (by decide) (sg_Md_swap_0 ⟨i1, by omega, ct_in i1 (by omega) (by omega) (fun a => sg_Md_swap_18 ⟨by omega, fun c => by omega, fun _ => ⟨i2, by omega, ct_in i2 (by omega) (by omega) (fun b => absurd ⟨⟨a.1, by omega⟩, b.1, by omega⟩ h) (fun b => sg_Md_swap_34 ⟨by omega, fun c => absurd rfl c, fun _ => k2⟩)⟩⟩) (fun a => sg_Md_swap_18 ⟨by omega, fun _ => k2, fun c => absurd rfl c⟩)⟩)
theorem lp_takeM {r f : Nat → Int} {s0 : Nat → Int} {a0 : Nat → Nat → Int} (hN : N ≤ 8) (h177 : s0 177 = (N : Int)) (h188 : a0 188 = r) (k : Ev 1 M_Md_guessOf (0, [some (vO 11), none, none, none], [], (s0, up a0 181 (wr f r N))) (fun r1 h1 => Ev 3 M_Md_take (41, [some (vO 11), some (vI N)], mPush r1 [], h1) Q)) : ∀ j i : Nat, i + j = N → Ev 3 M_Md_take (11, [some (vO 11), some (vI i)], [], (s0, up a0 181 (wr f r i))) Q := by
  intro j
  induction j with
  | zero =>
    intro i hi
    have : i = N := by omega
    subst this
    exact sg_Md_take_11 ⟨by omega, by omega, fun _ => Ev.deep (by decide) k, fun c => by omega⟩
  | succ j ih =>
    intro i hi
    have h1 := ih (i + 1) (by omega)
    refine sg_Md_take_11 ⟨by omega, by omega, fun c => by omega, fun _ => ⟨by omega, by omega, by omega, by omega, ?_⟩⟩
    rw [up_eq, up_up, up_ne _ _ (show (188 : Nat) ≠ 181 by decide), h188, Int.toNat_natCast]
    exact h1
theorem om_take (hV : VV N tm nd ch od) (hI : IM N tm nd ch od sc ar) (k : ∀ sc2 ar2 od2, PM sc ar sc2 ar2 → od2 = wr od (LO nd N) N → IM N tm nd ch od2 sc2 ar2 → Q (some (vI (GS nd od2 N))) (sc2, ar2)) : Ev 15 M_Md_take (0, [some (vO 11), none], [], (sc, ar)) Q := by
  obtain ⟨hN, v1, v2, hR, hz, v5, v6, v7⟩ := id hV
  have hJ : IM N tm nd ch od (up sc 176 0) ar := hI.pe (Pe.rf.s 176 0)
  obtain ⟨h177, h178, hnd, hch, hod⟩ := id hJ
  have hzz : ∀ t, t < N → nd (8 * t + t) = 0 := fun t ht => hz t t (by omega) (by omega) (Or.inr (Or.inr rfl))
  have hV2 : VV N tm nd ch (wr od (LO nd N) N) := VV_od hV ((LO_od hR hN).congr (fun i hi => by rw [wr_at, if_pos (by omega)]))
  refine Ev.deep (by decide) (sg_Md_take_0 (ct_leastRow hR hN h177 hnd hzz (fun f => sg_Md_take_9 ?_)))
  have e : wr od (wr (ar 188) (LO nd N) N) N = wr od (LO nd N) N := wr_congr N (fun i hi => by rw [wr_at, if_pos hi])
  have := lp_takeM (Q := Q) (r := wr (ar 188) (LO nd N) N) (f := od) (s0 := up sc 176 0) (a0 := up (up ar 182 f) 188 (wr (ar 188) (LO nd N) N)) hN h177 (up_eq _ _ _) (by
    rw [e]
    refine ct_guessM hV2 h177 (up_eq _ _ _) (by rw [up_ne _ _ (by decide), up_ne _ _ (by decide), up_ne _ _ (by decide)]; exact hnd) (sg_Md_take_41 (k _ _ _ ((((PM.rf.s 176 0).a 182 f).a 188 _).a 181 _) rfl ⟨h177, ?_, ?_, ?_, up_eq _ _ _⟩))
    · rw [up_ne _ _ (by decide), up_ne _ _ (by decide), up_ne _ _ (by decide), h178]
    · rw [up_ne _ _ (by decide), up_ne _ _ (by decide), up_ne _ _ (by decide), hnd]
    · rw [up_ne _ _ (by decide), up_ne _ _ (by decide), up_ne _ _ (by decide), hch]) N 0 (by omega)
  have e2 : up (up (up ar 182 f) 188 (wr (ar 188) (LO nd N) N)) 181 (wr od (wr (ar 188) (LO nd N) N) 0) = up (up ar 182 f) 188 (wr (ar 188) (LO nd N) N) := by
    have e3 : wr od (wr (ar 188) (LO nd N) N) 0 = up (up ar 182 f) 188 (wr (ar 188) (LO nd N) N) 181 := by
      rw [up_ne _ _ (by decide), up_ne _ _ (by decide), hod]
      rfl
    rw [e3, up_id]
  rw [e2] at this
  exact this
end OPM2

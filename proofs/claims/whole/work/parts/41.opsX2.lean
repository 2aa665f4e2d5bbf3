/-! THE CLASS'S CALLS that change its state; what holds behind them -/
def qS (i : Nat) : Bool := i == 177 || i == 999
def qA (a : Nat) : Bool := a == 178 || a == 179 || a == 180 || a == 181 || a == 999
/-- the reference's cells and the script are as they were -/
def PX (sc : Nat → Int) (ar : Nat → Nat → Int) (sc2 : Nat → Int) (ar2 : Nat → Nat → Int) : Prop := (∀ i, qS i = true → sc2 i = sc i) ∧ ∀ a, qA a = true → ar2 a = ar a
theorem PX.rf {sc : Nat → Int} {ar : Nat → Nat → Int} : PX sc ar sc ar := ⟨fun _ _ => rfl, fun _ _ => rfl⟩
theorem PX.s {sc sc2 : Nat → Int} {ar ar2 : Nat → Nat → Int} (h : PX sc ar sc2 ar2) (i : Nat) (v : Int) (hi : qS i = false := by decide) : PX sc ar (up sc2 i v) ar2 := ⟨fun j hj => by
    rw [up_ne _ _ (fun e => by rw [e, hi] at hj; cases hj)]
    exact h.1 j hj, h.2⟩
theorem PX.a {sc sc2 : Nat → Int} {ar ar2 : Nat → Nat → Int} (h : PX sc ar sc2 ar2) (a : Nat) (f : Nat → Int) (ha : qA a = false := by decide) : PX sc ar sc2 (up ar2 a f) := ⟨h.1, fun j hj => by
    rw [up_ne _ _ (fun e => by rw [e, ha] at hj; cases hj)]
    exact h.2 j hj⟩
theorem Pe.px {sc sc2 : Nat → Int} {ar ar2 : Nat → Nat → Int} (h : Pe sc ar sc2 ar2) : PX sc ar sc2 ar2 := ⟨fun i hi => h.1 i (by
    unfold qS at hi
    unfold pS
    simp only [Bool.or_eq_true, beq_iff_eq] at hi ⊢
    omega), fun a ha => h.2 a (by
    unfold qA at ha
    unfold pA
    simp only [Bool.or_eq_true, beq_iff_eq] at ha ⊢
    omega)⟩
theorem IM.px {N : Nat} {tm nd ch od : Nat → Int} {sc sc2 : Nat → Int} {ar ar2 : Nat → Nat → Int} (h : IM N tm nd ch od sc ar) (p : PX sc ar sc2 ar2) : IM N tm nd ch od sc2 ar2 :=
  ⟨(p.1 177 rfl).trans h.1, (p.2 178 rfl).trans h.2.1, (p.2 179 rfl).trans h.2.2.1, (p.2 180 rfl).trans h.2.2.2.1, (p.2 181 rfl).trans h.2.2.2.2⟩
theorem sm_upd {f g : Nat → Int} {m : Nat} : ∀ n, m < n → (∀ i, i < n → i ≠ m → g i = f i) → sm g n = sm f n - f m + g m
  | 0, h, _ => by omega
  | n + 1, h, k => by
    show sm g n + g n = sm f n + f n - f m + g m
    by_cases e : m = n
    · subst e
      rw [sm_congr (f := g) (g := f) m (fun i hi => k i (by omega) (by omega))]
      omega
    · rw [sm_upd n (by omega) (fun i hi hne => k i (by omega) hne), k n (by omega) (fun c => e c.symm)]
      omega
section VVS
variable {N : Nat} {tm nd ch od : Nat → Int}
theorem VV_od {od2 : Nat → Int} (hV : VV N tm nd ch od) (h : OD (N : Int) od2) : VV N tm nd ch od2 := ⟨hV.1, hV.2.1, hV.2.2.1, hV.2.2.2.1, hV.2.2.2.2.1, hV.2.2.2.2.2.1, hV.2.2.2.2.2.2.1, h⟩
theorem VV_task {x : Int} (hV : VV N tm nd ch od) (hN8 : N < 8) (hx : 1 ≤ x ∧ x ≤ 20) : VV (N + 1) (up tm N x) nd ch (wr od (fun i => (i : Int)) (N + 1)) := by
  obtain ⟨hN, v1, v2, hR, hz, v5, v6, v7⟩ := hV
  refine ⟨by omega, fun i hi => ?_, fun i hi h => ?_, hR, fun a b ha hb h => hz a b ha hb (by omega), v5, v6, fun i hi => ?_, fun i j hi hj h => ?_⟩
  · by_cases e : i = N
    · rw [e, up_eq]
      omega
    · rw [up_ne _ _ e]
      exact v1 i hi
  · rw [up_ne _ _ (by omega)]
    exact v2 i hi (by omega)
  · rw [wr_at, if_pos (by omega)]
    omega
  · rw [wr_at, wr_at, if_pos (by omega), if_pos (by omega)] at h
    omega
theorem VV_time {x : Int} {p : Nat} (hV : VV N tm nd ch od) (hp : p < N) (hx : 1 ≤ x ∧ x ≤ 20) : VV N (up tm p x) nd ch od := by
  obtain ⟨hN, v1, v2, hR, hz, v5, v6, v7⟩ := hV
  refine ⟨hN, fun i hi => ?_, fun i hi h => ?_, hR, hz, v5, v6, v7⟩
  · by_cases e : i = p
    · rw [e, up_eq]
      omega
    · rw [up_ne _ _ e]
      exact v1 i hi
  · rw [up_ne _ _ (by omega)]
    exact v2 i hi h
theorem VV_need {x : Int} {p q : Nat} (hV : VV N tm nd ch od) (hp : p < N) (hq : q < N) (hpq : p ≠ q) (hx : 0 ≤ x ∧ x ≤ 9) : VV N tm (up nd (8 * p + q) x) ch od := by
  obtain ⟨hN, v1, v2, hR, hz, v5, v6, v7⟩ := hV
  refine ⟨hN, v1, v2, fun i hi => ?_, fun a b ha hb h => ?_, v5, v6, v7⟩
  · by_cases e : i = 8 * p + q
    · rw [e, up_eq]
      omega
    · rw [up_ne _ _ e]
      exact hR i hi
  · rw [up_ne _ _ (by omega)]
    exact hz a b ha hb h
theorem VV_chance {x : Int} {p q : Nat} (hV : VV N tm nd ch od) (hp : p < N) (hq : q < N) (hx : 0 ≤ x ∧ x ≤ 8) (hs : sm (fun x => ch (8 * p + x)) 8 - ch (8 * p + q) + x ≤ 8) : VV N tm nd (up ch (8 * p + q) x) od := by
  obtain ⟨hN, v1, v2, hR, hz, v5, v6, v7⟩ := hV
  refine ⟨hN, v1, v2, hR, hz, fun i hi => ?_, fun a ha => ?_, v7⟩
  · by_cases e : i = 8 * p + q
    · rw [e, up_eq]
      omega
    · rw [up_ne _ _ e]
      exact v5 i hi
  · by_cases e : a = p
    · subst e
      rw [sm_upd (f := fun x => ch (8 * a + x)) (m := q) 8 (by omega) (fun i hi hne => up_ne _ _ (by omega))]
      rw [up_eq]
      exact hs
    · rw [sm_congr (g := fun x => ch (8 * a + x)) 8 (fun i hi => up_ne _ _ (by omega))]
      exact v6 a ha
theorem OD_swap {p q : Nat} (h : OD (N : Int) od) (hp : p < N) (hq : q < N) : OD (N : Int) (up (up od p (od q)) q (od p)) := by
  have a : ∀ i, up (up od p (od q)) q (od p) i = if i = q then od p else if i = p then od q else od i := fun i => rfl
  have b1 := h.1 p (by omega)
  have b2 := h.1 q (by omega)
  refine ⟨fun i hi => ?_, fun i j hi hj e => ?_⟩
  · rw [a]
    have := h.1 i hi
    split
    · exact b1
    · split
      · exact b2
      · exact this
  · rw [a, a] at e
    have e1 := h.2 i j hi hj
    have e2 := h.2 i p hi (by omega)
    have e3 := h.2 i q hi (by omega)
    have e4 := h.2 p j (by omega) hj
    have e5 := h.2 q j (by omega) hj
    have e6 := h.2 p q (by omega) (by omega)
    have e7 := h.2 q p (by omega) (by omega)
    by_cases c1 : i = q <;> by_cases c2 : i = p <;> by_cases c3 : j = q <;> by_cases c4 : j = p <;> simp only [c1, c2, c3, c4, if_true, if_false] at e <;> first
      | omega
      | (simp_all; done)
      | (simp_all; omega)
end VVS
section OPX2
variable {sc : Nat → Int} {ar : Nat → Nat → Int} {Q : Option mV → mH → Prop} {N : Nat} {tm nd ch od : Nat → Int} {x1 x2 x3 : Int}
theorem ox_task (hV : VV N tm nd ch od) (hI : IX N tm nd ch od sc ar) (i1 : inR x1) (h : 1 ≤ x1 ∧ x1 ≤ 20) (h8 : N < 8) (k : ∀ sc2 ar2, PX sc ar sc2 ar2 → IX (N + 1) (up tm N x1) nd ch (wr od (fun i => (i : Int)) (N + 1)) sc2 ar2 → Q (some (vI N)) (sc2, ar2)) : Ev 15 M_Dt_task (0, [some (vO 0), some (vI x1), none], [], (sc, ar)) Q := by
  obtain ⟨hN, v1, v2, hR, hz, v5, v6, v7⟩ := id hV
  obtain ⟨h10, h49, h0, hnd, hch, hod⟩ := id hI
  refine Ev.deep (by decide) (sg_Dt_task_0 (ct_isTime i1 (fun _ => sg_Dt_task_4 ⟨by omega, fun _ => ⟨by omega, fun _ => ⟨by omega, by omega, ?_⟩, fun c => by omega⟩, fun c => absurd (by decide) c⟩) (fun c => absurd h c)))
  rw [h10, h0, Int.toNat_natCast]
  refine ct_restart (by omega) (sg_Dt_task_52 ?_)
  rw [show ((N : Int) + 1).toNat = N + 1 by omega, up_ne ar _ (show (48 : Nat) ≠ 0 by decide), hod]
  refine k _ _ (((PX.rf.s 10 _).s 49 _).a 0 _ |>.a 48 _) ⟨?_, ?_, ?_, ?_, ?_, ?_⟩
  · rw [up_ne _ _ (by decide), up_eq]
    rfl
  · rw [up_eq]
    rfl
  · rw [up_ne _ _ (by decide), up_eq]
  · rw [up_ne _ _ (by decide), up_ne _ _ (by decide), hnd]
  · rw [up_ne _ _ (by decide), up_ne _ _ (by decide), hch]
  · rw [up_eq]
theorem ox_task0 (hV : VV N tm nd ch od) (hI : IX N tm nd ch od sc ar) (i1 : inR x1) (h : ¬ ((1 ≤ x1 ∧ x1 ≤ 20) ∧ N < 8)) (k : Q (some (vI (if 1 ≤ x1 ∧ x1 ≤ 20 then -4 else -2))) (sc, ar)) : Ev 15 M_Dt_task (0, [some (vO 0), some (vI x1), none], [], (sc, ar)) Q := by
  obtain ⟨hN, v1, v2, hR, hz, v5, v6, v7⟩ := id hV
  obtain ⟨h10, h49, h0, hnd, hch, hod⟩ := id hI
  refine Ev.deep (by decide) (sg_Dt_task_0 (ct_isTime i1 (fun c => sg_Dt_task_4 ⟨by omega, fun _ => ⟨by omega, fun c2 => absurd ⟨c, by omega⟩ h, fun _ => ?_⟩, fun c => absurd (by decide) c⟩) (fun c => sg_Dt_task_4 ⟨by omega, fun c => absurd rfl c, fun _ => ?_⟩)))
  · rw [if_pos c] at k
    exact k
  · rw [if_neg c] at k
    exact k
theorem ox_time (hV : VV N tm nd ch od) (hI : IX N tm nd ch od sc ar) (i1 : inR x1) (i2 : inR x2) (a : tk N x1) (h : 1 ≤ x2 ∧ x2 ≤ 20) (k : ∀ sc2 ar2, PX sc ar sc2 ar2 → IX N (up tm x1.toNat x2) nd ch od sc2 ar2 → inR (tm x1.toNat) → Q (some (vI (tm x1.toNat))) (sc2, ar2)) : Ev 15 M_Dt_time (0, [some (vO 0), some (vI x1), some (vI x2), none], [], (sc, ar)) Q := by
  obtain ⟨hN, v1, v2, hR, hz, v5, v6, v7⟩ := id hV
  obtain ⟨h10, h49, h0, hnd, hch, hod⟩ := id hI
  obtain ⟨p, rfl, hp⟩ := tk_nat a
  have := v1 p (by omega)
  refine Ev.deep (by decide) (sg_Dt_time_0 (ct_isTask hN h10 i1 (fun _ => sg_Dt_time_5 ⟨by omega, fun _ => ct_isTime i2 (fun _ => sg_Dt_time_14 ⟨by omega, fun _ => ⟨by omega, by omega, by omega, by omega, ?_⟩, fun c => absurd (by decide) c⟩) (fun c => absurd h c), fun c => absurd (by decide) c⟩) (fun c => absurd a c)))
  rw [h0]
  rw [Int.toNat_natCast] at k ⊢
  refine k _ _ (PX.rf.a 0 _) ⟨h10, h49, up_eq _ _ _, ?_, ?_, ?_⟩ (by omega)
  · rw [up_ne _ _ (by decide), hnd]
  · rw [up_ne _ _ (by decide), hch]
  · rw [up_ne _ _ (by decide), hod]
theorem ox_time0 (hV : VV N tm nd ch od) (hI : IX N tm nd ch od sc ar) (i1 : inR x1) (i2 : inR x2) (h : ¬ (tk N x1 ∧ 1 ≤ x2 ∧ x2 ≤ 20)) (k : Q (some (vI (aOne N x1 (-1) (-2)))) (sc, ar)) : Ev 15 M_Dt_time (0, [some (vO 0), some (vI x1), some (vI x2), none], [], (sc, ar)) Q := by
  obtain ⟨hN, v1, v2, hR, hz, v5, v6, v7⟩ := id hV
  obtain ⟨h10, h49, h0, hnd, hch, hod⟩ := id hI
  refine Ev.deep (by decide) (sg_Dt_time_0 (ct_isTask hN h10 i1 (fun a => sg_Dt_time_5 ⟨by omega, fun _ => ct_isTime i2 (fun c => absurd ⟨a, c⟩ h) (fun _ => sg_Dt_time_14 ⟨by omega, fun c => absurd rfl c, fun _ => ?_⟩), fun c => absurd (by decide) c⟩) (fun a => sg_Dt_time_5 ⟨by omega, fun c => absurd rfl c, fun _ => ?_⟩)))
  · rw [aOne_yes a] at k
    exact k
  · rw [aOne_no a] at k
    exact k
theorem ox_need (hV : VV N tm nd ch od) (hI : IX N tm nd ch od sc ar) (i1 : inR x1) (i2 : inR x2) (i3 : inR x3) (a : tk N x1) (b : tk N x2) (h : 0 ≤ x3 ∧ x3 ≤ 9) (hne : x1 ≠ x2) (k : ∀ sc2 ar2, PX sc ar sc2 ar2 → IX N tm (up nd (8 * x1.toNat + x2.toNat) x3) ch od sc2 ar2 → inR (nd (8 * x1.toNat + x2.toNat)) → Q (some (vI (nd (8 * x1.toNat + x2.toNat)))) (sc2, ar2)) : Ev 15 M_Dt_need (0, [some (vO 0), some (vI x1), some (vI x2), some (vI x3)], [], (sc, ar)) Q := by
  obtain ⟨hN, v1, v2, hR, hz, v5, v6, v7⟩ := id hV
  obtain ⟨h10, h49, h0, hnd, hch, hod⟩ := id hI
  obtain ⟨p, rfl, hp⟩ := tk_nat a
  obtain ⟨q, rfl, hq⟩ := tk_nat b
  have hr := hR.at (show p < 8 by omega) (show q < 8 by omega)
  refine Ev.deep (by decide) (sg_Dt_need_0 (ct_isTask hN h10 i1 (fun _ => sg_Dt_need_5 ⟨by omega, fun c => by omega, fun _ => ct_isTask hN h10 i2 (fun _ => sg_Dt_need_13 ⟨by omega, fun _ => ⟨i3, fun c => by omega, fun _ => ⟨i3, fun _ => ⟨i1, i2, fun _ => ct_putN (by omega) (by omega) (sg_Dt_need_49 ?_), fun c => absurd hne c⟩, fun c => by omega⟩⟩, fun c => absurd (by decide) c⟩) (fun c => absurd b c)⟩) (fun c => absurd a c)))
  rw [show (8 * (p : Int) + (q : Int)).toNat = 8 * p + q by omega, hnd]
  rw [Int.toNat_natCast, Int.toNat_natCast] at k
  refine k _ _ (PX.rf.a 16 _) ⟨h10, h49, ?_, up_eq _ _ _, ?_, ?_⟩ (by omega)
  · rw [up_ne _ _ (by decide), h0]
  · rw [up_ne _ _ (by decide), hch]
  · rw [up_ne _ _ (by decide), hod]
theorem ox_need0 (hV : VV N tm nd ch od) (hI : IX N tm nd ch od sc ar) (i1 : inR x1) (i2 : inR x2) (i3 : inR x3) (h : ¬ (tk N x1 ∧ tk N x2 ∧ (0 ≤ x3 ∧ x3 ≤ 9) ∧ x1 ≠ x2)) (k : Q (some (vI (aTwo N x1 x2 (if 0 ≤ x3 ∧ x3 ≤ 9 then -3 else -2)))) (sc, ar)) : Ev 15 M_Dt_need (0, [some (vO 0), some (vI x1), some (vI x2), some (vI x3)], [], (sc, ar)) Q := by
  obtain ⟨hN, v1, v2, hR, hz, v5, v6, v7⟩ := id hV
  obtain ⟨h10, h49, h0, hnd, hch, hod⟩ := id hI
  refine Ev.deep (by decide) (sg_Dt_need_0 (ct_isTask hN h10 i1 (fun a => sg_Dt_need_5 ⟨by omega, fun c => by omega, fun _ => ct_isTask hN h10 i2 (fun b => sg_Dt_need_13 ⟨by omega, fun _ => ⟨i3, fun c => ?_, fun _ => ⟨i3, fun _ => ⟨i1, i2, fun c => absurd ⟨a, b, ⟨by omega, by omega⟩, c⟩ h, fun c => ?_⟩, fun c => ?_⟩⟩, fun c => absurd (by decide) c⟩) (fun b => sg_Dt_need_13 ⟨by omega, fun c => absurd rfl c, fun _ => ?_⟩)⟩) (fun a => sg_Dt_need_5 ⟨by omega, fun _ => ?_, fun c => absurd rfl c⟩)))
  · rw [aTwo_yes a b, if_neg (by omega)] at k
    exact k
  · rw [aTwo_yes a b, if_pos (by omega)] at k
    exact k
  · rw [aTwo_yes a b, if_neg (by omega)] at k
    exact k
  · rw [aTwo_no (fun z => b z.2)] at k
    exact k
  · rw [aTwo_no (fun z => a z.1)] at k
    exact k
theorem ox_chance (hV : VV N tm nd ch od) (hI : IX N tm nd ch od sc ar) (i1 : inR x1) (i2 : inR x2) (i3 : inR x3) (a : tk N x1) (b : tk N x2) (h : 0 ≤ x3 ∧ x3 ≤ 8) (hne : x1 ≠ x2) (hs : sm (fun x => ch (8 * x1.toNat + x)) 8 - ch (8 * x1.toNat + x2.toNat) + x3 ≤ 8) (k : ∀ sc2 ar2, PX sc ar sc2 ar2 → IX N tm nd (up ch (8 * x1.toNat + x2.toNat) x3) od sc2 ar2 → inR (ch (8 * x1.toNat + x2.toNat)) → Q (some (vI (ch (8 * x1.toNat + x2.toNat)))) (sc2, ar2)) : Ev 15 M_Dt_chance (0, [some (vO 0), some (vI x1), some (vI x2), some (vI x3)], [], (sc, ar)) Q := by
  obtain ⟨hN, v1, v2, hR, hz, v5, v6, v7⟩ := id hV
  obtain ⟨h10, h49, h0, hnd, hch, hod⟩ := id hI
  obtain ⟨p, rfl, hp⟩ := tk_nat a
  obtain ⟨q, rfl, hq⟩ := tk_nat b
  rw [Int.toNat_natCast, Int.toNat_natCast] at hs
  have hr := v5 (8 * p + q) (by omega)
  have hb := sm_bd (f := fun x => ch (8 * p + x)) (b := 8) 8 (fun i hi => v5 _ (by omega))
  have e : sm (fun x => ar 32 (8 * (p : Int) + (x : Int)).toNat) 8 = sm (fun x => ch (8 * p + x)) 8 := sm_congr 8 (fun i hi => by
    show ar 32 _ = ch _
    rw [hch, show (8 * (p : Int) + (i : Int)).toNat = 8 * p + i by omega])
  have e2 : (8 * (p : Int) + (q : Int)).toNat = 8 * p + q := by omega
  refine Ev.deep (by decide) (sg_Dt_chance_0 (ct_isTask hN h10 i1 (fun _ => sg_Dt_chance_5 ⟨by omega, fun c => by omega, fun _ => ct_isTask hN h10 i2 (fun _ => sg_Dt_chance_13 ⟨by omega, fun _ => ⟨i3, fun c => by omega, fun _ => ⟨i3, fun _ => ⟨i1, i2, fun c => absurd c hne, fun _ => ct_sumOfRow (by omega) (sg_Dt_chance_44 (ct_getC (by omega) (by omega) (sg_Dt_chance_53 ?_)))⟩, fun c => by omega⟩⟩, fun c => absurd (by decide) c⟩) (fun c => absurd b c)⟩) (fun c => absurd a c)))
  rw [e, e2, hch]
  refine ⟨by omega, fun _ => ct_putC (by omega) (by omega) (sg_Dt_chance_74 ?_), fun c => by omega⟩
  rw [e2, hch]
  rw [Int.toNat_natCast, Int.toNat_natCast] at k
  refine k _ _ (PX.rf.a 32 _) ⟨h10, h49, ?_, ?_, up_eq _ _ _, ?_⟩ (by omega)
  · rw [up_ne _ _ (by decide), h0]
  · rw [up_ne _ _ (by decide), hnd]
  · rw [up_ne _ _ (by decide), hod]
theorem ox_chance0 (hV : VV N tm nd ch od) (hI : IX N tm nd ch od sc ar) (i1 : inR x1) (i2 : inR x2) (i3 : inR x3) (h : ¬ (tk N x1 ∧ tk N x2 ∧ (0 ≤ x3 ∧ x3 ≤ 8) ∧ x1 ≠ x2 ∧ sm (fun x => ch (8 * x1.toNat + x)) 8 - ch (8 * x1.toNat + x2.toNat) + x3 ≤ 8)) (k : Q (some (vI (aTwo N x1 x2 (if 0 ≤ x3 ∧ x3 ≤ 8 then -3 else -2)))) (sc, ar)) : Ev 15 M_Dt_chance (0, [some (vO 0), some (vI x1), some (vI x2), some (vI x3)], [], (sc, ar)) Q := by
  obtain ⟨hN, v1, v2, hR, hz, v5, v6, v7⟩ := id hV
  obtain ⟨h10, h49, h0, hnd, hch, hod⟩ := id hI
  refine Ev.deep (by decide) (sg_Dt_chance_0 (ct_isTask hN h10 i1 (fun a => sg_Dt_chance_5 ⟨by omega, fun c => by omega, fun _ => ct_isTask hN h10 i2 (fun b => sg_Dt_chance_13 ⟨by omega, fun _ => ⟨i3, fun c => ?_, fun _ => ⟨i3, fun _ => ⟨i1, i2, fun c => ?_, fun c => ct_sumOfRow (by have := a.1; have := a.2; omega) (sg_Dt_chance_44 (ct_getC (by have := a.1; have := a.2; omega) (by have := b.1; have := b.2; omega) (sg_Dt_chance_53 ?_)))⟩, fun c => ?_⟩⟩, fun c => absurd (by decide) c⟩) (fun b => sg_Dt_chance_13 ⟨by omega, fun c => absurd rfl c, fun _ => ?_⟩)⟩) (fun a => sg_Dt_chance_5 ⟨by omega, fun _ => ?_, fun c => absurd rfl c⟩)))
  · rw [aTwo_yes a b, if_neg (by omega)] at k
    exact k
  · rw [aTwo_yes a b, if_pos (by omega)] at k
    exact k
  · rw [aTwo_yes a b, if_pos (by omega)] at k
    obtain ⟨p, rfl, hp⟩ := tk_nat a
    obtain ⟨q, rfl, hq⟩ := tk_nat b
    rw [Int.toNat_natCast, Int.toNat_natCast] at h
    have hr := v5 (8 * p + q) (by omega)
    have hb := sm_bd (f := fun x => ch (8 * p + x)) (b := 8) 8 (fun i hi => v5 _ (by omega))
    have e : sm (fun x => ar 32 (8 * (p : Int) + (x : Int)).toNat) 8 = sm (fun x => ch (8 * p + x)) 8 := sm_congr 8 (fun i hi => by
      show ar 32 _ = ch _
      rw [hch, show (8 * (p : Int) + (i : Int)).toNat = 8 * p + i by omega])
    have e2 : (8 * (p : Int) + (q : Int)).toNat = 8 * p + q := by omega
    rw [e, e2, hch]
    exact ⟨by omega, fun c2 => absurd ⟨a, b, ⟨by omega, by omega⟩, c, by omega⟩ h, fun _ => k⟩
  · rw [aTwo_yes a b, if_neg (by omega)] at k
    exact k
  · rw [aTwo_no (fun z => b z.2)] at k
    exact k
  · rw [aTwo_no (fun z => a z.1)] at k
    exact k
theorem ox_swap (hV : VV N tm nd ch od) (hI : IX N tm nd ch od sc ar) (i1 : inR x1) (i2 : inR x2) (a : tk N x1) (b : tk N x2) (k : ∀ sc2 ar2 od2, PX sc ar sc2 ar2 → od2 = up (up od x1.toNat (od x2.toNat)) x2.toNat (od x1.toNat) → OD (N : Int) od2 → IX N tm nd ch od2 sc2 ar2 → inR (GS nd od2 N) → Q (some (vI (GS nd od2 N))) (sc2, ar2)) : Ev 15 M_Dt_swap (0, [some (vO 0), some (vI x1), some (vI x2)], [], (sc, ar)) Q := by
  obtain ⟨hN, v1, v2, hR, hz, v5, v6, v7⟩ := id hV
  obtain ⟨h10, h49, h0, hnd, hch, hod⟩ := id hI
  obtain ⟨p, rfl, hp⟩ := tk_nat a
  obtain ⟨q, rfl, hq⟩ := tk_nat b
  rw [Int.toNat_natCast, Int.toNat_natCast] at k
  have ho := OD_swap v7 hp hq
  have hb := GS_bd hR hN ho
  refine Ev.deep (by decide) (sg_Dt_swap_0 (ct_hasPlaceT h49 (by omega) (by omega) (sg_Dt_swap_8 ⟨by omega, fun c => by omega, fun _ => ct_hasPlaceT h49 (by omega) (by omega) (sg_Dt_swap_19 ⟨by omega, fun _ => Ev.deep (by decide) (sg_Order_exchange_0 (ct_hasPlaceT h49 (by omega) (by omega) (sg_Order_exchange_5 ⟨by omega, fun c => by omega, fun _ => ct_hasPlaceT h49 (by omega) (by omega) (sg_Order_exchange_13 ⟨by omega, fun c => by omega, fun _ => ⟨by omega, by omega, by omega, by omega, by omega, by omega, by omega, by omega, sg_Dt_swap_34 ?_⟩⟩)⟩))), fun c => absurd (by decide) c⟩)⟩)))
  rw [up_up, Int.toNat_natCast, Int.toNat_natCast, hod]
  refine ct_guessOf hN h49 (up_eq _ _ _) (by rw [up_ne _ _ (by decide)]; exact hnd) ho (sg_Dt_swap_45 (k _ _ _ (PX.rf.a 48 _) rfl ho ⟨h10, h49, ?_, ?_, ?_, up_eq _ _ _⟩ (by omega)))
  · rw [up_ne _ _ (by decide), h0]
  · rw [up_ne _ _ (by decide), hnd]
  · rw [up_ne _ _ (by decide), hch]
theorem ox_swap0 (hV : VV N tm nd ch od) (hI : IX N tm nd ch od sc ar) (i1 : inR x1) (i2 : inR x2) (h : ¬ (tk N x1 ∧ tk N x2)) (k : Q (some (vI (-2))) (sc, ar)) : Ev 15 M_Dt_swap (0, [some (vO 0), some (vI x1), some (vI x2)], [], (sc, ar)) Q := by
  obtain ⟨hN, v1, v2, hR, hz, v5, v6, v7⟩ := id hV
  obtain ⟨h10, h49, h0, hnd, hch, hod⟩ := id hI
  refine Ev.deep (by decide) (sg_Dt_swap_0 ?_)
  rcases Classical.em (tk N x1) with a | a
  · refine ct_hasPlaceT h49 a (by omega) (sg_Dt_swap_8 ⟨by omega, fun c => by omega, fun _ => ct_hasPlaceT0 h49 i2 (fun z => h ⟨a, z⟩) (by omega) (sg_Dt_swap_19 ⟨by omega, fun c => absurd rfl c, fun _ => k⟩)⟩)
  · exact ct_hasPlaceT0 h49 i1 a (by omega) (sg_Dt_swap_8 ⟨by omega, fun _ => k, fun c => absurd rfl c⟩)
theorem ox_take (hV : VV N tm nd ch od) (hI : IX N tm nd ch od sc ar) (k : ∀ sc2 ar2 od2, PX sc ar sc2 ar2 → od2 = wr od (LO nd N) N → OD (N : Int) od2 → IX N tm nd ch od2 sc2 ar2 → inR (GS nd od2 N) → Q (some (vI (GS nd od2 N))) (sc2, ar2)) : Ev 15 M_Dt_take (0, [some (vO 0)], [], (sc, ar)) Q := by
  obtain ⟨hN, v1, v2, hR, hz, v5, v6, v7⟩ := id hV
  obtain ⟨h10, h49, h0, hnd, hch, hod⟩ := id hI
  have ho : OD (N : Int) (wr od (LO nd N) N) := (LO_od hR hN).congr (fun i hi => by rw [wr_at, if_pos (by omega)])
  have hb := GS_bd hR hN ho
  refine Ev.deep (by decide) (sg_Dt_take_0 ?_)
  rw [h10]
  refine ct_find hR hN hnd (fun f => sg_Dt_take_19 (ct_become (c := (N : Int)) (by omega) (up_eq _ _ _) (sg_Dt_take_22 ?_)))
  have e : wr (up (up ar 80 f) 96 (wr (ar 96) (LO nd N) N) 48) (up (up ar 80 f) 96 (wr (ar 96) (LO nd N) N) 96) (N : Int).toNat = wr od (LO nd N) N := by
    rw [up_eq, up_ne _ _ (by decide), up_ne _ _ (by decide), hod, Int.toNat_natCast]
    exact wr_congr N (fun i hi => by rw [wr_at, if_pos hi])
  rw [e]
  refine ct_guessOf hN (up_eq _ _ _) (up_eq _ _ _) (by rw [up_ne _ _ (by decide), up_ne _ _ (by decide), up_ne _ _ (by decide)]; exact hnd) ho (sg_Dt_take_33 (k _ _ _ (((PX.rf.a 80 f).a 96 _).a 48 _ |>.s 97 _ |>.s 49 _) rfl ho ⟨?_, up_eq _ _ _, ?_, ?_, ?_, up_eq _ _ _⟩ (by omega)))
  · rw [up_ne _ _ (by decide), up_ne _ _ (by decide), h10]
  · rw [up_ne _ _ (by decide), up_ne _ _ (by decide), up_ne _ _ (by decide), h0]
  · rw [up_ne _ _ (by decide), up_ne _ _ (by decide), up_ne _ _ (by decide), hnd]
  · rw [up_ne _ _ (by decide), up_ne _ _ (by decide), up_ne _ _ (by decide), hch]
end OPX2

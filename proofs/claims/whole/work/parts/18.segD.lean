/-! segments of the methods, printed by tools/seg.py: what must hold at a place for the walk to the next ones -/
theorem sg_Md_in_0 {sc : Nat → Int} {ar : Nat → Nat → Int} {x0 x2 x4 : Int} {Q : Option mV → mH → Prop} (k : inL x0 ∧ inL x2 ∧ 
  (
  (x0 < x2 → (Q (some (vI 0)) (sc, ar))) ∧ 
  (¬ (x0 < x2) → (inL x0 ∧ inL x4 ∧ 
    (
    (x4 < x0 → (Q (some (vI 0)) (sc, ar))) ∧ 
    (¬ (x4 < x0) → (Q (some (vI 1)) (sc, ar)))))))) :
  Ev 0 M_Md_in (0, [some (vL x0), none, some (vL x2), none, some (vL x4), none], [], (sc, ar)) Q :=
  wq_ok 200 _ _ [] _ _ _ _ _ (show (inL x0 ∧ inL x2) ∧ ((inR (sgn x0 x2)) ∧ ((sgn x0 x2) < 0 → (((0 : Int) ≤ 0 ∧ (0 : Int) ≤ 1) ∧ (Q (some (vI 0)) (sc, ar)))) ∧ (¬ ((sgn x0 x2) < 0) → ((inL x0 ∧ inL x4) ∧ ((inR (sgn x0 x4)) ∧ (0 < (sgn x0 x4) → (((0 : Int) ≤ 0 ∧ (0 : Int) ≤ 1) ∧ (Q (some (vI 0)) (sc, ar)))) ∧ (¬ (0 < (sgn x0 x4)) → (((0 : Int) ≤ 1 ∧ (1 : Int) ≤ 1) ∧ (Q (some (vI 1)) (sc, ar)))))))) from ⟨⟨k.1, k.2.1⟩, ⟨(sgn_in _ _), fun c1 => ⟨⟨(by decide), (by decide)⟩, (k.2.2.1 (sgn_lt.mp c1))⟩, fun c1 => ⟨⟨(k.2.2.2 (fun w => c1 (sgn_lt.mpr w))).1, (k.2.2.2 (fun w => c1 (sgn_lt.mpr w))).2.1⟩, ⟨(sgn_in _ _), fun c2 => ⟨⟨(by decide), (by decide)⟩, ((k.2.2.2 (fun w => c1 (sgn_lt.mpr w))).2.2.1 (sgn_gt.mp c2))⟩, fun c2 => ⟨⟨(by decide), (by decide)⟩, ((k.2.2.2 (fun w => c1 (sgn_lt.mpr w))).2.2.2 (fun w => c2 (sgn_gt.mpr w)))⟩⟩⟩⟩⟩)
theorem sg_Md_no_0 {sc : Nat → Int} {ar : Nat → Nat → Int} {x1 : Int} {Q : Option mV → mH → Prop} (k : inR x1 ∧ 
  (inR ((sc 177) - 1) ∧ 
  (Ev 0 M_Md_in (0, [some (vL x1), none, some (vL 0), none, some (vL ((sc 177) - 1)), none], [], (sc, ar)) (fun r1 h1 => Ev 1 M_Md_no (13, [some (vO 11), some (vI x1)], mPush r1 [], h1) Q)))) :
  Ev 1 M_Md_no (0, [some (vO 11), some (vI x1)], [], (sc, ar)) Q :=
  wq_ok 200 _ _ [(13, 2)] _ _ _ _ _ (show (inR x1) ∧ ((cO 11 = 9) ∧ ((inR ((sc 177) - 1)) ∧ (Ev 0 M_Md_in (0, [some (vL x1), none, some (vL 0), none, some (vL ((sc 177) - 1)), none], [], (sc, ar)) (fun r1 h1 => Ev 1 M_Md_no (13, [some (vO 11), some (vI x1)], mPush r1 [], h1) Q)))) from ⟨k.1, ⟨(by decide), ⟨k.2.1, k.2.2⟩⟩⟩)
theorem sg_Md_no_13 {sc : Nat → Int} {ar : Nat → Nat → Int} {x1 s0 : Int} {Q : Option mV → mH → Prop} (k : inR s0 ∧ 
  (s0 ≠ 0 → (Q (some (vI 0)) (sc, ar))) ∧ 
  (¬ (s0 ≠ 0) → (Q (some (vI 1)) (sc, ar)))) :
  Ev 1 M_Md_no (13, [some (vO 11), some (vI x1)], [vI s0], (sc, ar)) Q :=
  wq_ok 200 _ _ [(13, 2)] _ _ _ _ _ (show (inR s0) ∧ (s0 ≠ 0 → (((0 : Int) ≤ 0 ∧ (0 : Int) ≤ 1) ∧ (Q (some (vI 0)) (sc, ar)))) ∧ (¬ (s0 ≠ 0) → (((0 : Int) ≤ 1 ∧ (1 : Int) ≤ 1) ∧ (Q (some (vI 1)) (sc, ar)))) from ⟨k.1, fun c1 => ⟨⟨(by decide), (by decide)⟩, (k.2.1 c1)⟩, fun c1 => ⟨⟨(by decide), (by decide)⟩, (k.2.2 c1)⟩⟩)
theorem sg_Md_told_0 {sc : Nat → Int} {ar : Nat → Nat → Int} {x0 x2 x4 : Int} {Q : Option mV → mH → Prop} (k : Ev 0 M_Md_told (6, [some (vL x0), none, some (vL x2), none, some (vI x4), some (vL x0), none, some (vL x2), none, none, none], [], (sc, ar)) Q) :
  Ev 0 M_Md_told (0, [some (vL x0), none, some (vL x2), none, some (vI x4), none, none, none, none, none, none], [], (sc, ar)) Q :=
  wq_ok 200 _ _ [(6, 9)] _ _ _ _ _ (show Ev 0 M_Md_told (6, [some (vL x0), none, some (vL x2), none, some (vI x4), some (vL x0), none, some (vL x2), none, none, none], [], (sc, ar)) Q from k)
theorem sg_Md_told_6 {sc : Nat → Int} {ar : Nat → Nat → Int} {x0 x2 x4 x5 x7 : Int} {Q : Option mV → mH → Prop} (k : inL x7 ∧ 
  (
  (x7 = 0 → (inR x4 ∧ 
    (x4 = 0 → (inL x2 ∧ inL x5 ∧ (0 : Int) < x5 ∧ 
      (Q (some (vL (Int.tdiv x2 x5))) (sc, ar)))) ∧ 
    (¬ (x4 = 0) → (inL x0 ∧ inL x5 ∧ (0 : Int) < x5 ∧ 
      (Q (some (vL (Int.tdiv x0 x5))) (sc, ar)))))) ∧ 
  (¬ (x7 = 0) → (inL x5 ∧ inL x7 ∧ (0 : Int) < x7 ∧ 
    (Ev 0 M_Md_told (6, [some (vL x0), none, some (vL x2), none, some (vI x4), some (vL x7), none, some (vL (Int.tmod x5 x7)), none, none, none], [], (sc, ar)) Q))))) :
  Ev 0 M_Md_told (6, [some (vL x0), none, some (vL x2), none, some (vI x4), some (vL x5), none, some (vL x7), none, none, none], [], (sc, ar)) Q :=
  wq_ok 200 _ _ [(6, 9)] _ _ _ _ _ (show (inL x7 ∧ inL 0) ∧ ((inR (sgn x7 0)) ∧ ((sgn x7 0) = 0 → ((inR x4) ∧ (x4 = 0 → ((inL x2 ∧ inL x5 ∧ (0 : Int) < x5) ∧ (Q (some (vL (Int.tdiv x2 x5))) (sc, ar)))) ∧ (¬ (x4 = 0) → ((inL x0 ∧ inL x5 ∧ (0 : Int) < x5) ∧ (Q (some (vL (Int.tdiv x0 x5))) (sc, ar)))))) ∧ (¬ ((sgn x7 0) = 0) → ((inL x5 ∧ inL x7 ∧ (0 : Int) < x7) ∧ (Ev 0 M_Md_told (6, [some (vL x0), none, some (vL x2), none, some (vI x4), some (vL x7), none, some (vL (Int.tmod x5 x7)), none, none, none], [], (sc, ar)) Q)))) from ⟨⟨k.1, (by decide)⟩, ⟨(sgn_in _ _), fun c1 => ⟨(k.2.1 (sgn_eq.mp c1)).1, fun c2 => ⟨⟨((k.2.1 (sgn_eq.mp c1)).2.1 c2).1, ((k.2.1 (sgn_eq.mp c1)).2.1 c2).2.1, ((k.2.1 (sgn_eq.mp c1)).2.1 c2).2.2.1⟩, ((k.2.1 (sgn_eq.mp c1)).2.1 c2).2.2.2⟩, fun c2 => ⟨⟨((k.2.1 (sgn_eq.mp c1)).2.2 c2).1, ((k.2.1 (sgn_eq.mp c1)).2.2 c2).2.1, ((k.2.1 (sgn_eq.mp c1)).2.2 c2).2.2.1⟩, ((k.2.1 (sgn_eq.mp c1)).2.2 c2).2.2.2⟩⟩, fun c1 => ⟨⟨(k.2.2 (fun w => c1 (sgn_eq.mpr w))).1, (k.2.2 (fun w => c1 (sgn_eq.mpr w))).2.1, (k.2.2 (fun w => c1 (sgn_eq.mpr w))).2.2.1⟩, (k.2.2 (fun w => c1 (sgn_eq.mpr w))).2.2.2⟩⟩⟩)
theorem sg_Md_task_0 {sc : Nat → Int} {ar : Nat → Nat → Int} {x1 : Int} {Q : Option mV → mH → Prop} (k : inR x1 ∧ 
  (Ev 0 M_Md_in (0, [some (vL x1), none, some (vL 1), none, some (vL 20), none], [], ((up sc 176 0), ar)) (fun r1 h1 => Ev 1 M_Md_task (14, [some (vO 11), some (vI x1), none], mPush r1 [], h1) Q))) :
  Ev 1 M_Md_task (0, [some (vO 11), some (vI x1), none], [], (sc, ar)) Q :=
  wq_ok 200 _ _ [(14, 2), (54, 3)] _ _ _ _ _ (show (cO 11 = 9) ∧ ((inR x1) ∧ (Ev 0 M_Md_in (0, [some (vL x1), none, some (vL 1), none, some (vL 20), none], [], ((up sc 176 0), ar)) (fun r1 h1 => Ev 1 M_Md_task (14, [some (vO 11), some (vI x1), none], mPush r1 [], h1) Q))) from ⟨(by decide), ⟨k.1, k.2⟩⟩)
theorem sg_Md_task_14 {sc : Nat → Int} {ar : Nat → Nat → Int} {x1 s0 : Int} {Q : Option mV → mH → Prop} (k : inR s0 ∧ 
  (s0 ≠ 0 → (inR (sc 177) ∧ 
    ((sc 177) ≠ 8 → ((0 : Int) ≤ (sc 177) ∧ (sc 177) < (8 : Int) ∧ 
      (Ev 1 M_Md_task (54, [some (vO 11), some (vI x1), some (vI 0)], [], ((up sc 177 ((sc 177) + 1)), (up ar 178 (up (ar 178) (sc 177).toNat x1)))) Q))) ∧ 
    (¬ ((sc 177) ≠ 8) → (Q (some (vI (-4))) (sc, ar))))) ∧ 
  (¬ (s0 ≠ 0) → (Q (some (vI (-2))) (sc, ar)))) :
  Ev 1 M_Md_task (14, [some (vO 11), some (vI x1), none], [vI s0], (sc, ar)) Q :=
  wq_ok 200 _ _ [(14, 2), (54, 3)] _ _ _ _ _ (show (inR s0) ∧ (s0 ≠ 0 → ((cO 11 = 9) ∧ ((inR (sc 177) ∧ inR 8) ∧ ((sc 177) ≠ 8 → ((cO 11 = 9) ∧ ((cO 11 = 9) ∧ ((aK 178 = 0 ∧ 178 ≠ 999 ∧ (0 : Int) ≤ (sc 177) ∧ (sc 177) < (8 : Int)) ∧ ((cO 11 = 9) ∧ ((cO 11 = 9) ∧ (Ev 1 M_Md_task (54, [some (vO 11), some (vI x1), some (vI 0)], [], ((up sc 177 ((sc 177) + 1)), (up ar 178 (up (ar 178) (sc 177).toNat x1)))) Q))))))) ∧ (¬ ((sc 177) ≠ 8) → (Q (some (vI (-4))) (sc, ar)))))) ∧ (¬ (s0 ≠ 0) → (Q (some (vI (-2))) (sc, ar))) from ⟨k.1, fun c1 => ⟨(by decide), ⟨⟨(k.2.1 c1).1, (by decide)⟩, fun c2 => ⟨(by decide), ⟨(by decide), ⟨⟨(by decide), (by decide), ((k.2.1 c1).2.1 c2).1, ((k.2.1 c1).2.1 c2).2.1⟩, ⟨(by decide), ⟨(by decide), ((k.2.1 c1).2.1 c2).2.2⟩⟩⟩⟩⟩, fun c2 => ((k.2.1 c1).2.2 c2)⟩⟩, fun c1 => (k.2.2 c1)⟩)
theorem sg_Md_task_54 {sc : Nat → Int} {ar : Nat → Nat → Int} {x1 x2 : Int} {Q : Option mV → mH → Prop} (k : inR x2 ∧ inR (sc 177) ∧ 
  ((sc 177) ≤ x2 → (Q (some (vI ((sc 177) - 1))) (sc, ar))) ∧ 
  (¬ ((sc 177) ≤ x2) → ((0 : Int) ≤ x2 ∧ x2 < (8 : Int) ∧ 
    (Ev 1 M_Md_task (54, [some (vO 11), some (vI x1), some (vI (x2 + 1))], [], (sc, (up ar 181 (up (ar 181) x2.toNat x2)))) Q)))) :
  Ev 1 M_Md_task (54, [some (vO 11), some (vI x1), some (vI x2)], [], (sc, ar)) Q :=
  wq_ok 200 _ _ [(14, 2), (54, 3)] _ _ _ _ _ (show (cO 11 = 9) ∧ ((inR x2 ∧ inR (sc 177)) ∧ ((sc 177) ≤ x2 → ((cO 11 = 9) ∧ (Q (some (vI ((sc 177) - 1))) (sc, ar)))) ∧ (¬ ((sc 177) ≤ x2) → ((cO 11 = 9) ∧ ((aK 181 = 0 ∧ 181 ≠ 999 ∧ (0 : Int) ≤ x2 ∧ x2 < (8 : Int)) ∧ (Ev 1 M_Md_task (54, [some (vO 11), some (vI x1), some (vI (x2 + 1))], [], (sc, (up ar 181 (up (ar 181) x2.toNat x2)))) Q))))) from ⟨(by decide), ⟨⟨k.1, k.2.1⟩, fun c1 => ⟨(by decide), (k.2.2.1 c1)⟩, fun c1 => ⟨(by decide), ⟨⟨(by decide), (by decide), (k.2.2.2 c1).1, (k.2.2.2 c1).2.1⟩, (k.2.2.2 c1).2.2⟩⟩⟩⟩)
theorem sg_Md_time_0 {sc : Nat → Int} {ar : Nat → Nat → Int} {x1 x2 : Int} {Q : Option mV → mH → Prop} (k : Ev 1 M_Md_no (0, [some (vO 11), some (vI x1)], [], ((up sc 176 0), ar)) (fun r1 h1 => Ev 2 M_Md_time (10, [some (vO 11), some (vI x1), some (vI x2), none], mPush r1 [], h1) Q)) :
  Ev 2 M_Md_time (0, [some (vO 11), some (vI x1), some (vI x2), none], [], (sc, ar)) Q :=
  wq_ok 200 _ _ [(10, 3), (24, 3)] _ _ _ _ _ (show (cO 11 = 9) ∧ ((cO 11 = mK M_Md_no) ∧ (Ev 1 M_Md_no (0, [some (vO 11), some (vI x1)], [], ((up sc 176 0), ar)) (fun r1 h1 => Ev 2 M_Md_time (10, [some (vO 11), some (vI x1), some (vI x2), none], mPush r1 [], h1) Q))) from ⟨(by decide), ⟨(by decide), k⟩⟩)
theorem sg_Md_time_10 {sc : Nat → Int} {ar : Nat → Nat → Int} {x1 x2 s0 : Int} {Q : Option mV → mH → Prop} (k : inR s0 ∧ 
  (s0 = 0 → (inR x2 ∧ 
    (Ev 1 M_Md_in (0, [some (vL x2), none, some (vL 1), none, some (vL 20), none], [], (sc, ar)) (fun r1 h1 => Ev 2 M_Md_time (24, [some (vO 11), some (vI x1), some (vI x2), none], mPush r1 [], h1) Q)))) ∧ 
  (¬ (s0 = 0) → (Q (some (vI (-1))) (sc, ar)))) :
  Ev 2 M_Md_time (10, [some (vO 11), some (vI x1), some (vI x2), none], [vI s0], (sc, ar)) Q :=
  wq_ok 200 _ _ [(10, 3), (24, 3)] _ _ _ _ _ (show (inR s0) ∧ (s0 = 0 → ((inR x2) ∧ (Ev 1 M_Md_in (0, [some (vL x2), none, some (vL 1), none, some (vL 20), none], [], (sc, ar)) (fun r1 h1 => Ev 2 M_Md_time (24, [some (vO 11), some (vI x1), some (vI x2), none], mPush r1 [], h1) Q)))) ∧ (¬ (s0 = 0) → (Q (some (vI (-1))) (sc, ar))) from ⟨k.1, fun c1 => ⟨(k.2.1 c1).1, (k.2.1 c1).2⟩, fun c1 => (k.2.2 c1)⟩)
theorem sg_Md_time_24 {sc : Nat → Int} {ar : Nat → Nat → Int} {x1 x2 s0 : Int} {Q : Option mV → mH → Prop} (k : inR s0 ∧ 
  (s0 ≠ 0 → ((0 : Int) ≤ x1 ∧ x1 < (8 : Int) ∧ 
    ((0 : Int) ≤ x1 ∧ x1 < (8 : Int) ∧ 
    (Q (some (vI (ar 178 x1.toNat))) (sc, (up ar 178 (up (ar 178) x1.toNat x2))))))) ∧ 
  (¬ (s0 ≠ 0) → (Q (some (vI (-2))) (sc, ar)))) :
  Ev 2 M_Md_time (24, [some (vO 11), some (vI x1), some (vI x2), none], [vI s0], (sc, ar)) Q :=
  wq_ok 200 _ _ [(10, 3), (24, 3)] _ _ _ _ _ (show (inR s0) ∧ (s0 ≠ 0 → ((cO 11 = 9) ∧ ((aK 178 = 0 ∧ (0 : Int) ≤ x1 ∧ x1 < (8 : Int)) ∧ ((cO 11 = 9) ∧ ((aK 178 = 0 ∧ 178 ≠ 999 ∧ (0 : Int) ≤ x1 ∧ x1 < (8 : Int)) ∧ (Q (some (vI (ar 178 x1.toNat))) (sc, (up ar 178 (up (ar 178) x1.toNat x2))))))))) ∧ (¬ (s0 ≠ 0) → (Q (some (vI (-2))) (sc, ar))) from ⟨k.1, fun c1 => ⟨(by decide), ⟨⟨(by decide), (k.2.1 c1).1, (k.2.1 c1).2.1⟩, ⟨(by decide), ⟨⟨(by decide), (by decide), (k.2.1 c1).2.2.1, (k.2.1 c1).2.2.2.1⟩, (k.2.1 c1).2.2.2.2⟩⟩⟩⟩, fun c1 => (k.2.2 c1)⟩)
theorem sg_Md_need_0 {sc : Nat → Int} {ar : Nat → Nat → Int} {x1 x2 x3 : Int} {Q : Option mV → mH → Prop} (k : Ev 1 M_Md_no (0, [some (vO 11), some (vI x1)], [], ((up sc 176 0), ar)) (fun r1 h1 => Ev 2 M_Md_need (10, [some (vO 11), some (vI x1), some (vI x2), some (vI x3), none], mPush r1 [], h1) Q)) :
  Ev 2 M_Md_need (0, [some (vO 11), some (vI x1), some (vI x2), some (vI x3), none], [], (sc, ar)) Q :=
  wq_ok 200 _ _ [(10, 4), (18, 4), (32, 4)] _ _ _ _ _ (show (cO 11 = 9) ∧ ((cO 11 = mK M_Md_no) ∧ (Ev 1 M_Md_no (0, [some (vO 11), some (vI x1)], [], ((up sc 176 0), ar)) (fun r1 h1 => Ev 2 M_Md_need (10, [some (vO 11), some (vI x1), some (vI x2), some (vI x3), none], mPush r1 [], h1) Q))) from ⟨(by decide), ⟨(by decide), k⟩⟩)
theorem sg_Md_need_10 {sc : Nat → Int} {ar : Nat → Nat → Int} {x1 x2 x3 s0 : Int} {Q : Option mV → mH → Prop} (k : inR s0 ∧ 
  (s0 ≠ 0 → (Q (some (vI (-1))) (sc, ar))) ∧ 
  (¬ (s0 ≠ 0) → (Ev 1 M_Md_no (0, [some (vO 11), some (vI x2)], [], (sc, ar)) (fun r1 h1 => Ev 2 M_Md_need (18, [some (vO 11), some (vI x1), some (vI x2), some (vI x3), none], mPush r1 [], h1) Q)))) :
  Ev 2 M_Md_need (10, [some (vO 11), some (vI x1), some (vI x2), some (vI x3), none], [vI s0], (sc, ar)) Q :=
  wq_ok 200 _ _ [(10, 4), (18, 4), (32, 4)] _ _ _ _ _ (show (inR s0) ∧ (s0 ≠ 0 → (Q (some (vI (-1))) (sc, ar))) ∧ (¬ (s0 ≠ 0) → ((cO 11 = mK M_Md_no) ∧ (Ev 1 M_Md_no (0, [some (vO 11), some (vI x2)], [], (sc, ar)) (fun r1 h1 => Ev 2 M_Md_need (18, [some (vO 11), some (vI x1), some (vI x2), some (vI x3), none], mPush r1 [], h1) Q)))) from ⟨k.1, fun c1 => (k.2.1 c1), fun c1 => ⟨(by decide), (k.2.2 c1)⟩⟩)
theorem sg_Md_need_18 {sc : Nat → Int} {ar : Nat → Nat → Int} {x1 x2 x3 s0 : Int} {Q : Option mV → mH → Prop} (k : inR s0 ∧ 
  (s0 = 0 → (inR x3 ∧ 
    (Ev 1 M_Md_in (0, [some (vL x3), none, some (vL 0), none, some (vL 9), none], [], (sc, ar)) (fun r1 h1 => Ev 2 M_Md_need (32, [some (vO 11), some (vI x1), some (vI x2), some (vI x3), none], mPush r1 [], h1) Q)))) ∧ 
  (¬ (s0 = 0) → (Q (some (vI (-1))) (sc, ar)))) :
  Ev 2 M_Md_need (18, [some (vO 11), some (vI x1), some (vI x2), some (vI x3), none], [vI s0], (sc, ar)) Q :=
  wq_ok 200 _ _ [(10, 4), (18, 4), (32, 4)] _ _ _ _ _ (show (inR s0) ∧ (s0 = 0 → ((inR x3) ∧ (Ev 1 M_Md_in (0, [some (vL x3), none, some (vL 0), none, some (vL 9), none], [], (sc, ar)) (fun r1 h1 => Ev 2 M_Md_need (32, [some (vO 11), some (vI x1), some (vI x2), some (vI x3), none], mPush r1 [], h1) Q)))) ∧ (¬ (s0 = 0) → (Q (some (vI (-1))) (sc, ar))) from ⟨k.1, fun c1 => ⟨(k.2.1 c1).1, (k.2.1 c1).2⟩, fun c1 => (k.2.2 c1)⟩)
theorem sg_Md_need_32 {sc : Nat → Int} {ar : Nat → Nat → Int} {x1 x2 x3 s0 : Int} {Q : Option mV → mH → Prop} (k : inR s0 ∧ 
  (s0 ≠ 0 → (inR x1 ∧ inR x2 ∧ 
    (x1 ≠ x2 → ((0 : Int) ≤ ((8 * x1) + x2) ∧ ((8 * x1) + x2) < (64 : Int) ∧ 
      ((0 : Int) ≤ ((8 * x1) + x2) ∧ ((8 * x1) + x2) < (64 : Int) ∧ 
      (Q (some (vI (ar 179 ((8 * x1) + x2).toNat))) (sc, (up ar 179 (up (ar 179) ((8 * x1) + x2).toNat x3))))))) ∧ 
    (¬ (x1 ≠ x2) → (Q (some (vI (-3))) (sc, ar))))) ∧ 
  (¬ (s0 ≠ 0) → (Q (some (vI (-2))) (sc, ar)))) :
  Ev 2 M_Md_need (32, [some (vO 11), some (vI x1), some (vI x2), some (vI x3), none], [vI s0], (sc, ar)) Q :=
  wq_ok 200 _ _ [(10, 4), (18, 4), (32, 4)] _ _ _ _ _ (show (inR s0) ∧ (s0 ≠ 0 → ((inR x1 ∧ inR x2) ∧ (x1 ≠ x2 → ((cO 11 = 9) ∧ ((aK 179 = 0 ∧ (0 : Int) ≤ ((8 * x1) + x2) ∧ ((8 * x1) + x2) < (64 : Int)) ∧ ((cO 11 = 9) ∧ ((aK 179 = 0 ∧ 179 ≠ 999 ∧ (0 : Int) ≤ ((8 * x1) + x2) ∧ ((8 * x1) + x2) < (64 : Int)) ∧ (Q (some (vI (ar 179 ((8 * x1) + x2).toNat))) (sc, (up ar 179 (up (ar 179) ((8 * x1) + x2).toNat x3))))))))) ∧ (¬ (x1 ≠ x2) → (Q (some (vI (-3))) (sc, ar))))) ∧ (¬ (s0 ≠ 0) → (Q (some (vI (-2))) (sc, ar))) from ⟨k.1, fun c1 => ⟨⟨(k.2.1 c1).1, (k.2.1 c1).2.1⟩, fun c2 => ⟨(by decide), ⟨⟨(by decide), ((k.2.1 c1).2.2.1 c2).1, ((k.2.1 c1).2.2.1 c2).2.1⟩, ⟨(by decide), ⟨⟨(by decide), (by decide), ((k.2.1 c1).2.2.1 c2).2.2.1, ((k.2.1 c1).2.2.1 c2).2.2.2.1⟩, ((k.2.1 c1).2.2.1 c2).2.2.2.2⟩⟩⟩⟩, fun c2 => ((k.2.1 c1).2.2.2 c2)⟩, fun c1 => (k.2.2 c1)⟩)
theorem sg_Md_strength_0 {sc : Nat → Int} {ar : Nat → Nat → Int} {x1 x2 : Int} {Q : Option mV → mH → Prop} (k : Ev 1 M_Md_no (0, [some (vO 11), some (vI x1)], [], ((up sc 176 0), ar)) (fun r1 h1 => Ev 2 M_Md_strength (10, [some (vO 11), some (vI x1), some (vI x2)], mPush r1 [], h1) Q)) :
  Ev 2 M_Md_strength (0, [some (vO 11), some (vI x1), some (vI x2)], [], (sc, ar)) Q :=
  wq_ok 200 _ _ [(10, 3), (18, 3)] _ _ _ _ _ (show (cO 11 = 9) ∧ ((cO 11 = mK M_Md_no) ∧ (Ev 1 M_Md_no (0, [some (vO 11), some (vI x1)], [], ((up sc 176 0), ar)) (fun r1 h1 => Ev 2 M_Md_strength (10, [some (vO 11), some (vI x1), some (vI x2)], mPush r1 [], h1) Q))) from ⟨(by decide), ⟨(by decide), k⟩⟩)
theorem sg_Md_strength_10 {sc : Nat → Int} {ar : Nat → Nat → Int} {x1 x2 s0 : Int} {Q : Option mV → mH → Prop} (k : inR s0 ∧ 
  (s0 ≠ 0 → (Q (some (vI (-1))) (sc, ar))) ∧ 
  (¬ (s0 ≠ 0) → (Ev 1 M_Md_no (0, [some (vO 11), some (vI x2)], [], (sc, ar)) (fun r1 h1 => Ev 2 M_Md_strength (18, [some (vO 11), some (vI x1), some (vI x2)], mPush r1 [], h1) Q)))) :
  Ev 2 M_Md_strength (10, [some (vO 11), some (vI x1), some (vI x2)], [vI s0], (sc, ar)) Q :=
  wq_ok 200 _ _ [(10, 3), (18, 3)] _ _ _ _ _ (show (inR s0) ∧ (s0 ≠ 0 → (Q (some (vI (-1))) (sc, ar))) ∧ (¬ (s0 ≠ 0) → ((cO 11 = mK M_Md_no) ∧ (Ev 1 M_Md_no (0, [some (vO 11), some (vI x2)], [], (sc, ar)) (fun r1 h1 => Ev 2 M_Md_strength (18, [some (vO 11), some (vI x1), some (vI x2)], mPush r1 [], h1) Q)))) from ⟨k.1, fun c1 => (k.2.1 c1), fun c1 => ⟨(by decide), (k.2.2 c1)⟩⟩)
theorem sg_Md_strength_18 {sc : Nat → Int} {ar : Nat → Nat → Int} {x1 x2 s0 : Int} {Q : Option mV → mH → Prop} (k : inR s0 ∧ 
  (s0 = 0 → ((0 : Int) ≤ ((8 * x1) + x2) ∧ ((8 * x1) + x2) < (64 : Int) ∧ 
    (Q (some (vI (ar 179 ((8 * x1) + x2).toNat))) (sc, ar)))) ∧ 
  (¬ (s0 = 0) → (Q (some (vI (-1))) (sc, ar)))) :
  Ev 2 M_Md_strength (18, [some (vO 11), some (vI x1), some (vI x2)], [vI s0], (sc, ar)) Q :=
  wq_ok 200 _ _ [(10, 3), (18, 3)] _ _ _ _ _ (show (inR s0) ∧ (s0 = 0 → ((cO 11 = 9) ∧ ((aK 179 = 0 ∧ (0 : Int) ≤ ((8 * x1) + x2) ∧ ((8 * x1) + x2) < (64 : Int)) ∧ (Q (some (vI (ar 179 ((8 * x1) + x2).toNat))) (sc, ar))))) ∧ (¬ (s0 = 0) → (Q (some (vI (-1))) (sc, ar))) from ⟨k.1, fun c1 => ⟨(by decide), ⟨⟨(by decide), (k.2.1 c1).1, (k.2.1 c1).2.1⟩, (k.2.1 c1).2.2⟩⟩, fun c1 => (k.2.2 c1)⟩)
theorem sg_Md_lean_0 {sc : Nat → Int} {ar : Nat → Nat → Int} {Q : Option mV → mH → Prop} (k : Ev 0 M_Md_lean (2, [some (vO 11), some (vI 0), none, none], [], (sc, ar)) Q) :
  Ev 0 M_Md_lean (0, [some (vO 11), none, none, none], [], (sc, ar)) Q :=
  wq_ok 200 _ _ [(2, 2), (36, 2), (44, 3), (52, 4)] _ _ _ _ _ (show Ev 0 M_Md_lean (2, [some (vO 11), some (vI 0), none, none], [], (sc, ar)) Q from k)
theorem sg_Md_lean_2 {sc : Nat → Int} {ar : Nat → Nat → Int} {x1 : Int} {Q : Option mV → mH → Prop} (k : inR x1 ∧ 
  (64 ≤ x1 → (Ev 0 M_Md_lean (36, [some (vO 11), some (vI 0), none, none], [], (sc, ar)) Q)) ∧ 
  (¬ (64 ≤ x1) → ((0 : Int) ≤ x1 ∧ x1 < (64 : Int) ∧ 
    (inR (ar 179 x1.toNat) ∧ 
    ((ar 179 x1.toNat) ≤ 0 → ((0 : Int) ≤ x1 ∧ x1 < (64 : Int) ∧ 
      (Ev 0 M_Md_lean (2, [some (vO 11), some (vI (x1 + 1)), none, none], [], (sc, (up ar 183 (up (ar 183) x1.toNat 0)))) Q))) ∧ 
    (¬ ((ar 179 x1.toNat) ≤ 0) → ((0 : Int) ≤ x1 ∧ x1 < (64 : Int) ∧ 
      (Ev 0 M_Md_lean (2, [some (vO 11), some (vI (x1 + 1)), none, none], [], (sc, (up ar 183 (up (ar 183) x1.toNat 1)))) Q))))))) :
  Ev 0 M_Md_lean (2, [some (vO 11), some (vI x1), none, none], [], (sc, ar)) Q :=
  wq_ok 200 _ _ [(2, 2), (36, 2), (44, 3), (52, 4)] _ _ _ _ _ (show (inR x1 ∧ inR 64) ∧ (64 ≤ x1 → (Ev 0 M_Md_lean (36, [some (vO 11), some (vI 0), none, none], [], (sc, ar)) Q)) ∧ (¬ (64 ≤ x1) → ((cO 11 = 9) ∧ ((cO 11 = 9) ∧ ((aK 179 = 0 ∧ (0 : Int) ≤ x1 ∧ x1 < (64 : Int)) ∧ ((inR (ar 179 x1.toNat)) ∧ ((ar 179 x1.toNat) ≤ 0 → ((aK 183 = 2 ∧ 183 ≠ 999 ∧ (0 : Int) ≤ x1 ∧ x1 < (64 : Int) ∧ (0 : Int) ≤ 0 ∧ (0 : Int) ≤ 1) ∧ (Ev 0 M_Md_lean (2, [some (vO 11), some (vI (x1 + 1)), none, none], [], (sc, (up ar 183 (up (ar 183) x1.toNat 0)))) Q))) ∧ (¬ ((ar 179 x1.toNat) ≤ 0) → ((aK 183 = 2 ∧ 183 ≠ 999 ∧ (0 : Int) ≤ x1 ∧ x1 < (64 : Int) ∧ (0 : Int) ≤ 1 ∧ (1 : Int) ≤ 1) ∧ (Ev 0 M_Md_lean (2, [some (vO 11), some (vI (x1 + 1)), none, none], [], (sc, (up ar 183 (up (ar 183) x1.toNat 1)))) Q)))))))) from ⟨⟨k.1, (by decide)⟩, fun c1 => (k.2.1 c1), fun c1 => ⟨(by decide), ⟨(by decide), ⟨⟨(by decide), (k.2.2 c1).1, (k.2.2 c1).2.1⟩, ⟨(k.2.2 c1).2.2.1, fun c2 => ⟨⟨(by decide), (by decide), ((k.2.2 c1).2.2.2.1 c2).1, ((k.2.2 c1).2.2.2.1 c2).2.1, (by decide), (by decide)⟩, ((k.2.2 c1).2.2.2.1 c2).2.2⟩, fun c2 => ⟨⟨(by decide), (by decide), ((k.2.2 c1).2.2.2.2 c2).1, ((k.2.2 c1).2.2.2.2 c2).2.1, (by decide), (by decide)⟩, ((k.2.2 c1).2.2.2.2 c2).2.2⟩⟩⟩⟩⟩⟩)
theorem sg_Md_lean_36 {sc : Nat → Int} {ar : Nat → Nat → Int} {x1 : Int} {Q : Option mV → mH → Prop} (k : inR x1 ∧ 
  (8 ≤ x1 → (Q none (sc, ar))) ∧ 
  (¬ (8 ≤ x1) → (Ev 0 M_Md_lean (44, [some (vO 11), some (vI x1), some (vI 0), none], [], (sc, ar)) Q))) :
  Ev 0 M_Md_lean (36, [some (vO 11), some (vI x1), none, none], [], (sc, ar)) Q :=
  wq_ok 200 _ _ [(2, 2), (36, 2), (44, 3), (52, 4)] _ _ _ _ _ (show (inR x1 ∧ inR 8) ∧ (8 ≤ x1 → (Q none (sc, ar))) ∧ (¬ (8 ≤ x1) → (Ev 0 M_Md_lean (44, [some (vO 11), some (vI x1), some (vI 0), none], [], (sc, ar)) Q)) from ⟨⟨k.1, (by decide)⟩, fun c1 => (k.2.1 c1), fun c1 => (k.2.2 c1)⟩)
theorem sg_Md_lean_44 {sc : Nat → Int} {ar : Nat → Nat → Int} {x1 x2 : Int} {Q : Option mV → mH → Prop} (k : inR x2 ∧ 
  (8 ≤ x2 → (Ev 0 M_Md_lean (36, [some (vO 11), some (vI (x1 + 1)), none, none], [], (sc, ar)) Q)) ∧ 
  (¬ (8 ≤ x2) → (Ev 0 M_Md_lean (52, [some (vO 11), some (vI x1), some (vI x2), some (vI 0)], [], (sc, ar)) Q))) :
  Ev 0 M_Md_lean (44, [some (vO 11), some (vI x1), some (vI x2), none], [], (sc, ar)) Q :=
  wq_ok 200 _ _ [(2, 2), (36, 2), (44, 3), (52, 4)] _ _ _ _ _ (show (inR x2 ∧ inR 8) ∧ (8 ≤ x2 → (Ev 0 M_Md_lean (36, [some (vO 11), some (vI (x1 + 1)), none, none], [], (sc, ar)) Q)) ∧ (¬ (8 ≤ x2) → (Ev 0 M_Md_lean (52, [some (vO 11), some (vI x1), some (vI x2), some (vI 0)], [], (sc, ar)) Q)) from ⟨⟨k.1, (by decide)⟩, fun c1 => (k.2.1 c1), fun c1 => (k.2.2 c1)⟩)
theorem sg_Md_lean_52 {sc : Nat → Int} {ar : Nat → Nat → Int} {x1 x2 x3 : Int} {Q : Option mV → mH → Prop} (k : inR x3 ∧ 
  (8 ≤ x3 → (Ev 0 M_Md_lean (44, [some (vO 11), some (vI x1), some (vI (x2 + 1)), none], [], (sc, ar)) Q)) ∧ 
  (¬ (8 ≤ x3) → ((0 : Int) ≤ ((8 * x2) + x3) ∧ ((8 * x2) + x3) < (64 : Int) ∧ 
    (inR (ar 183 ((8 * x2) + x3).toNat) ∧ 
    ((ar 183 ((8 * x2) + x3).toNat) ≠ 0 → ((0 : Int) ≤ ((8 * x2) + x3) ∧ ((8 * x2) + x3) < (64 : Int) ∧ 
      (Ev 0 M_Md_lean (52, [some (vO 11), some (vI x1), some (vI x2), some (vI (x3 + 1))], [], (sc, (up ar 183 (up (ar 183) ((8 * x2) + x3).toNat 1)))) Q))) ∧ 
    (¬ ((ar 183 ((8 * x2) + x3).toNat) ≠ 0) → ((0 : Int) ≤ ((8 * x2) + x1) ∧ ((8 * x2) + x1) < (64 : Int) ∧ 
      (inR (ar 183 ((8 * x2) + x1).toNat) ∧ 
      ((ar 183 ((8 * x2) + x1).toNat) = 0 → ((0 : Int) ≤ ((8 * x2) + x3) ∧ ((8 * x2) + x3) < (64 : Int) ∧ 
        (Ev 0 M_Md_lean (52, [some (vO 11), some (vI x1), some (vI x2), some (vI (x3 + 1))], [], (sc, (up ar 183 (up (ar 183) ((8 * x2) + x3).toNat 0)))) Q))) ∧ 
      (¬ ((ar 183 ((8 * x2) + x1).toNat) = 0) → ((0 : Int) ≤ ((8 * x1) + x3) ∧ ((8 * x1) + x3) < (64 : Int) ∧ 
        (inR (ar 183 ((8 * x1) + x3).toNat) ∧ 
        ((ar 183 ((8 * x1) + x3).toNat) = 0 → ((0 : Int) ≤ ((8 * x2) + x3) ∧ ((8 * x2) + x3) < (64 : Int) ∧ 
          (Ev 0 M_Md_lean (52, [some (vO 11), some (vI x1), some (vI x2), some (vI (x3 + 1))], [], (sc, (up ar 183 (up (ar 183) ((8 * x2) + x3).toNat 0)))) Q))) ∧ 
        (¬ ((ar 183 ((8 * x1) + x3).toNat) = 0) → ((0 : Int) ≤ ((8 * x2) + x3) ∧ ((8 * x2) + x3) < (64 : Int) ∧ 
          (Ev 0 M_Md_lean (52, [some (vO 11), some (vI x1), some (vI x2), some (vI (x3 + 1))], [], (sc, (up ar 183 (up (ar 183) ((8 * x2) + x3).toNat 1)))) Q))))))))))))) :
  Ev 0 M_Md_lean (52, [some (vO 11), some (vI x1), some (vI x2), some (vI x3)], [], (sc, ar)) Q :=
  wq_ok 200 _ _ [(2, 2), (36, 2), (44, 3), (52, 4)] _ _ _ _ _ (show (inR x3 ∧ inR 8) ∧ (8 ≤ x3 → (Ev 0 M_Md_lean (44, [some (vO 11), some (vI x1), some (vI (x2 + 1)), none], [], (sc, ar)) Q)) ∧ (¬ (8 ≤ x3) → ((cO 11 = 9) ∧ ((cO 11 = 9) ∧ ((aK 183 = 2 ∧ (0 : Int) ≤ ((8 * x2) + x3) ∧ ((8 * x2) + x3) < (64 : Int)) ∧ ((inR (ar 183 ((8 * x2) + x3).toNat)) ∧ ((ar 183 ((8 * x2) + x3).toNat) ≠ 0 → ((aK 183 = 2 ∧ 183 ≠ 999 ∧ (0 : Int) ≤ ((8 * x2) + x3) ∧ ((8 * x2) + x3) < (64 : Int) ∧ (0 : Int) ≤ 1 ∧ (1 : Int) ≤ 1) ∧ (Ev 0 M_Md_lean (52, [some (vO 11), some (vI x1), some (vI x2), some (vI (x3 + 1))], [], (sc, (up ar 183 (up (ar 183) ((8 * x2) + x3).toNat 1)))) Q))) ∧ (¬ ((ar 183 ((8 * x2) + x3).toNat) ≠ 0) → ((cO 11 = 9) ∧ ((aK 183 = 2 ∧ (0 : Int) ≤ ((8 * x2) + x1) ∧ ((8 * x2) + x1) < (64 : Int)) ∧ ((inR (ar 183 ((8 * x2) + x1).toNat)) ∧ ((ar 183 ((8 * x2) + x1).toNat) = 0 → ((aK 183 = 2 ∧ 183 ≠ 999 ∧ (0 : Int) ≤ ((8 * x2) + x3) ∧ ((8 * x2) + x3) < (64 : Int) ∧ (0 : Int) ≤ 0 ∧ (0 : Int) ≤ 1) ∧ (Ev 0 M_Md_lean (52, [some (vO 11), some (vI x1), some (vI x2), some (vI (x3 + 1))], [], (sc, (up ar 183 (up (ar 183) ((8 * x2) + x3).toNat 0)))) Q))) ∧ (¬ ((ar 183 ((8 * x2) + x1).toNat) = 0) → ((cO 11 = 9) ∧ ((aK 183 = 2 ∧ (0 : Int) ≤ ((8 * x1) + x3) ∧ ((8 * x1) + x3) < (64 : Int)) ∧ ((inR (ar 183 ((8 * x1) + x3).toNat)) ∧ ((ar 183 ((8 * x1) + x3).toNat) = 0 → ((aK 183 = 2 ∧ 183 ≠ 999 ∧ (0 : Int) ≤ ((8 * x2) + x3) ∧ ((8 * x2) + x3) < (64 : Int) ∧ (0 : Int) ≤ 0 ∧ (0 : Int) ≤ 1) ∧ (Ev 0 M_Md_lean (52, [some (vO 11), some (vI x1), some (vI x2), some (vI (x3 + 1))], [], (sc, (up ar 183 (up (ar 183) ((8 * x2) + x3).toNat 0)))) Q))) ∧ (¬ ((ar 183 ((8 * x1) + x3).toNat) = 0) → ((aK 183 = 2 ∧ 183 ≠ 999 ∧ (0 : Int) ≤ ((8 * x2) + x3) ∧ ((8 * x2) + x3) < (64 : Int) ∧ (0 : Int) ≤ 1 ∧ (1 : Int) ≤ 1) ∧ (Ev 0 M_Md_lean (52, [some (vO 11), some (vI x1), some (vI x2), some (vI (x3 + 1))], [], (sc, (up ar 183 (up (ar 183) ((8 * x2) + x3).toNat 1)))) Q)))))))))))))))) from ⟨⟨k.1, (by decide)⟩, fun c1 => (k.2.1 c1), fun c1 => ⟨(by decide), ⟨(by decide), ⟨⟨(by decide), (k.2.2 c1).1, (k.2.2 c1).2.1⟩, ⟨(k.2.2 c1).2.2.1, fun c2 => ⟨⟨(by decide), (by decide), ((k.2.2 c1).2.2.2.1 c2).1, ((k.2.2 c1).2.2.2.1 c2).2.1, (by decide), (by decide)⟩, ((k.2.2 c1).2.2.2.1 c2).2.2⟩, fun c2 => ⟨(by decide), ⟨⟨(by decide), ((k.2.2 c1).2.2.2.2 c2).1, ((k.2.2 c1).2.2.2.2 c2).2.1⟩, ⟨((k.2.2 c1).2.2.2.2 c2).2.2.1, fun c3 => ⟨⟨(by decide), (by decide), (((k.2.2 c1).2.2.2.2 c2).2.2.2.1 c3).1, (((k.2.2 c1).2.2.2.2 c2).2.2.2.1 c3).2.1, (by decide), (by decide)⟩, (((k.2.2 c1).2.2.2.2 c2).2.2.2.1 c3).2.2⟩, fun c3 => ⟨(by decide), ⟨⟨(by decide), (((k.2.2 c1).2.2.2.2 c2).2.2.2.2 c3).1, (((k.2.2 c1).2.2.2.2 c2).2.2.2.2 c3).2.1⟩, ⟨(((k.2.2 c1).2.2.2.2 c2).2.2.2.2 c3).2.2.1, fun c4 => ⟨⟨(by decide), (by decide), ((((k.2.2 c1).2.2.2.2 c2).2.2.2.2 c3).2.2.2.1 c4).1, ((((k.2.2 c1).2.2.2.2 c2).2.2.2.2 c3).2.2.2.1 c4).2.1, (by decide), (by decide)⟩, ((((k.2.2 c1).2.2.2.2 c2).2.2.2.2 c3).2.2.2.1 c4).2.2⟩, fun c4 => ⟨⟨(by decide), (by decide), ((((k.2.2 c1).2.2.2.2 c2).2.2.2.2 c3).2.2.2.2 c4).1, ((((k.2.2 c1).2.2.2.2 c2).2.2.2.2 c3).2.2.2.2 c4).2.1, (by decide), (by decide)⟩, ((((k.2.2 c1).2.2.2.2 c2).2.2.2.2 c3).2.2.2.2 c4).2.2⟩⟩⟩⟩⟩⟩⟩⟩⟩⟩⟩⟩)
theorem sg_Md_leans_0 {sc : Nat → Int} {ar : Nat → Nat → Int} {x1 x2 : Int} {Q : Option mV → mH → Prop} (k : Ev 1 M_Md_no (0, [some (vO 11), some (vI x1)], [], ((up sc 176 0), ar)) (fun r1 h1 => Ev 2 M_Md_leans (10, [some (vO 11), some (vI x1), some (vI x2)], mPush r1 [], h1) Q)) :
  Ev 2 M_Md_leans (0, [some (vO 11), some (vI x1), some (vI x2)], [], (sc, ar)) Q :=
  wq_ok 200 _ _ [(10, 3), (18, 3), (27, 3)] _ _ _ _ _ (show (cO 11 = 9) ∧ ((cO 11 = mK M_Md_no) ∧ (Ev 1 M_Md_no (0, [some (vO 11), some (vI x1)], [], ((up sc 176 0), ar)) (fun r1 h1 => Ev 2 M_Md_leans (10, [some (vO 11), some (vI x1), some (vI x2)], mPush r1 [], h1) Q))) from ⟨(by decide), ⟨(by decide), k⟩⟩)
theorem sg_Md_leans_10 {sc : Nat → Int} {ar : Nat → Nat → Int} {x1 x2 s0 : Int} {Q : Option mV → mH → Prop} (k : inR s0 ∧ 
  (s0 ≠ 0 → (Q (some (vI (-1))) (sc, ar))) ∧ 
  (¬ (s0 ≠ 0) → (Ev 1 M_Md_no (0, [some (vO 11), some (vI x2)], [], (sc, ar)) (fun r1 h1 => Ev 2 M_Md_leans (18, [some (vO 11), some (vI x1), some (vI x2)], mPush r1 [], h1) Q)))) :
  Ev 2 M_Md_leans (10, [some (vO 11), some (vI x1), some (vI x2)], [vI s0], (sc, ar)) Q :=
  wq_ok 200 _ _ [(10, 3), (18, 3), (27, 3)] _ _ _ _ _ (show (inR s0) ∧ (s0 ≠ 0 → (Q (some (vI (-1))) (sc, ar))) ∧ (¬ (s0 ≠ 0) → ((cO 11 = mK M_Md_no) ∧ (Ev 1 M_Md_no (0, [some (vO 11), some (vI x2)], [], (sc, ar)) (fun r1 h1 => Ev 2 M_Md_leans (18, [some (vO 11), some (vI x1), some (vI x2)], mPush r1 [], h1) Q)))) from ⟨k.1, fun c1 => (k.2.1 c1), fun c1 => ⟨(by decide), (k.2.2 c1)⟩⟩)
theorem sg_Md_leans_18 {sc : Nat → Int} {ar : Nat → Nat → Int} {x1 x2 s0 : Int} {Q : Option mV → mH → Prop} (k : inR s0 ∧ 
  (s0 = 0 → (Ev 1 M_Md_lean (0, [some (vO 11), none, none, none], [], (sc, ar)) (fun r1 h1 => Ev 2 M_Md_leans (27, [some (vO 11), some (vI x1), some (vI x2)], mPush r1 [], h1) Q))) ∧ 
  (¬ (s0 = 0) → (Q (some (vI (-1))) (sc, ar)))) :
  Ev 2 M_Md_leans (18, [some (vO 11), some (vI x1), some (vI x2)], [vI s0], (sc, ar)) Q :=
  wq_ok 200 _ _ [(10, 3), (18, 3), (27, 3)] _ _ _ _ _ (show (inR s0) ∧ (s0 = 0 → ((cO 11 = mK M_Md_lean) ∧ (Ev 1 M_Md_lean (0, [some (vO 11), none, none, none], [], (sc, ar)) (fun r1 h1 => Ev 2 M_Md_leans (27, [some (vO 11), some (vI x1), some (vI x2)], mPush r1 [], h1) Q)))) ∧ (¬ (s0 = 0) → (Q (some (vI (-1))) (sc, ar))) from ⟨k.1, fun c1 => ⟨(by decide), (k.2.1 c1)⟩, fun c1 => (k.2.2 c1)⟩)
theorem sg_Md_leans_27 {sc : Nat → Int} {ar : Nat → Nat → Int} {x1 x2 : Int} {Q : Option mV → mH → Prop} (k : (0 : Int) ≤ ((8 * x1) + x2) ∧ ((8 * x1) + x2) < (64 : Int) ∧ 
  (inR (ar 183 ((8 * x1) + x2).toNat) ∧ 
  ((ar 183 ((8 * x1) + x2).toNat) = 0 → (Q (some (vI 0)) (sc, ar))) ∧ 
  (¬ ((ar 183 ((8 * x1) + x2).toNat) = 0) → (Q (some (vI 1)) (sc, ar))))) :
  Ev 2 M_Md_leans (27, [some (vO 11), some (vI x1), some (vI x2)], [], (sc, ar)) Q :=
  wq_ok 200 _ _ [(10, 3), (18, 3), (27, 3)] _ _ _ _ _ (show (cO 11 = 9) ∧ ((aK 183 = 2 ∧ (0 : Int) ≤ ((8 * x1) + x2) ∧ ((8 * x1) + x2) < (64 : Int)) ∧ ((inR (ar 183 ((8 * x1) + x2).toNat)) ∧ ((ar 183 ((8 * x1) + x2).toNat) = 0 → (Q (some (vI 0)) (sc, ar))) ∧ (¬ ((ar 183 ((8 * x1) + x2).toNat) = 0) → (Q (some (vI 1)) (sc, ar))))) from ⟨(by decide), ⟨⟨(by decide), k.1, k.2.1⟩, ⟨k.2.2.1, fun c1 => (k.2.2.2.1 c1), fun c1 => (k.2.2.2.2 c1)⟩⟩⟩)
theorem sg_Md_isOne_0 {sc : Nat → Int} {ar : Nat → Nat → Int} {x1 x2 : Int} {Q : Option mV → mH → Prop} (k : inR x1 ∧ inR x2 ∧ 
  (x1 = x2 → (Q (some (vI 1)) (sc, ar))) ∧ 
  (¬ (x1 = x2) → ((0 : Int) ≤ ((8 * x1) + x2) ∧ ((8 * x1) + x2) < (64 : Int) ∧ 
    (inR (ar 183 ((8 * x1) + x2).toNat) ∧ 
    ((ar 183 ((8 * x1) + x2).toNat) = 0 → (Q (some (vI 0)) (sc, ar))) ∧ 
    (¬ ((ar 183 ((8 * x1) + x2).toNat) = 0) → ((0 : Int) ≤ ((8 * x2) + x1) ∧ ((8 * x2) + x1) < (64 : Int) ∧ 
      (inR (ar 183 ((8 * x2) + x1).toNat) ∧ 
      ((ar 183 ((8 * x2) + x1).toNat) = 0 → (Q (some (vI 0)) (sc, ar))) ∧ 
      (¬ ((ar 183 ((8 * x2) + x1).toNat) = 0) → (Q (some (vI 1)) (sc, ar)))))))))) :
  Ev 0 M_Md_isOne (0, [some (vO 11), some (vI x1), some (vI x2)], [], (sc, ar)) Q :=
  wq_ok 200 _ _ [] _ _ _ _ _ (show (inR x1 ∧ inR x2) ∧ (x1 = x2 → (((0 : Int) ≤ 1 ∧ (1 : Int) ≤ 1) ∧ (Q (some (vI 1)) (sc, ar)))) ∧ (¬ (x1 = x2) → ((cO 11 = 9) ∧ ((aK 183 = 2 ∧ (0 : Int) ≤ ((8 * x1) + x2) ∧ ((8 * x1) + x2) < (64 : Int)) ∧ ((inR (ar 183 ((8 * x1) + x2).toNat)) ∧ ((ar 183 ((8 * x1) + x2).toNat) = 0 → (((0 : Int) ≤ 0 ∧ (0 : Int) ≤ 1) ∧ (Q (some (vI 0)) (sc, ar)))) ∧ (¬ ((ar 183 ((8 * x1) + x2).toNat) = 0) → ((cO 11 = 9) ∧ ((aK 183 = 2 ∧ (0 : Int) ≤ ((8 * x2) + x1) ∧ ((8 * x2) + x1) < (64 : Int)) ∧ ((inR (ar 183 ((8 * x2) + x1).toNat)) ∧ ((ar 183 ((8 * x2) + x1).toNat) = 0 → (((0 : Int) ≤ 0 ∧ (0 : Int) ≤ 1) ∧ (Q (some (vI 0)) (sc, ar)))) ∧ (¬ ((ar 183 ((8 * x2) + x1).toNat) = 0) → (((0 : Int) ≤ 1 ∧ (1 : Int) ≤ 1) ∧ (Q (some (vI 1)) (sc, ar)))))))))))) from ⟨⟨k.1, k.2.1⟩, fun c1 => ⟨⟨(by decide), (by decide)⟩, (k.2.2.1 c1)⟩, fun c1 => ⟨(by decide), ⟨⟨(by decide), (k.2.2.2 c1).1, (k.2.2.2 c1).2.1⟩, ⟨(k.2.2.2 c1).2.2.1, fun c2 => ⟨⟨(by decide), (by decide)⟩, ((k.2.2.2 c1).2.2.2.1 c2)⟩, fun c2 => ⟨(by decide), ⟨⟨(by decide), ((k.2.2.2 c1).2.2.2.2 c2).1, ((k.2.2.2 c1).2.2.2.2 c2).2.1⟩, ⟨((k.2.2.2 c1).2.2.2.2 c2).2.2.1, fun c3 => ⟨⟨(by decide), (by decide)⟩, (((k.2.2.2 c1).2.2.2.2 c2).2.2.2.1 c3)⟩, fun c3 => ⟨⟨(by decide), (by decide)⟩, (((k.2.2.2 c1).2.2.2.2 c2).2.2.2.2 c3)⟩⟩⟩⟩⟩⟩⟩⟩)
theorem sg_Md_isNext_0 {sc : Nat → Int} {ar : Nat → Nat → Int} {x1 : Int} {Q : Option mV → mH → Prop} (k : Ev 1 M_Md_isNext (4, [some (vO 11), some (vI x1), some (vI 1), some (vI 0), none], [], (sc, ar)) Q) :
  Ev 1 M_Md_isNext (0, [some (vO 11), some (vI x1), none, none, none], [], (sc, ar)) Q :=
  wq_ok 200 _ _ [(4, 4), (15, 5), (34, 5), (44, 5)] _ _ _ _ _ (show Ev 1 M_Md_isNext (4, [some (vO 11), some (vI x1), some (vI 1), some (vI 0), none], [], (sc, ar)) Q from k)
theorem sg_Md_isNext_4 {sc : Nat → Int} {ar : Nat → Nat → Int} {x1 x2 x3 : Int} {Q : Option mV → mH → Prop} (k : inR x3 ∧ inR (sc 177) ∧ 
  ((sc 177) ≤ x3 → ((0 : Int) ≤ x2 ∧ (x2 : Int) ≤ 1 ∧ 
    (Q (some (vI x2)) (sc, ar)))) ∧ 
  (¬ ((sc 177) ≤ x3) → (Ev 1 M_Md_isNext (15, [some (vO 11), some (vI x1), some (vI x2), some (vI x3), some (vI 0)], [], (sc, ar)) Q))) :
  Ev 1 M_Md_isNext (4, [some (vO 11), some (vI x1), some (vI x2), some (vI x3), none], [], (sc, ar)) Q :=
  wq_ok 200 _ _ [(4, 4), (15, 5), (34, 5), (44, 5)] _ _ _ _ _ (show (cO 11 = 9) ∧ ((inR x3 ∧ inR (sc 177)) ∧ ((sc 177) ≤ x3 → (((0 : Int) ≤ x2 ∧ (x2 : Int) ≤ 1) ∧ (Q (some (vI x2)) (sc, ar)))) ∧ (¬ ((sc 177) ≤ x3) → (Ev 1 M_Md_isNext (15, [some (vO 11), some (vI x1), some (vI x2), some (vI x3), some (vI 0)], [], (sc, ar)) Q))) from ⟨(by decide), ⟨⟨k.1, k.2.1⟩, fun c1 => ⟨⟨(k.2.2.1 c1).1, (k.2.2.1 c1).2.1⟩, (k.2.2.1 c1).2.2⟩, fun c1 => (k.2.2.2 c1)⟩⟩)
theorem sg_Md_isNext_15 {sc : Nat → Int} {ar : Nat → Nat → Int} {x1 x2 x3 x4 : Int} {Q : Option mV → mH → Prop} (k : inR x4 ∧ inR (sc 177) ∧ 
  ((sc 177) ≤ x4 → (Ev 1 M_Md_isNext (4, [some (vO 11), some (vI x1), some (vI x2), some (vI (x3 + 1)), none], [], (sc, ar)) Q)) ∧ 
  (¬ ((sc 177) ≤ x4) → (inR x2 ∧ 
    (x2 = 0 → (Ev 1 M_Md_isNext (15, [some (vO 11), some (vI x1), some (vI 0), some (vI x3), some (vI (x4 + 1))], [], (sc, ar)) Q)) ∧ 
    (¬ (x2 = 0) → (Ev 0 M_Md_isOne (0, [some (vO 11), some (vI x1), some (vI x3)], [], (sc, ar)) (fun r1 h1 => Ev 1 M_Md_isNext (34, [some (vO 11), some (vI x1), some (vI x2), some (vI x3), some (vI x4)], mPush r1 [], h1) Q)))))) :
  Ev 1 M_Md_isNext (15, [some (vO 11), some (vI x1), some (vI x2), some (vI x3), some (vI x4)], [], (sc, ar)) Q :=
  wq_ok 200 _ _ [(4, 4), (15, 5), (34, 5), (44, 5)] _ _ _ _ _ (show (cO 11 = 9) ∧ ((inR x4 ∧ inR (sc 177)) ∧ ((sc 177) ≤ x4 → (Ev 1 M_Md_isNext (4, [some (vO 11), some (vI x1), some (vI x2), some (vI (x3 + 1)), none], [], (sc, ar)) Q)) ∧ (¬ ((sc 177) ≤ x4) → ((inR x2) ∧ (x2 = 0 → (Ev 1 M_Md_isNext (15, [some (vO 11), some (vI x1), some (vI 0), some (vI x3), some (vI (x4 + 1))], [], (sc, ar)) Q)) ∧ (¬ (x2 = 0) → ((cO 11 = mK M_Md_isOne) ∧ (Ev 0 M_Md_isOne (0, [some (vO 11), some (vI x1), some (vI x3)], [], (sc, ar)) (fun r1 h1 => Ev 1 M_Md_isNext (34, [some (vO 11), some (vI x1), some (vI x2), some (vI x3), some (vI x4)], mPush r1 [], h1) Q))))))) from ⟨(by decide), ⟨⟨k.1, k.2.1⟩, fun c1 => (k.2.2.1 c1), fun c1 => ⟨(k.2.2.2 c1).1, fun c2 => ((k.2.2.2 c1).2.1 c2), fun c2 => ⟨(by decide), ((k.2.2.2 c1).2.2 c2)⟩⟩⟩⟩)
theorem sg_Md_isNext_34 {sc : Nat → Int} {ar : Nat → Nat → Int} {x1 x2 x3 x4 s0 : Int} {Q : Option mV → mH → Prop} (k : inR s0 ∧ 
  (s0 = 0 → (Ev 1 M_Md_isNext (15, [some (vO 11), some (vI x1), some (vI 1), some (vI x3), some (vI (x4 + 1))], [], (sc, ar)) Q)) ∧ 
  (¬ (s0 = 0) → (Ev 0 M_Md_isOne (0, [some (vO 11), some (vI x1), some (vI x4)], [], (sc, ar)) (fun r1 h1 => Ev 1 M_Md_isNext (44, [some (vO 11), some (vI x1), some (vI x2), some (vI x3), some (vI x4)], mPush r1 [], h1) Q)))) :
  Ev 1 M_Md_isNext (34, [some (vO 11), some (vI x1), some (vI x2), some (vI x3), some (vI x4)], [vI s0], (sc, ar)) Q :=
  wq_ok 200 _ _ [(4, 4), (15, 5), (34, 5), (44, 5)] _ _ _ _ _ (show (inR s0) ∧ (s0 = 0 → (Ev 1 M_Md_isNext (15, [some (vO 11), some (vI x1), some (vI 1), some (vI x3), some (vI (x4 + 1))], [], (sc, ar)) Q)) ∧ (¬ (s0 = 0) → ((cO 11 = mK M_Md_isOne) ∧ (Ev 0 M_Md_isOne (0, [some (vO 11), some (vI x1), some (vI x4)], [], (sc, ar)) (fun r1 h1 => Ev 1 M_Md_isNext (44, [some (vO 11), some (vI x1), some (vI x2), some (vI x3), some (vI x4)], mPush r1 [], h1) Q)))) from ⟨k.1, fun c1 => (k.2.1 c1), fun c1 => ⟨(by decide), (k.2.2 c1)⟩⟩)
theorem sg_Md_isNext_44 {sc : Nat → Int} {ar : Nat → Nat → Int} {x1 x2 x3 x4 s0 : Int} {Q : Option mV → mH → Prop} (k : inR s0 ∧ 
  (s0 ≠ 0 → (Ev 1 M_Md_isNext (15, [some (vO 11), some (vI x1), some (vI 1), some (vI x3), some (vI (x4 + 1))], [], (sc, ar)) Q)) ∧ 
  (¬ (s0 ≠ 0) → ((0 : Int) ≤ x4 ∧ x4 < (8 : Int) ∧ 
    (inR (ar 184 x4.toNat) ∧ 
    ((ar 184 x4.toNat) ≠ (-9) → (Ev 1 M_Md_isNext (15, [some (vO 11), some (vI x1), some (vI 1), some (vI x3), some (vI (x4 + 1))], [], (sc, ar)) Q)) ∧ 
    (¬ ((ar 184 x4.toNat) ≠ (-9)) → ((0 : Int) ≤ ((8 * x3) + x4) ∧ ((8 * x3) + x4) < (64 : Int) ∧ 
      (inR (ar 179 ((8 * x3) + x4).toNat) ∧ 
      (0 < (ar 179 ((8 * x3) + x4).toNat) → (Ev 1 M_Md_isNext (15, [some (vO 11), some (vI x1), some (vI 0), some (vI x3), some (vI (x4 + 1))], [], (sc, ar)) Q)) ∧ 
      (¬ (0 < (ar 179 ((8 * x3) + x4).toNat)) → (Ev 1 M_Md_isNext (15, [some (vO 11), some (vI x1), some (vI 1), some (vI x3), some (vI (x4 + 1))], [], (sc, ar)) Q))))))))) :
  Ev 1 M_Md_isNext (44, [some (vO 11), some (vI x1), some (vI x2), some (vI x3), some (vI x4)], [vI s0], (sc, ar)) Q :=
  wq_ok 200 _ _ [(4, 4), (15, 5), (34, 5), (44, 5)] _ _ _ _ _ (show (inR s0) ∧ (s0 ≠ 0 → (Ev 1 M_Md_isNext (15, [some (vO 11), some (vI x1), some (vI 1), some (vI x3), some (vI (x4 + 1))], [], (sc, ar)) Q)) ∧ (¬ (s0 ≠ 0) → ((cO 11 = 9) ∧ ((aK 184 = 0 ∧ (0 : Int) ≤ x4 ∧ x4 < (8 : Int)) ∧ ((inR (ar 184 x4.toNat) ∧ inR (-9)) ∧ ((ar 184 x4.toNat) ≠ (-9) → (Ev 1 M_Md_isNext (15, [some (vO 11), some (vI x1), some (vI 1), some (vI x3), some (vI (x4 + 1))], [], (sc, ar)) Q)) ∧ (¬ ((ar 184 x4.toNat) ≠ (-9)) → ((cO 11 = 9) ∧ ((aK 179 = 0 ∧ (0 : Int) ≤ ((8 * x3) + x4) ∧ ((8 * x3) + x4) < (64 : Int)) ∧ ((inR (ar 179 ((8 * x3) + x4).toNat)) ∧ (0 < (ar 179 ((8 * x3) + x4).toNat) → (Ev 1 M_Md_isNext (15, [some (vO 11), some (vI x1), some (vI 0), some (vI x3), some (vI (x4 + 1))], [], (sc, ar)) Q)) ∧ (¬ (0 < (ar 179 ((8 * x3) + x4).toNat)) → (Ev 1 M_Md_isNext (15, [some (vO 11), some (vI x1), some (vI 1), some (vI x3), some (vI (x4 + 1))], [], (sc, ar)) Q)))))))))) from ⟨k.1, fun c1 => (k.2.1 c1), fun c1 => ⟨(by decide), ⟨⟨(by decide), (k.2.2 c1).1, (k.2.2 c1).2.1⟩, ⟨⟨(k.2.2 c1).2.2.1, (by decide)⟩, fun c2 => ((k.2.2 c1).2.2.2.1 c2), fun c2 => ⟨(by decide), ⟨⟨(by decide), ((k.2.2 c1).2.2.2.2 c2).1, ((k.2.2 c1).2.2.2.2 c2).2.1⟩, ⟨((k.2.2 c1).2.2.2.2 c2).2.2.1, fun c3 => (((k.2.2 c1).2.2.2.2 c2).2.2.2.1 c3), fun c3 => (((k.2.2 c1).2.2.2.2 c2).2.2.2.2 c3)⟩⟩⟩⟩⟩⟩⟩)
theorem sg_Md_numbered_0 {sc : Nat → Int} {ar : Nat → Nat → Int} {Q : Option mV → mH → Prop} (k : Ev 1 M_Md_lean (0, [some (vO 11), none, none, none], [], (sc, ar)) (fun r1 h1 => Ev 2 M_Md_numbered (4, [some (vO 11), none, none, none, none], mPush r1 [], h1) Q)) :
  Ev 2 M_Md_numbered (0, [some (vO 11), none, none, none, none], [], (sc, ar)) Q :=
  wq_ok 200 _ _ [(4, 1), (6, 2), (30, 3), (49, 5), (72, 5), (97, 5), (119, 5)] _ _ _ _ _ (show (cO 11 = mK M_Md_lean) ∧ (Ev 1 M_Md_lean (0, [some (vO 11), none, none, none], [], (sc, ar)) (fun r1 h1 => Ev 2 M_Md_numbered (4, [some (vO 11), none, none, none, none], mPush r1 [], h1) Q)) from ⟨(by decide), k⟩)
theorem sg_Md_numbered_4 {sc : Nat → Int} {ar : Nat → Nat → Int} {Q : Option mV → mH → Prop} (k : Ev 2 M_Md_numbered (6, [some (vO 11), some (vI 0), none, none, none], [], (sc, ar)) Q) :
  Ev 2 M_Md_numbered (4, [some (vO 11), none, none, none, none], [], (sc, ar)) Q :=
  wq_ok 200 _ _ [(4, 1), (6, 2), (30, 3), (49, 5), (72, 5), (97, 5), (119, 5)] _ _ _ _ _ (show Ev 2 M_Md_numbered (6, [some (vO 11), some (vI 0), none, none, none], [], (sc, ar)) Q from k)
theorem sg_Md_numbered_6 {sc : Nat → Int} {ar : Nat → Nat → Int} {x1 : Int} {Q : Option mV → mH → Prop} (k : inR x1 ∧ 
  (8 ≤ x1 → (Ev 2 M_Md_numbered (30, [some (vO 11), some (vI 0), some (vI 0), none, none], [], (sc, ar)) Q)) ∧ 
  (¬ (8 ≤ x1) → ((0 : Int) ≤ x1 ∧ x1 < (8 : Int) ∧ 
    (Ev 2 M_Md_numbered (6, [some (vO 11), some (vI (x1 + 1)), none, none, none], [], (sc, (up ar 184 (up (ar 184) x1.toNat (-9))))) Q)))) :
  Ev 2 M_Md_numbered (6, [some (vO 11), some (vI x1), none, none, none], [], (sc, ar)) Q :=
  wq_ok 200 _ _ [(4, 1), (6, 2), (30, 3), (49, 5), (72, 5), (97, 5), (119, 5)] _ _ _ _ _ (show (inR x1 ∧ inR 8) ∧ (8 ≤ x1 → (Ev 2 M_Md_numbered (30, [some (vO 11), some (vI 0), some (vI 0), none, none], [], (sc, ar)) Q)) ∧ (¬ (8 ≤ x1) → ((cO 11 = 9) ∧ ((aK 184 = 0 ∧ 184 ≠ 999 ∧ (0 : Int) ≤ x1 ∧ x1 < (8 : Int)) ∧ (Ev 2 M_Md_numbered (6, [some (vO 11), some (vI (x1 + 1)), none, none, none], [], (sc, (up ar 184 (up (ar 184) x1.toNat (-9))))) Q)))) from ⟨⟨k.1, (by decide)⟩, fun c1 => (k.2.1 c1), fun c1 => ⟨(by decide), ⟨⟨(by decide), (by decide), (k.2.2 c1).1, (k.2.2 c1).2.1⟩, (k.2.2 c1).2.2⟩⟩⟩)
theorem sg_Md_numbered_30 {sc : Nat → Int} {ar : Nat → Nat → Int} {x1 x2 : Int} {Q : Option mV → mH → Prop} (k : inR x2 ∧ inR (sc 177) ∧ 
  ((sc 177) ≤ x2 → (Q (some (vI x1)) (sc, ar))) ∧ 
  (¬ ((sc 177) ≤ x2) → (Ev 2 M_Md_numbered (49, [some (vO 11), some (vI x1), some (vI x2), some (vI (-9)), some (vI ((sc 177) - 1))], [], (sc, ar)) Q))) :
  Ev 2 M_Md_numbered (30, [some (vO 11), some (vI x1), some (vI x2), none, none], [], (sc, ar)) Q :=
  wq_ok 200 _ _ [(4, 1), (6, 2), (30, 3), (49, 5), (72, 5), (97, 5), (119, 5)] _ _ _ _ _ (show (cO 11 = 9) ∧ ((inR x2 ∧ inR (sc 177)) ∧ ((sc 177) ≤ x2 → (Q (some (vI x1)) (sc, ar))) ∧ (¬ ((sc 177) ≤ x2) → ((cO 11 = 9) ∧ (Ev 2 M_Md_numbered (49, [some (vO 11), some (vI x1), some (vI x2), some (vI (-9)), some (vI ((sc 177) - 1))], [], (sc, ar)) Q)))) from ⟨(by decide), ⟨⟨k.1, k.2.1⟩, fun c1 => (k.2.2.1 c1), fun c1 => ⟨(by decide), (k.2.2.2 c1)⟩⟩⟩)
theorem sg_Md_numbered_49 {sc : Nat → Int} {ar : Nat → Nat → Int} {x1 x2 x3 x4 : Int} {Q : Option mV → mH → Prop} (k : inR x4 ∧ 
  (x4 < 0 → (inR x3 ∧ 
    (x3 = (-9) → (Ev 2 M_Md_numbered (30, [some (vO 11), some (vI x1), some (vI (x2 + 1)), none, none], [], (sc, ar)) Q)) ∧ 
    (¬ (x3 = (-9)) → (Ev 2 M_Md_numbered (97, [some (vO 11), some (vI x1), some (vI x2), some (vI x3), some (vI 0)], [], (sc, ar)) Q)))) ∧ 
  (¬ (x4 < 0) → ((0 : Int) ≤ x4 ∧ x4 < (8 : Int) ∧ 
    (inR (ar 184 x4.toNat) ∧ 
    ((ar 184 x4.toNat) ≠ (-9) → (Ev 2 M_Md_numbered (49, [some (vO 11), some (vI x1), some (vI x2), some (vI x3), some (vI (x4 + (-1)))], [], (sc, ar)) Q)) ∧ 
    (¬ ((ar 184 x4.toNat) ≠ (-9)) → (Ev 1 M_Md_isNext (0, [some (vO 11), some (vI x4), none, none, none], [], (sc, ar)) (fun r1 h1 => Ev 2 M_Md_numbered (72, [some (vO 11), some (vI x1), some (vI x2), some (vI x3), some (vI x4)], mPush r1 [], h1) Q))))))) :
  Ev 2 M_Md_numbered (49, [some (vO 11), some (vI x1), some (vI x2), some (vI x3), some (vI x4)], [], (sc, ar)) Q :=
  wq_ok 200 _ _ [(4, 1), (6, 2), (30, 3), (49, 5), (72, 5), (97, 5), (119, 5)] _ _ _ _ _ (show (inR x4) ∧ (x4 < 0 → ((inR x3 ∧ inR (-9)) ∧ (x3 = (-9) → (Ev 2 M_Md_numbered (30, [some (vO 11), some (vI x1), some (vI (x2 + 1)), none, none], [], (sc, ar)) Q)) ∧ (¬ (x3 = (-9)) → (Ev 2 M_Md_numbered (97, [some (vO 11), some (vI x1), some (vI x2), some (vI x3), some (vI 0)], [], (sc, ar)) Q)))) ∧ (¬ (x4 < 0) → ((cO 11 = 9) ∧ ((aK 184 = 0 ∧ (0 : Int) ≤ x4 ∧ x4 < (8 : Int)) ∧ ((inR (ar 184 x4.toNat) ∧ inR (-9)) ∧ ((ar 184 x4.toNat) ≠ (-9) → (Ev 2 M_Md_numbered (49, [some (vO 11), some (vI x1), some (vI x2), some (vI x3), some (vI (x4 + (-1)))], [], (sc, ar)) Q)) ∧ (¬ ((ar 184 x4.toNat) ≠ (-9)) → ((cO 11 = mK M_Md_isNext) ∧ (Ev 1 M_Md_isNext (0, [some (vO 11), some (vI x4), none, none, none], [], (sc, ar)) (fun r1 h1 => Ev 2 M_Md_numbered (72, [some (vO 11), some (vI x1), some (vI x2), some (vI x3), some (vI x4)], mPush r1 [], h1) Q)))))))) from ⟨k.1, fun c1 => ⟨⟨(k.2.1 c1).1, (by decide)⟩, fun c2 => ((k.2.1 c1).2.1 c2), fun c2 => ((k.2.1 c1).2.2 c2)⟩, fun c1 => ⟨(by decide), ⟨⟨(by decide), (k.2.2 c1).1, (k.2.2 c1).2.1⟩, ⟨⟨(k.2.2 c1).2.2.1, (by decide)⟩, fun c3 => ((k.2.2 c1).2.2.2.1 c3), fun c3 => ⟨(by decide), ((k.2.2 c1).2.2.2.2 c3)⟩⟩⟩⟩⟩)
theorem sg_Md_numbered_72 {sc : Nat → Int} {ar : Nat → Nat → Int} {x1 x2 x3 x4 s0 : Int} {Q : Option mV → mH → Prop} (k : inR s0 ∧ 
  (s0 = 0 → (Ev 2 M_Md_numbered (49, [some (vO 11), some (vI x1), some (vI x2), some (vI x3), some (vI (x4 + (-1)))], [], (sc, ar)) Q)) ∧ 
  (¬ (s0 = 0) → (Ev 2 M_Md_numbered (49, [some (vO 11), some (vI x1), some (vI x2), some (vI x4), some (vI (x4 + (-1)))], [], (sc, ar)) Q))) :
  Ev 2 M_Md_numbered (72, [some (vO 11), some (vI x1), some (vI x2), some (vI x3), some (vI x4)], [vI s0], (sc, ar)) Q :=
  wq_ok 200 _ _ [(4, 1), (6, 2), (30, 3), (49, 5), (72, 5), (97, 5), (119, 5)] _ _ _ _ _ (show (inR s0) ∧ (s0 = 0 → (Ev 2 M_Md_numbered (49, [some (vO 11), some (vI x1), some (vI x2), some (vI x3), some (vI (x4 + (-1)))], [], (sc, ar)) Q)) ∧ (¬ (s0 = 0) → (Ev 2 M_Md_numbered (49, [some (vO 11), some (vI x1), some (vI x2), some (vI x4), some (vI (x4 + (-1)))], [], (sc, ar)) Q)) from ⟨k.1, fun c1 => (k.2.1 c1), fun c1 => (k.2.2 c1)⟩)
theorem sg_Md_numbered_97 {sc : Nat → Int} {ar : Nat → Nat → Int} {x1 x2 x3 x4 : Int} {Q : Option mV → mH → Prop} (k : inR x4 ∧ inR (sc 177) ∧ 
  ((sc 177) ≤ x4 → (Ev 2 M_Md_numbered (30, [some (vO 11), some (vI (x1 + 1)), some (vI (x2 + 1)), none, none], [], (sc, ar)) Q)) ∧ 
  (¬ ((sc 177) ≤ x4) → (Ev 1 M_Md_isOne (0, [some (vO 11), some (vI x3), some (vI x4)], [], (sc, ar)) (fun r1 h1 => Ev 2 M_Md_numbered (119, [some (vO 11), some (vI x1), some (vI x2), some (vI x3), some (vI x4)], mPush r1 [vI x4, vA 184], h1) Q)))) :
  Ev 2 M_Md_numbered (97, [some (vO 11), some (vI x1), some (vI x2), some (vI x3), some (vI x4)], [], (sc, ar)) Q :=
  wq_ok 200 _ _ [(4, 1), (6, 2), (30, 3), (49, 5), (72, 5), (97, 5), (119, 5)] _ _ _ _ _ (show (cO 11 = 9) ∧ ((inR x4 ∧ inR (sc 177)) ∧ ((sc 177) ≤ x4 → (Ev 2 M_Md_numbered (30, [some (vO 11), some (vI (x1 + 1)), some (vI (x2 + 1)), none, none], [], (sc, ar)) Q)) ∧ (¬ ((sc 177) ≤ x4) → ((cO 11 = 9) ∧ ((cO 11 = mK M_Md_isOne) ∧ (Ev 1 M_Md_isOne (0, [some (vO 11), some (vI x3), some (vI x4)], [], (sc, ar)) (fun r1 h1 => Ev 2 M_Md_numbered (119, [some (vO 11), some (vI x1), some (vI x2), some (vI x3), some (vI x4)], mPush r1 [vI x4, vA 184], h1) Q)))))) from ⟨(by decide), ⟨⟨k.1, k.2.1⟩, fun c1 => (k.2.2.1 c1), fun c1 => ⟨(by decide), ⟨(by decide), (k.2.2.2 c1)⟩⟩⟩⟩)
theorem sg_Md_numbered_119 {sc : Nat → Int} {ar : Nat → Nat → Int} {x1 x2 x3 x4 s0 s1 : Int} {Q : Option mV → mH → Prop} (k : inR s0 ∧ 
  (s0 = 0 → ((0 : Int) ≤ x4 ∧ x4 < (8 : Int) ∧ 
    ((0 : Int) ≤ s1 ∧ s1 < (8 : Int) ∧ 
    (Ev 2 M_Md_numbered (97, [some (vO 11), some (vI x1), some (vI x2), some (vI x3), some (vI (x4 + 1))], [], (sc, (up ar 184 (up (ar 184) s1.toNat (ar 184 x4.toNat))))) Q)))) ∧ 
  (¬ (s0 = 0) → ((0 : Int) ≤ s1 ∧ s1 < (8 : Int) ∧ 
    (Ev 2 M_Md_numbered (97, [some (vO 11), some (vI x1), some (vI x2), some (vI x3), some (vI (x4 + 1))], [], (sc, (up ar 184 (up (ar 184) s1.toNat x1)))) Q)))) :
  Ev 2 M_Md_numbered (119, [some (vO 11), some (vI x1), some (vI x2), some (vI x3), some (vI x4)], [vI s0, vI s1, vA 184], (sc, ar)) Q :=
  wq_ok 200 _ _ [(4, 1), (6, 2), (30, 3), (49, 5), (72, 5), (97, 5), (119, 5)] _ _ _ _ _ (show (inR s0) ∧ (s0 = 0 → ((cO 11 = 9) ∧ ((aK 184 = 0 ∧ (0 : Int) ≤ x4 ∧ x4 < (8 : Int)) ∧ ((aK 184 = 0 ∧ 184 ≠ 999 ∧ (0 : Int) ≤ s1 ∧ s1 < (8 : Int)) ∧ (Ev 2 M_Md_numbered (97, [some (vO 11), some (vI x1), some (vI x2), some (vI x3), some (vI (x4 + 1))], [], (sc, (up ar 184 (up (ar 184) s1.toNat (ar 184 x4.toNat))))) Q))))) ∧ (¬ (s0 = 0) → ((aK 184 = 0 ∧ 184 ≠ 999 ∧ (0 : Int) ≤ s1 ∧ s1 < (8 : Int)) ∧ (Ev 2 M_Md_numbered (97, [some (vO 11), some (vI x1), some (vI x2), some (vI x3), some (vI (x4 + 1))], [], (sc, (up ar 184 (up (ar 184) s1.toNat x1)))) Q))) from ⟨k.1, fun c1 => ⟨(by decide), ⟨⟨(by decide), (k.2.1 c1).1, (k.2.1 c1).2.1⟩, ⟨⟨(by decide), (by decide), (k.2.1 c1).2.2.1, (k.2.1 c1).2.2.2.1⟩, (k.2.1 c1).2.2.2.2⟩⟩⟩, fun c1 => ⟨⟨(by decide), (by decide), (k.2.2 c1).1, (k.2.2 c1).2.1⟩, (k.2.2 c1).2.2⟩⟩)
theorem sg_Md_blocks_0 {sc : Nat → Int} {ar : Nat → Nat → Int} {Q : Option mV → mH → Prop} (k : Ev 2 M_Md_numbered (0, [some (vO 11), none, none, none, none], [], ((up sc 176 0), ar)) (fun r1 h1 => Ev 3 M_Md_blocks (9, [some (vO 11)], mPush r1 [], h1) Q)) :
  Ev 3 M_Md_blocks (0, [some (vO 11)], [], (sc, ar)) Q :=
  wq_ok 200 _ _ [(9, 1)] _ _ _ _ _ (show (cO 11 = 9) ∧ ((cO 11 = mK M_Md_numbered) ∧ (Ev 2 M_Md_numbered (0, [some (vO 11), none, none, none, none], [], ((up sc 176 0), ar)) (fun r1 h1 => Ev 3 M_Md_blocks (9, [some (vO 11)], mPush r1 [], h1) Q))) from ⟨(by decide), ⟨(by decide), k⟩⟩)
theorem sg_Md_blocks_9 {sc : Nat → Int} {ar : Nat → Nat → Int} {s0 : Int} {Q : Option mV → mH → Prop} (k : Q (some (vI s0)) (sc, ar)) :
  Ev 3 M_Md_blocks (9, [some (vO 11)], [vI s0], (sc, ar)) Q :=
  wq_ok 200 _ _ [(9, 1)] _ _ _ _ _ (show Q (some (vI s0)) (sc, ar) from k)
theorem sg_Md_block_0 {sc : Nat → Int} {ar : Nat → Nat → Int} {x1 : Int} {Q : Option mV → mH → Prop} (k : Ev 2 M_Md_no (0, [some (vO 11), some (vI x1)], [], ((up sc 176 0), ar)) (fun r1 h1 => Ev 3 M_Md_block (10, [some (vO 11), some (vI x1)], mPush r1 [], h1) Q)) :
  Ev 3 M_Md_block (0, [some (vO 11), some (vI x1)], [], (sc, ar)) Q :=
  wq_ok 200 _ _ [(10, 2), (19, 2)] _ _ _ _ _ (show (cO 11 = 9) ∧ ((cO 11 = mK M_Md_no) ∧ (Ev 2 M_Md_no (0, [some (vO 11), some (vI x1)], [], ((up sc 176 0), ar)) (fun r1 h1 => Ev 3 M_Md_block (10, [some (vO 11), some (vI x1)], mPush r1 [], h1) Q))) from ⟨(by decide), ⟨(by decide), k⟩⟩)
theorem sg_Md_block_10 {sc : Nat → Int} {ar : Nat → Nat → Int} {x1 s0 : Int} {Q : Option mV → mH → Prop} (k : inR s0 ∧ 
  (s0 = 0 → (Ev 2 M_Md_numbered (0, [some (vO 11), none, none, none, none], [], (sc, ar)) (fun r1 h1 => Ev 3 M_Md_block (19, [some (vO 11), some (vI x1)], mPush r1 [], h1) Q))) ∧ 
  (¬ (s0 = 0) → (Q (some (vI (-1))) (sc, ar)))) :
  Ev 3 M_Md_block (10, [some (vO 11), some (vI x1)], [vI s0], (sc, ar)) Q :=
  wq_ok 200 _ _ [(10, 2), (19, 2)] _ _ _ _ _ (show (inR s0) ∧ (s0 = 0 → ((cO 11 = mK M_Md_numbered) ∧ (Ev 2 M_Md_numbered (0, [some (vO 11), none, none, none, none], [], (sc, ar)) (fun r1 h1 => Ev 3 M_Md_block (19, [some (vO 11), some (vI x1)], mPush r1 [], h1) Q)))) ∧ (¬ (s0 = 0) → (Q (some (vI (-1))) (sc, ar))) from ⟨k.1, fun c1 => ⟨(by decide), (k.2.1 c1)⟩, fun c1 => (k.2.2 c1)⟩)
theorem sg_Md_block_19 {sc : Nat → Int} {ar : Nat → Nat → Int} {x1 s0 : Int} {Q : Option mV → mH → Prop} (k : (0 : Int) ≤ x1 ∧ x1 < (8 : Int) ∧ 
  (Q (some (vI (ar 184 x1.toNat))) (sc, ar))) :
  Ev 3 M_Md_block (19, [some (vO 11), some (vI x1)], [vI s0], (sc, ar)) Q :=
  wq_ok 200 _ _ [(10, 2), (19, 2)] _ _ _ _ _ (show (cO 11 = 9) ∧ ((aK 184 = 0 ∧ (0 : Int) ≤ x1 ∧ x1 < (8 : Int)) ∧ (Q (some (vI (ar 184 x1.toNat))) (sc, ar))) from ⟨(by decide), ⟨⟨(by decide), k.1, k.2.1⟩, k.2.2⟩⟩)
theorem sg_Md_guessed_0 {sc : Nat → Int} {ar : Nat → Nat → Int} {x1 x2 : Int} {Q : Option mV → mH → Prop} (k : Ev 0 M_Md_guessed (5, [some (vO 11), some (vI x1), some (vI x2), some (vI 0), some (vI 0)], [], (sc, ar)) Q) :
  Ev 0 M_Md_guessed (0, [some (vO 11), some (vI x1), some (vI x2), none, none], [], (sc, ar)) Q :=
  wq_ok 200 _ _ [(5, 5)] _ _ _ _ _ (show Ev 0 M_Md_guessed (5, [some (vO 11), some (vI x1), some (vI x2), some (vI 0), some (vI 0)], [], (sc, ar)) Q from k)
theorem sg_Md_guessed_5 {sc : Nat → Int} {ar : Nat → Nat → Int} {x1 x2 x3 x4 : Int} {Q : Option mV → mH → Prop} (k : inR x4 ∧ inR (sc 177) ∧ 
  ((sc 177) ≤ x4 → (Q (some (vI x3)) (sc, ar))) ∧ 
  (¬ ((sc 177) ≤ x4) → (inR (bAnd (bShr x2 x4) 1) ∧ 
    ((bAnd (bShr x2 x4) 1) ≠ 0 → (Ev 0 M_Md_guessed (5, [some (vO 11), some (vI x1), some (vI x2), some (vI (x3 + 0)), some (vI (x4 + 1))], [], (sc, ar)) Q)) ∧ 
    (¬ ((bAnd (bShr x2 x4) 1) ≠ 0) → (inR x4 ∧ inR x1 ∧ 
      (x4 = x1 → (Ev 0 M_Md_guessed (5, [some (vO 11), some (vI x1), some (vI x2), some (vI (x3 + 0)), some (vI (x4 + 1))], [], (sc, ar)) Q)) ∧ 
      (¬ (x4 = x1) → ((0 : Int) ≤ ((8 * x1) + x4) ∧ ((8 * x1) + x4) < (64 : Int) ∧ 
        (Ev 0 M_Md_guessed (5, [some (vO 11), some (vI x1), some (vI x2), some (vI (x3 + (ar 179 ((8 * x1) + x4).toNat))), some (vI (x4 + 1))], [], (sc, ar)) Q)))))))) :
  Ev 0 M_Md_guessed (5, [some (vO 11), some (vI x1), some (vI x2), some (vI x3), some (vI x4)], [], (sc, ar)) Q :=
  wq_ok 200 _ _ [(5, 5)] _ _ _ _ _ (show (cO 11 = 9) ∧ ((inR x4 ∧ inR (sc 177)) ∧ ((sc 177) ≤ x4 → (Q (some (vI x3)) (sc, ar))) ∧ (¬ ((sc 177) ≤ x4) → ((inR (bAnd (bShr x2 x4) 1)) ∧ ((bAnd (bShr x2 x4) 1) ≠ 0 → (Ev 0 M_Md_guessed (5, [some (vO 11), some (vI x1), some (vI x2), some (vI (x3 + 0)), some (vI (x4 + 1))], [], (sc, ar)) Q)) ∧ (¬ ((bAnd (bShr x2 x4) 1) ≠ 0) → ((inR x4 ∧ inR x1) ∧ (x4 = x1 → (Ev 0 M_Md_guessed (5, [some (vO 11), some (vI x1), some (vI x2), some (vI (x3 + 0)), some (vI (x4 + 1))], [], (sc, ar)) Q)) ∧ (¬ (x4 = x1) → ((cO 11 = 9) ∧ ((aK 179 = 0 ∧ (0 : Int) ≤ ((8 * x1) + x4) ∧ ((8 * x1) + x4) < (64 : Int)) ∧ (Ev 0 M_Md_guessed (5, [some (vO 11), some (vI x1), some (vI x2), some (vI (x3 + (ar 179 ((8 * x1) + x4).toNat))), some (vI (x4 + 1))], [], (sc, ar)) Q))))))))) from ⟨(by decide), ⟨⟨k.1, k.2.1⟩, fun c1 => (k.2.2.1 c1), fun c1 => ⟨(k.2.2.2 c1).1, fun c2 => ((k.2.2.2 c1).2.1 c2), fun c2 => ⟨⟨((k.2.2.2 c1).2.2 c2).1, ((k.2.2.2 c1).2.2 c2).2.1⟩, fun c3 => (((k.2.2.2 c1).2.2 c2).2.2.1 c3), fun c3 => ⟨(by decide), ⟨⟨(by decide), (((k.2.2.2 c1).2.2 c2).2.2.2 c3).1, (((k.2.2.2 c1).2.2 c2).2.2.2 c3).2.1⟩, (((k.2.2.2 c1).2.2 c2).2.2.2 c3).2.2⟩⟩⟩⟩⟩⟩)
theorem sg_Md_leastOf_0 {sc : Nat → Int} {ar : Nat → Nat → Int} {Q : Option mV → mH → Prop} (k : Ev 1 M_Md_leastOf (11, [some (vO 11), some (vI ((bShl 1 (sc 177)) - 1)), some (vI ((bShl 1 (sc 177)) - 1)), none, none], [], (sc, ar)) Q) :
  Ev 1 M_Md_leastOf (0, [some (vO 11), none, none, none, none], [], (sc, ar)) Q :=
  wq_ok 200 _ _ [(11, 3), (34, 4), (56, 4)] _ _ _ _ _ (show (cO 11 = 9) ∧ (Ev 1 M_Md_leastOf (11, [some (vO 11), some (vI ((bShl 1 (sc 177)) - 1)), some (vI ((bShl 1 (sc 177)) - 1)), none, none], [], (sc, ar)) Q) from ⟨(by decide), k⟩)
theorem sg_Md_leastOf_11 {sc : Nat → Int} {ar : Nat → Nat → Int} {x1 x2 : Int} {Q : Option mV → mH → Prop} (k : inR x2 ∧ 
  (x2 < 0 → (Q (some (vI (ar 182 (0 : Int).toNat))) (sc, ar))) ∧ 
  (¬ (x2 < 0) → (inR x2 ∧ inR x1 ∧ 
    (x2 ≠ x1 → ((0 : Int) ≤ x2 ∧ x2 < (256 : Int) ∧ 
      (Ev 1 M_Md_leastOf (34, [some (vO 11), some (vI x1), some (vI x2), some (vI 0), none], [], (sc, (up ar 182 (up (ar 182) x2.toNat (-9))))) Q))) ∧ 
    (¬ (x2 ≠ x1) → ((0 : Int) ≤ x2 ∧ x2 < (256 : Int) ∧ 
      (Ev 1 M_Md_leastOf (34, [some (vO 11), some (vI x1), some (vI x2), some (vI 0), none], [], (sc, (up ar 182 (up (ar 182) x2.toNat 0)))) Q)))))) :
  Ev 1 M_Md_leastOf (11, [some (vO 11), some (vI x1), some (vI x2), none, none], [], (sc, ar)) Q :=
  wq_ok 200 _ _ [(11, 3), (34, 4), (56, 4)] _ _ _ _ _ (show (inR x2) ∧ (x2 < 0 → ((cO 11 = 9) ∧ ((aK 182 = 0 ∧ (0 : Int) ≤ 0 ∧ 0 < (256 : Int)) ∧ (Q (some (vI (ar 182 (0 : Int).toNat))) (sc, ar))))) ∧ (¬ (x2 < 0) → ((cO 11 = 9) ∧ ((inR x2 ∧ inR x1) ∧ (x2 ≠ x1 → ((aK 182 = 0 ∧ 182 ≠ 999 ∧ (0 : Int) ≤ x2 ∧ x2 < (256 : Int)) ∧ (Ev 1 M_Md_leastOf (34, [some (vO 11), some (vI x1), some (vI x2), some (vI 0), none], [], (sc, (up ar 182 (up (ar 182) x2.toNat (-9))))) Q))) ∧ (¬ (x2 ≠ x1) → ((aK 182 = 0 ∧ 182 ≠ 999 ∧ (0 : Int) ≤ x2 ∧ x2 < (256 : Int)) ∧ (Ev 1 M_Md_leastOf (34, [some (vO 11), some (vI x1), some (vI x2), some (vI 0), none], [], (sc, (up ar 182 (up (ar 182) x2.toNat 0)))) Q)))))) from ⟨k.1, fun c1 => ⟨(by decide), ⟨⟨(by decide), (by decide), (by decide)⟩, (k.2.1 c1)⟩⟩, fun c1 => ⟨(by decide), ⟨⟨(k.2.2 c1).1, (k.2.2 c1).2.1⟩, fun c2 => ⟨⟨(by decide), (by decide), ((k.2.2 c1).2.2.1 c2).1, ((k.2.2 c1).2.2.1 c2).2.1⟩, ((k.2.2 c1).2.2.1 c2).2.2⟩, fun c2 => ⟨⟨(by decide), (by decide), ((k.2.2 c1).2.2.2 c2).1, ((k.2.2 c1).2.2.2 c2).2.1⟩, ((k.2.2 c1).2.2.2 c2).2.2⟩⟩⟩⟩)
theorem sg_Md_leastOf_34 {sc : Nat → Int} {ar : Nat → Nat → Int} {x1 x2 x3 : Int} {Q : Option mV → mH → Prop} (k : inR x3 ∧ inR (sc 177) ∧ 
  ((sc 177) ≤ x3 → (Ev 1 M_Md_leastOf (11, [some (vO 11), some (vI x1), some (vI (x2 + (-1))), none, none], [], (sc, ar)) Q)) ∧ 
  (¬ ((sc 177) ≤ x3) → (inR (bAnd (bShr x2 x3) 1) ∧ 
    ((bAnd (bShr x2 x3) 1) ≠ 0 → (Ev 1 M_Md_leastOf (34, [some (vO 11), some (vI x1), some (vI x2), some (vI (x3 + 1)), none], [], (sc, ar)) Q)) ∧ 
    (¬ ((bAnd (bShr x2 x3) 1) ≠ 0) → (Ev 0 M_Md_guessed (0, [some (vO 11), some (vI x3), some (vI x2), none, none], [], (sc, ar)) (fun r1 h1 => Ev 1 M_Md_leastOf (56, [some (vO 11), some (vI x1), some (vI x2), some (vI x3), none], mPush r1 [], h1) Q)))))) :
  Ev 1 M_Md_leastOf (34, [some (vO 11), some (vI x1), some (vI x2), some (vI x3), none], [], (sc, ar)) Q :=
  wq_ok 200 _ _ [(11, 3), (34, 4), (56, 4)] _ _ _ _ _ (show (cO 11 = 9) ∧ ((inR x3 ∧ inR (sc 177)) ∧ ((sc 177) ≤ x3 → (Ev 1 M_Md_leastOf (11, [some (vO 11), some (vI x1), some (vI (x2 + (-1))), none, none], [], (sc, ar)) Q)) ∧ (¬ ((sc 177) ≤ x3) → ((inR (bAnd (bShr x2 x3) 1)) ∧ ((bAnd (bShr x2 x3) 1) ≠ 0 → (Ev 1 M_Md_leastOf (34, [some (vO 11), some (vI x1), some (vI x2), some (vI (x3 + 1)), none], [], (sc, ar)) Q)) ∧ (¬ ((bAnd (bShr x2 x3) 1) ≠ 0) → ((cO 11 = mK M_Md_guessed) ∧ (Ev 0 M_Md_guessed (0, [some (vO 11), some (vI x3), some (vI x2), none, none], [], (sc, ar)) (fun r1 h1 => Ev 1 M_Md_leastOf (56, [some (vO 11), some (vI x1), some (vI x2), some (vI x3), none], mPush r1 [], h1) Q))))))) from ⟨(by decide), ⟨⟨k.1, k.2.1⟩, fun c1 => (k.2.2.1 c1), fun c1 => ⟨(k.2.2.2 c1).1, fun c2 => ((k.2.2.2 c1).2.1 c2), fun c2 => ⟨(by decide), ((k.2.2.2 c1).2.2 c2)⟩⟩⟩⟩)
theorem sg_Md_leastOf_56 {sc : Nat → Int} {ar : Nat → Nat → Int} {x1 x2 x3 s0 : Int} {Q : Option mV → mH → Prop} (k : (0 : Int) ≤ (bOr x2 (bShl 1 x3)) ∧ (bOr x2 (bShl 1 x3)) < (256 : Int) ∧ 
  ((0 : Int) ≤ x2 ∧ x2 < (256 : Int) ∧ 
  (inR (ar 182 x2.toNat) ∧ 
  ((ar 182 x2.toNat) = (-9) → ((0 : Int) ≤ x2 ∧ x2 < (256 : Int) ∧ 
    (Ev 1 M_Md_leastOf (34, [some (vO 11), some (vI x1), some (vI x2), some (vI (x3 + 1)), none], [], (sc, (up ar 182 (up (ar 182) x2.toNat (s0 + (ar 182 (bOr x2 (bShl 1 x3)).toNat)))))) Q))) ∧ 
  (¬ ((ar 182 x2.toNat) = (-9)) → ((0 : Int) ≤ x2 ∧ x2 < (256 : Int) ∧ 
    (inR (s0 + (ar 182 (bOr x2 (bShl 1 x3)).toNat)) ∧ inR (ar 182 x2.toNat) ∧ 
    ((ar 182 x2.toNat) ≤ (s0 + (ar 182 (bOr x2 (bShl 1 x3)).toNat)) → ((0 : Int) ≤ x2 ∧ x2 < (256 : Int) ∧ 
      ((0 : Int) ≤ x2 ∧ x2 < (256 : Int) ∧ 
      (Ev 1 M_Md_leastOf (34, [some (vO 11), some (vI x1), some (vI x2), some (vI (x3 + 1)), none], [], (sc, (up ar 182 (up (ar 182) x2.toNat (ar 182 x2.toNat))))) Q)))) ∧ 
    (¬ ((ar 182 x2.toNat) ≤ (s0 + (ar 182 (bOr x2 (bShl 1 x3)).toNat))) → ((0 : Int) ≤ x2 ∧ x2 < (256 : Int) ∧ 
      (Ev 1 M_Md_leastOf (34, [some (vO 11), some (vI x1), some (vI x2), some (vI (x3 + 1)), none], [], (sc, (up ar 182 (up (ar 182) x2.toNat (s0 + (ar 182 (bOr x2 (bShl 1 x3)).toNat)))))) Q))))))))) :
  Ev 1 M_Md_leastOf (56, [some (vO 11), some (vI x1), some (vI x2), some (vI x3), none], [vI s0], (sc, ar)) Q :=
  wq_ok 200 _ _ [(11, 3), (34, 4), (56, 4)] _ _ _ _ _ (show (cO 11 = 9) ∧ ((aK 182 = 0 ∧ (0 : Int) ≤ (bOr x2 (bShl 1 x3)) ∧ (bOr x2 (bShl 1 x3)) < (256 : Int)) ∧ ((cO 11 = 9) ∧ ((cO 11 = 9) ∧ ((aK 182 = 0 ∧ (0 : Int) ≤ x2 ∧ x2 < (256 : Int)) ∧ ((inR (ar 182 x2.toNat) ∧ inR (-9)) ∧ ((ar 182 x2.toNat) = (-9) → ((aK 182 = 0 ∧ 182 ≠ 999 ∧ (0 : Int) ≤ x2 ∧ x2 < (256 : Int)) ∧ (Ev 1 M_Md_leastOf (34, [some (vO 11), some (vI x1), some (vI x2), some (vI (x3 + 1)), none], [], (sc, (up ar 182 (up (ar 182) x2.toNat (s0 + (ar 182 (bOr x2 (bShl 1 x3)).toNat)))))) Q))) ∧ (¬ ((ar 182 x2.toNat) = (-9)) → ((cO 11 = 9) ∧ ((aK 182 = 0 ∧ (0 : Int) ≤ x2 ∧ x2 < (256 : Int)) ∧ ((inR (s0 + (ar 182 (bOr x2 (bShl 1 x3)).toNat)) ∧ inR (ar 182 x2.toNat)) ∧ ((ar 182 x2.toNat) ≤ (s0 + (ar 182 (bOr x2 (bShl 1 x3)).toNat)) → ((cO 11 = 9) ∧ ((aK 182 = 0 ∧ (0 : Int) ≤ x2 ∧ x2 < (256 : Int)) ∧ ((aK 182 = 0 ∧ 182 ≠ 999 ∧ (0 : Int) ≤ x2 ∧ x2 < (256 : Int)) ∧ (Ev 1 M_Md_leastOf (34, [some (vO 11), some (vI x1), some (vI x2), some (vI (x3 + 1)), none], [], (sc, (up ar 182 (up (ar 182) x2.toNat (ar 182 x2.toNat))))) Q))))) ∧ (¬ ((ar 182 x2.toNat) ≤ (s0 + (ar 182 (bOr x2 (bShl 1 x3)).toNat))) → ((aK 182 = 0 ∧ 182 ≠ 999 ∧ (0 : Int) ≤ x2 ∧ x2 < (256 : Int)) ∧ (Ev 1 M_Md_leastOf (34, [some (vO 11), some (vI x1), some (vI x2), some (vI (x3 + 1)), none], [], (sc, (up ar 182 (up (ar 182) x2.toNat (s0 + (ar 182 (bOr x2 (bShl 1 x3)).toNat)))))) Q)))))))))))) from ⟨(by decide), ⟨⟨(by decide), k.1, k.2.1⟩, ⟨(by decide), ⟨(by decide), ⟨⟨(by decide), k.2.2.1, k.2.2.2.1⟩, ⟨⟨k.2.2.2.2.1, (by decide)⟩, fun c1 => ⟨⟨(by decide), (by decide), (k.2.2.2.2.2.1 c1).1, (k.2.2.2.2.2.1 c1).2.1⟩, (k.2.2.2.2.2.1 c1).2.2⟩, fun c1 => ⟨(by decide), ⟨⟨(by decide), (k.2.2.2.2.2.2 c1).1, (k.2.2.2.2.2.2 c1).2.1⟩, ⟨⟨(k.2.2.2.2.2.2 c1).2.2.1, (k.2.2.2.2.2.2 c1).2.2.2.1⟩, fun c2 => ⟨(by decide), ⟨⟨(by decide), ((k.2.2.2.2.2.2 c1).2.2.2.2.1 c2).1, ((k.2.2.2.2.2.2 c1).2.2.2.2.1 c2).2.1⟩, ⟨⟨(by decide), (by decide), ((k.2.2.2.2.2.2 c1).2.2.2.2.1 c2).2.2.1, ((k.2.2.2.2.2.2 c1).2.2.2.2.1 c2).2.2.2.1⟩, ((k.2.2.2.2.2.2 c1).2.2.2.2.1 c2).2.2.2.2⟩⟩⟩, fun c2 => ⟨⟨(by decide), (by decide), ((k.2.2.2.2.2.2 c1).2.2.2.2.2 c2).1, ((k.2.2.2.2.2.2 c1).2.2.2.2.2 c2).2.1⟩, ((k.2.2.2.2.2.2 c1).2.2.2.2.2 c2).2.2⟩⟩⟩⟩⟩⟩⟩⟩⟩⟩)
theorem sg_Md_leastRow_0 {sc : Nat → Int} {ar : Nat → Nat → Int} {Q : Option mV → mH → Prop} (k : Ev 1 M_Md_leastOf (0, [some (vO 11), none, none, none, none], [], (sc, ar)) (fun r1 h1 => Ev 2 M_Md_leastRow (4, [some (vO 11), none, none, none, none], mPush r1 [], h1) Q)) :
  Ev 2 M_Md_leastRow (0, [some (vO 11), none, none, none, none], [], (sc, ar)) Q :=
  wq_ok 200 _ _ [(4, 1), (9, 3), (28, 5), (49, 5)] _ _ _ _ _ (show (cO 11 = mK M_Md_leastOf) ∧ (Ev 1 M_Md_leastOf (0, [some (vO 11), none, none, none, none], [], (sc, ar)) (fun r1 h1 => Ev 2 M_Md_leastRow (4, [some (vO 11), none, none, none, none], mPush r1 [], h1) Q)) from ⟨(by decide), k⟩)
theorem sg_Md_leastRow_4 {sc : Nat → Int} {ar : Nat → Nat → Int} {s0 : Int} {Q : Option mV → mH → Prop} (k : Ev 2 M_Md_leastRow (9, [some (vO 11), some (vI 0), some (vI 0), none, none], [], (sc, ar)) Q) :
  Ev 2 M_Md_leastRow (4, [some (vO 11), none, none, none, none], [vI s0], (sc, ar)) Q :=
  wq_ok 200 _ _ [(4, 1), (9, 3), (28, 5), (49, 5)] _ _ _ _ _ (show Ev 2 M_Md_leastRow (9, [some (vO 11), some (vI 0), some (vI 0), none, none], [], (sc, ar)) Q from k)
theorem sg_Md_leastRow_9 {sc : Nat → Int} {ar : Nat → Nat → Int} {x1 x2 : Int} {Q : Option mV → mH → Prop} (k : inR x2 ∧ inR (sc 177) ∧ 
  ((sc 177) ≤ x2 → (Q none (sc, ar))) ∧ 
  (¬ ((sc 177) ≤ x2) → (Ev 2 M_Md_leastRow (28, [some (vO 11), some (vI x1), some (vI x2), some (vI (-9)), some (vI ((sc 177) - 1))], [], (sc, ar)) Q))) :
  Ev 2 M_Md_leastRow (9, [some (vO 11), some (vI x1), some (vI x2), none, none], [], (sc, ar)) Q :=
  wq_ok 200 _ _ [(4, 1), (9, 3), (28, 5), (49, 5)] _ _ _ _ _ (show (cO 11 = 9) ∧ ((inR x2 ∧ inR (sc 177)) ∧ ((sc 177) ≤ x2 → (Q none (sc, ar))) ∧ (¬ ((sc 177) ≤ x2) → ((cO 11 = 9) ∧ (Ev 2 M_Md_leastRow (28, [some (vO 11), some (vI x1), some (vI x2), some (vI (-9)), some (vI ((sc 177) - 1))], [], (sc, ar)) Q)))) from ⟨(by decide), ⟨⟨k.1, k.2.1⟩, fun c1 => (k.2.2.1 c1), fun c1 => ⟨(by decide), (k.2.2.2 c1)⟩⟩⟩)
theorem sg_Md_leastRow_28 {sc : Nat → Int} {ar : Nat → Nat → Int} {x1 x2 x3 x4 : Int} {Q : Option mV → mH → Prop} (k : inR x4 ∧ 
  (x4 < 0 → ((0 : Int) ≤ x2 ∧ x2 < (8 : Int) ∧ 
    (Ev 2 M_Md_leastRow (9, [some (vO 11), some (vI (bOr x1 (bShl 1 x3))), some (vI (x2 + 1)), none, none], [], (sc, (up ar 188 (up (ar 188) x2.toNat x3)))) Q))) ∧ 
  (¬ (x4 < 0) → (inR (bAnd (bShr x1 x4) 1) ∧ 
    ((bAnd (bShr x1 x4) 1) ≠ 0 → (Ev 2 M_Md_leastRow (28, [some (vO 11), some (vI x1), some (vI x2), some (vI x3), some (vI (x4 + (-1)))], [], (sc, ar)) Q)) ∧ 
    (¬ ((bAnd (bShr x1 x4) 1) ≠ 0) → (Ev 1 M_Md_guessed (0, [some (vO 11), some (vI x4), some (vI x1), none, none], [], (sc, ar)) (fun r1 h1 => Ev 2 M_Md_leastRow (49, [some (vO 11), some (vI x1), some (vI x2), some (vI x3), some (vI x4)], mPush r1 [], h1) Q)))))) :
  Ev 2 M_Md_leastRow (28, [some (vO 11), some (vI x1), some (vI x2), some (vI x3), some (vI x4)], [], (sc, ar)) Q :=
  wq_ok 200 _ _ [(4, 1), (9, 3), (28, 5), (49, 5)] _ _ _ _ _ (show (inR x4) ∧ (x4 < 0 → ((cO 11 = 9) ∧ ((aK 188 = 0 ∧ 188 ≠ 999 ∧ (0 : Int) ≤ x2 ∧ x2 < (8 : Int)) ∧ (Ev 2 M_Md_leastRow (9, [some (vO 11), some (vI (bOr x1 (bShl 1 x3))), some (vI (x2 + 1)), none, none], [], (sc, (up ar 188 (up (ar 188) x2.toNat x3)))) Q)))) ∧ (¬ (x4 < 0) → ((inR (bAnd (bShr x1 x4) 1)) ∧ ((bAnd (bShr x1 x4) 1) ≠ 0 → (Ev 2 M_Md_leastRow (28, [some (vO 11), some (vI x1), some (vI x2), some (vI x3), some (vI (x4 + (-1)))], [], (sc, ar)) Q)) ∧ (¬ ((bAnd (bShr x1 x4) 1) ≠ 0) → ((cO 11 = mK M_Md_guessed) ∧ (Ev 1 M_Md_guessed (0, [some (vO 11), some (vI x4), some (vI x1), none, none], [], (sc, ar)) (fun r1 h1 => Ev 2 M_Md_leastRow (49, [some (vO 11), some (vI x1), some (vI x2), some (vI x3), some (vI x4)], mPush r1 [], h1) Q)))))) from ⟨k.1, fun c1 => ⟨(by decide), ⟨⟨(by decide), (by decide), (k.2.1 c1).1, (k.2.1 c1).2.1⟩, (k.2.1 c1).2.2⟩⟩, fun c1 => ⟨(k.2.2 c1).1, fun c2 => ((k.2.2 c1).2.1 c2), fun c2 => ⟨(by decide), ((k.2.2 c1).2.2 c2)⟩⟩⟩)
theorem sg_Md_leastRow_49 {sc : Nat → Int} {ar : Nat → Nat → Int} {x1 x2 x3 x4 s0 : Int} {Q : Option mV → mH → Prop} (k : (0 : Int) ≤ (bOr x1 (bShl 1 x4)) ∧ (bOr x1 (bShl 1 x4)) < (256 : Int) ∧ 
  ((0 : Int) ≤ x1 ∧ x1 < (256 : Int) ∧ 
  (inR (s0 + (ar 182 (bOr x1 (bShl 1 x4)).toNat)) ∧ inR (ar 182 x1.toNat) ∧ 
  ((s0 + (ar 182 (bOr x1 (bShl 1 x4)).toNat)) ≠ (ar 182 x1.toNat) → (Ev 2 M_Md_leastRow (28, [some (vO 11), some (vI x1), some (vI x2), some (vI x3), some (vI (x4 + (-1)))], [], (sc, ar)) Q)) ∧ 
  (¬ ((s0 + (ar 182 (bOr x1 (bShl 1 x4)).toNat)) ≠ (ar 182 x1.toNat)) → (Ev 2 M_Md_leastRow (28, [some (vO 11), some (vI x1), some (vI x2), some (vI x4), some (vI (x4 + (-1)))], [], (sc, ar)) Q))))) :
  Ev 2 M_Md_leastRow (49, [some (vO 11), some (vI x1), some (vI x2), some (vI x3), some (vI x4)], [vI s0], (sc, ar)) Q :=
  wq_ok 200 _ _ [(4, 1), (9, 3), (28, 5), (49, 5)] _ _ _ _ _ (show (cO 11 = 9) ∧ ((aK 182 = 0 ∧ (0 : Int) ≤ (bOr x1 (bShl 1 x4)) ∧ (bOr x1 (bShl 1 x4)) < (256 : Int)) ∧ ((cO 11 = 9) ∧ ((aK 182 = 0 ∧ (0 : Int) ≤ x1 ∧ x1 < (256 : Int)) ∧ ((inR (s0 + (ar 182 (bOr x1 (bShl 1 x4)).toNat)) ∧ inR (ar 182 x1.toNat)) ∧ ((s0 + (ar 182 (bOr x1 (bShl 1 x4)).toNat)) ≠ (ar 182 x1.toNat) → (Ev 2 M_Md_leastRow (28, [some (vO 11), some (vI x1), some (vI x2), some (vI x3), some (vI (x4 + (-1)))], [], (sc, ar)) Q)) ∧ (¬ ((s0 + (ar 182 (bOr x1 (bShl 1 x4)).toNat)) ≠ (ar 182 x1.toNat)) → (Ev 2 M_Md_leastRow (28, [some (vO 11), some (vI x1), some (vI x2), some (vI x4), some (vI (x4 + (-1)))], [], (sc, ar)) Q)))))) from ⟨(by decide), ⟨⟨(by decide), k.1, k.2.1⟩, ⟨(by decide), ⟨⟨(by decide), k.2.2.1, k.2.2.2.1⟩, ⟨⟨k.2.2.2.2.1, k.2.2.2.2.2.1⟩, fun c1 => (k.2.2.2.2.2.2.1 c1), fun c1 => (k.2.2.2.2.2.2.2 c1)⟩⟩⟩⟩⟩)
theorem sg_Md_least_0 {sc : Nat → Int} {ar : Nat → Nat → Int} {Q : Option mV → mH → Prop} (k : Ev 1 M_Md_leastOf (0, [some (vO 11), none, none, none, none], [], ((up sc 176 0), ar)) (fun r1 h1 => Ev 2 M_Md_least (9, [some (vO 11)], mPush r1 [], h1) Q)) :
  Ev 2 M_Md_least (0, [some (vO 11)], [], (sc, ar)) Q :=
  wq_ok 200 _ _ [(9, 1)] _ _ _ _ _ (show (cO 11 = 9) ∧ ((cO 11 = mK M_Md_leastOf) ∧ (Ev 1 M_Md_leastOf (0, [some (vO 11), none, none, none, none], [], ((up sc 176 0), ar)) (fun r1 h1 => Ev 2 M_Md_least (9, [some (vO 11)], mPush r1 [], h1) Q))) from ⟨(by decide), ⟨(by decide), k⟩⟩)
theorem sg_Md_least_9 {sc : Nat → Int} {ar : Nat → Nat → Int} {s0 : Int} {Q : Option mV → mH → Prop} (k : Q (some (vI s0)) (sc, ar)) :
  Ev 2 M_Md_least (9, [some (vO 11)], [vI s0], (sc, ar)) Q :=
  wq_ok 200 _ _ [(9, 1)] _ _ _ _ _ (show Q (some (vI s0)) (sc, ar) from k)
theorem sg_Md_leastAt_0 {sc : Nat → Int} {ar : Nat → Nat → Int} {x1 : Int} {Q : Option mV → mH → Prop} (k : inR x1 ∧ 
  (inR ((sc 177) - 1) ∧ 
  (Ev 2 M_Md_in (0, [some (vL x1), none, some (vL 0), none, some (vL ((sc 177) - 1)), none], [], ((up sc 176 0), ar)) (fun r1 h1 => Ev 3 M_Md_leastAt (18, [some (vO 11), some (vI x1)], mPush r1 [], h1) Q)))) :
  Ev 3 M_Md_leastAt (0, [some (vO 11), some (vI x1)], [], (sc, ar)) Q :=
  wq_ok 200 _ _ [(18, 2), (28, 2)] _ _ _ _ _ (show (cO 11 = 9) ∧ ((inR x1) ∧ ((cO 11 = 9) ∧ ((inR ((sc 177) - 1)) ∧ (Ev 2 M_Md_in (0, [some (vL x1), none, some (vL 0), none, some (vL ((sc 177) - 1)), none], [], ((up sc 176 0), ar)) (fun r1 h1 => Ev 3 M_Md_leastAt (18, [some (vO 11), some (vI x1)], mPush r1 [], h1) Q))))) from ⟨(by decide), ⟨k.1, ⟨(by decide), ⟨k.2.1, k.2.2⟩⟩⟩⟩)
theorem sg_Md_leastAt_18 {sc : Nat → Int} {ar : Nat → Nat → Int} {x1 s0 : Int} {Q : Option mV → mH → Prop} (k : inR s0 ∧ 
  (s0 ≠ 0 → (Ev 2 M_Md_leastRow (0, [some (vO 11), none, none, none, none], [], (sc, ar)) (fun r1 h1 => Ev 3 M_Md_leastAt (28, [some (vO 11), some (vI x1)], mPush r1 [], h1) Q))) ∧ 
  (¬ (s0 ≠ 0) → (Q (some (vI (-9))) (sc, ar)))) :
  Ev 3 M_Md_leastAt (18, [some (vO 11), some (vI x1)], [vI s0], (sc, ar)) Q :=
  wq_ok 200 _ _ [(18, 2), (28, 2)] _ _ _ _ _ (show (inR s0) ∧ (s0 ≠ 0 → ((cO 11 = mK M_Md_leastRow) ∧ (Ev 2 M_Md_leastRow (0, [some (vO 11), none, none, none, none], [], (sc, ar)) (fun r1 h1 => Ev 3 M_Md_leastAt (28, [some (vO 11), some (vI x1)], mPush r1 [], h1) Q)))) ∧ (¬ (s0 ≠ 0) → (Q (some (vI (-9))) (sc, ar))) from ⟨k.1, fun c1 => ⟨(by decide), (k.2.1 c1)⟩, fun c1 => (k.2.2 c1)⟩)
theorem sg_Md_leastAt_28 {sc : Nat → Int} {ar : Nat → Nat → Int} {x1 : Int} {Q : Option mV → mH → Prop} (k : (0 : Int) ≤ x1 ∧ x1 < (8 : Int) ∧ 
  (Q (some (vI (ar 188 x1.toNat))) (sc, ar))) :
  Ev 3 M_Md_leastAt (28, [some (vO 11), some (vI x1)], [], (sc, ar)) Q :=
  wq_ok 200 _ _ [(18, 2), (28, 2)] _ _ _ _ _ (show (cO 11 = 9) ∧ ((aK 188 = 0 ∧ (0 : Int) ≤ x1 ∧ x1 < (8 : Int)) ∧ (Q (some (vI (ar 188 x1.toNat))) (sc, ar))) from ⟨(by decide), ⟨⟨(by decide), k.1, k.2.1⟩, k.2.2⟩⟩)
theorem sg_Md_saved_0 {sc : Nat → Int} {ar : Nat → Nat → Int} {x1 x2 : Int} {Q : Option mV → mH → Prop} (k : Ev 1 M_Md_no (0, [some (vO 11), some (vI x1)], [], ((up sc 176 0), ar)) (fun r1 h1 => Ev 2 M_Md_saved (10, [some (vO 11), some (vI x1), some (vI x2), none, none, none], mPush r1 [], h1) Q)) :
  Ev 2 M_Md_saved (0, [some (vO 11), some (vI x1), some (vI x2), none, none, none], [], (sc, ar)) Q :=
  wq_ok 200 _ _ [(10, 3), (18, 3), (27, 3), (57, 5)] _ _ _ _ _ (show (cO 11 = 9) ∧ ((cO 11 = mK M_Md_no) ∧ (Ev 1 M_Md_no (0, [some (vO 11), some (vI x1)], [], ((up sc 176 0), ar)) (fun r1 h1 => Ev 2 M_Md_saved (10, [some (vO 11), some (vI x1), some (vI x2), none, none, none], mPush r1 [], h1) Q))) from ⟨(by decide), ⟨(by decide), k⟩⟩)
theorem sg_Md_saved_10 {sc : Nat → Int} {ar : Nat → Nat → Int} {x1 x2 s0 : Int} {Q : Option mV → mH → Prop} (k : inR s0 ∧ 
  (s0 ≠ 0 → (Q (some (vI (-1))) (sc, ar))) ∧ 
  (¬ (s0 ≠ 0) → (Ev 1 M_Md_no (0, [some (vO 11), some (vI x2)], [], (sc, ar)) (fun r1 h1 => Ev 2 M_Md_saved (18, [some (vO 11), some (vI x1), some (vI x2), none, none, none], mPush r1 [], h1) Q)))) :
  Ev 2 M_Md_saved (10, [some (vO 11), some (vI x1), some (vI x2), none, none, none], [vI s0], (sc, ar)) Q :=
  wq_ok 200 _ _ [(10, 3), (18, 3), (27, 3), (57, 5)] _ _ _ _ _ (show (inR s0) ∧ (s0 ≠ 0 → (Q (some (vI (-1))) (sc, ar))) ∧ (¬ (s0 ≠ 0) → ((cO 11 = mK M_Md_no) ∧ (Ev 1 M_Md_no (0, [some (vO 11), some (vI x2)], [], (sc, ar)) (fun r1 h1 => Ev 2 M_Md_saved (18, [some (vO 11), some (vI x1), some (vI x2), none, none, none], mPush r1 [], h1) Q)))) from ⟨k.1, fun c1 => (k.2.1 c1), fun c1 => ⟨(by decide), (k.2.2 c1)⟩⟩)
theorem sg_Md_saved_18 {sc : Nat → Int} {ar : Nat → Nat → Int} {x1 x2 s0 : Int} {Q : Option mV → mH → Prop} (k : inR s0 ∧ 
  (s0 = 0 → (Ev 1 M_Md_leastOf (0, [some (vO 11), none, none, none, none], [], (sc, ar)) (fun r1 h1 => Ev 2 M_Md_saved (27, [some (vO 11), some (vI x1), some (vI x2), none, none, none], mPush r1 [], h1) Q))) ∧ 
  (¬ (s0 = 0) → (Q (some (vI (-1))) (sc, ar)))) :
  Ev 2 M_Md_saved (18, [some (vO 11), some (vI x1), some (vI x2), none, none, none], [vI s0], (sc, ar)) Q :=
  wq_ok 200 _ _ [(10, 3), (18, 3), (27, 3), (57, 5)] _ _ _ _ _ (show (inR s0) ∧ (s0 = 0 → ((cO 11 = mK M_Md_leastOf) ∧ (Ev 1 M_Md_leastOf (0, [some (vO 11), none, none, none, none], [], (sc, ar)) (fun r1 h1 => Ev 2 M_Md_saved (27, [some (vO 11), some (vI x1), some (vI x2), none, none, none], mPush r1 [], h1) Q)))) ∧ (¬ (s0 = 0) → (Q (some (vI (-1))) (sc, ar))) from ⟨k.1, fun c1 => ⟨(by decide), (k.2.1 c1)⟩, fun c1 => (k.2.2 c1)⟩)
theorem sg_Md_saved_27 {sc : Nat → Int} {ar : Nat → Nat → Int} {x1 x2 s0 : Int} {Q : Option mV → mH → Prop} (k : (0 : Int) ≤ ((8 * x1) + x2) ∧ ((8 * x1) + x2) < (64 : Int) ∧ 
  ((0 : Int) ≤ ((8 * x1) + x2) ∧ ((8 * x1) + x2) < (64 : Int) ∧ 
  (Ev 1 M_Md_leastOf (0, [some (vO 11), none, none, none, none], [], (sc, (up ar 179 (up (ar 179) ((8 * x1) + x2).toNat 0)))) (fun r1 h1 => Ev 2 M_Md_saved (57, [some (vO 11), some (vI x1), some (vI x2), some (vI s0), some (vI (ar 179 ((8 * x1) + x2).toNat)), none], mPush r1 [], h1) Q)))) :
  Ev 2 M_Md_saved (27, [some (vO 11), some (vI x1), some (vI x2), none, none, none], [vI s0], (sc, ar)) Q :=
  wq_ok 200 _ _ [(10, 3), (18, 3), (27, 3), (57, 5)] _ _ _ _ _ (show (cO 11 = 9) ∧ ((aK 179 = 0 ∧ (0 : Int) ≤ ((8 * x1) + x2) ∧ ((8 * x1) + x2) < (64 : Int)) ∧ ((cO 11 = 9) ∧ ((aK 179 = 0 ∧ 179 ≠ 999 ∧ (0 : Int) ≤ ((8 * x1) + x2) ∧ ((8 * x1) + x2) < (64 : Int)) ∧ ((cO 11 = mK M_Md_leastOf) ∧ (Ev 1 M_Md_leastOf (0, [some (vO 11), none, none, none, none], [], (sc, (up ar 179 (up (ar 179) ((8 * x1) + x2).toNat 0)))) (fun r1 h1 => Ev 2 M_Md_saved (57, [some (vO 11), some (vI x1), some (vI x2), some (vI s0), some (vI (ar 179 ((8 * x1) + x2).toNat)), none], mPush r1 [], h1) Q)))))) from ⟨(by decide), ⟨⟨(by decide), k.1, k.2.1⟩, ⟨(by decide), ⟨⟨(by decide), (by decide), k.2.2.1, k.2.2.2.1⟩, ⟨(by decide), k.2.2.2.2⟩⟩⟩⟩⟩)
theorem sg_Md_saved_57 {sc : Nat → Int} {ar : Nat → Nat → Int} {x1 x2 x3 x4 s0 : Int} {Q : Option mV → mH → Prop} (k : (0 : Int) ≤ ((8 * x1) + x2) ∧ ((8 * x1) + x2) < (64 : Int) ∧ 
  (Q (some (vI (x3 - s0))) (sc, (up ar 179 (up (ar 179) ((8 * x1) + x2).toNat x4))))) :
  Ev 2 M_Md_saved (57, [some (vO 11), some (vI x1), some (vI x2), some (vI x3), some (vI x4), none], [vI s0], (sc, ar)) Q :=
  wq_ok 200 _ _ [(10, 3), (18, 3), (27, 3), (57, 5)] _ _ _ _ _ (show (cO 11 = 9) ∧ ((aK 179 = 0 ∧ 179 ≠ 999 ∧ (0 : Int) ≤ ((8 * x1) + x2) ∧ ((8 * x1) + x2) < (64 : Int)) ∧ (Q (some (vI (x3 - s0))) (sc, (up ar 179 (up (ar 179) ((8 * x1) + x2).toNat x4))))) from ⟨(by decide), ⟨⟨(by decide), (by decide), k.1, k.2.1⟩, k.2.2⟩⟩)
theorem sg_Md_at_0 {sc : Nat → Int} {ar : Nat → Nat → Int} {x1 : Int} {Q : Option mV → mH → Prop} (k : inR x1 ∧ 
  (inR ((sc 177) - 1) ∧ 
  (Ev 0 M_Md_in (0, [some (vL x1), none, some (vL 0), none, some (vL ((sc 177) - 1)), none], [], ((up sc 176 0), ar)) (fun r1 h1 => Ev 1 M_Md_at (18, [some (vO 11), some (vI x1)], mPush r1 [], h1) Q)))) :
  Ev 1 M_Md_at (0, [some (vO 11), some (vI x1)], [], (sc, ar)) Q :=
  wq_ok 200 _ _ [(18, 2)] _ _ _ _ _ (show (cO 11 = 9) ∧ ((inR x1) ∧ ((cO 11 = 9) ∧ ((inR ((sc 177) - 1)) ∧ (Ev 0 M_Md_in (0, [some (vL x1), none, some (vL 0), none, some (vL ((sc 177) - 1)), none], [], ((up sc 176 0), ar)) (fun r1 h1 => Ev 1 M_Md_at (18, [some (vO 11), some (vI x1)], mPush r1 [], h1) Q))))) from ⟨(by decide), ⟨k.1, ⟨(by decide), ⟨k.2.1, k.2.2⟩⟩⟩⟩)
theorem sg_Md_at_18 {sc : Nat → Int} {ar : Nat → Nat → Int} {x1 s0 : Int} {Q : Option mV → mH → Prop} (k : inR s0 ∧ 
  (s0 = 0 → (Q (some (vI (-9))) (sc, ar))) ∧ 
  (¬ (s0 = 0) → ((0 : Int) ≤ x1 ∧ x1 < (8 : Int) ∧ 
    (Q (some (vI (ar 181 x1.toNat))) (sc, ar))))) :
  Ev 1 M_Md_at (18, [some (vO 11), some (vI x1)], [vI s0], (sc, ar)) Q :=
  wq_ok 200 _ _ [(18, 2)] _ _ _ _ _ (show (inR s0) ∧ (s0 = 0 → (Q (some (vI (-9))) (sc, ar))) ∧ (¬ (s0 = 0) → ((cO 11 = 9) ∧ ((aK 181 = 0 ∧ (0 : Int) ≤ x1 ∧ x1 < (8 : Int)) ∧ (Q (some (vI (ar 181 x1.toNat))) (sc, ar))))) from ⟨k.1, fun c1 => (k.2.1 c1), fun c1 => ⟨(by decide), ⟨⟨(by decide), (k.2.2 c1).1, (k.2.2 c1).2.1⟩, (k.2.2 c1).2.2⟩⟩⟩)
theorem sg_Md_guessOf_0 {sc : Nat → Int} {ar : Nat → Nat → Int} {Q : Option mV → mH → Prop} (k : Ev 1 M_Md_guessOf (6, [some (vO 11), some (vI 0), some (vI 0), some (vI 0)], [], (sc, ar)) Q) :
  Ev 1 M_Md_guessOf (0, [some (vO 11), none, none, none], [], (sc, ar)) Q :=
  wq_ok 200 _ _ [(6, 4), (26, 4)] _ _ _ _ _ (show Ev 1 M_Md_guessOf (6, [some (vO 11), some (vI 0), some (vI 0), some (vI 0)], [], (sc, ar)) Q from k)
theorem sg_Md_guessOf_6 {sc : Nat → Int} {ar : Nat → Nat → Int} {x1 x2 x3 : Int} {Q : Option mV → mH → Prop} (k : inR x3 ∧ inR (sc 177) ∧ 
  ((sc 177) ≤ x3 → (Q (some (vI x1)) (sc, ar))) ∧ 
  (¬ ((sc 177) ≤ x3) → ((0 : Int) ≤ x3 ∧ x3 < (8 : Int) ∧ 
    (Ev 0 M_Md_guessed (0, [some (vO 11), some (vI (ar 181 x3.toNat)), some (vI x2), none, none], [], (sc, ar)) (fun r1 h1 => Ev 1 M_Md_guessOf (26, [some (vO 11), some (vI x1), some (vI x2), some (vI x3)], mPush r1 [vI x1], h1) Q))))) :
  Ev 1 M_Md_guessOf (6, [some (vO 11), some (vI x1), some (vI x2), some (vI x3)], [], (sc, ar)) Q :=
  wq_ok 200 _ _ [(6, 4), (26, 4)] _ _ _ _ _ (show (cO 11 = 9) ∧ ((inR x3 ∧ inR (sc 177)) ∧ ((sc 177) ≤ x3 → (Q (some (vI x1)) (sc, ar))) ∧ (¬ ((sc 177) ≤ x3) → ((cO 11 = 9) ∧ ((aK 181 = 0 ∧ (0 : Int) ≤ x3 ∧ x3 < (8 : Int)) ∧ ((cO 11 = mK M_Md_guessed) ∧ (Ev 0 M_Md_guessed (0, [some (vO 11), some (vI (ar 181 x3.toNat)), some (vI x2), none, none], [], (sc, ar)) (fun r1 h1 => Ev 1 M_Md_guessOf (26, [some (vO 11), some (vI x1), some (vI x2), some (vI x3)], mPush r1 [vI x1], h1) Q))))))) from ⟨(by decide), ⟨⟨k.1, k.2.1⟩, fun c1 => (k.2.2.1 c1), fun c1 => ⟨(by decide), ⟨⟨(by decide), (k.2.2.2 c1).1, (k.2.2.2 c1).2.1⟩, ⟨(by decide), (k.2.2.2 c1).2.2⟩⟩⟩⟩⟩)
theorem sg_Md_guessOf_26 {sc : Nat → Int} {ar : Nat → Nat → Int} {x1 x2 x3 s0 s1 : Int} {Q : Option mV → mH → Prop} (k : (0 : Int) ≤ x3 ∧ x3 < (8 : Int) ∧ 
  (Ev 1 M_Md_guessOf (6, [some (vO 11), some (vI (s1 + s0)), some (vI (bOr x2 (bShl 1 (ar 181 x3.toNat)))), some (vI (x3 + 1))], [], (sc, ar)) Q)) :
  Ev 1 M_Md_guessOf (26, [some (vO 11), some (vI x1), some (vI x2), some (vI x3)], [vI s0, vI s1], (sc, ar)) Q :=
  wq_ok 200 _ _ [(6, 4), (26, 4)] _ _ _ _ _ (show (cO 11 = 9) ∧ ((aK 181 = 0 ∧ (0 : Int) ≤ x3 ∧ x3 < (8 : Int)) ∧ (Ev 1 M_Md_guessOf (6, [some (vO 11), some (vI (s1 + s0)), some (vI (bOr x2 (bShl 1 (ar 181 x3.toNat)))), some (vI (x3 + 1))], [], (sc, ar)) Q)) from ⟨(by decide), ⟨⟨(by decide), k.1, k.2.1⟩, k.2.2⟩⟩)
theorem sg_Md_swap_0 {sc : Nat → Int} {ar : Nat → Nat → Int} {x1 x2 : Int} {Q : Option mV → mH → Prop} (k : inR x1 ∧ 
  (inR ((sc 177) - 1) ∧ 
  (Ev 1 M_Md_in (0, [some (vL x1), none, some (vL 0), none, some (vL ((sc 177) - 1)), none], [], ((up sc 176 0), ar)) (fun r1 h1 => Ev 2 M_Md_swap (18, [some (vO 11), some (vI x1), some (vI x2), none], mPush r1 [], h1) Q)))) :
  Ev 2 M_Md_swap (0, [some (vO 11), some (vI x1), some (vI x2), none], [], (sc, ar)) Q :=
  wq_ok 200 _ _ [(18, 3), (34, 3), (70, 4)] _ _ _ _ _ (show (cO 11 = 9) ∧ ((inR x1) ∧ ((cO 11 = 9) ∧ ((inR ((sc 177) - 1)) ∧ (Ev 1 M_Md_in (0, [some (vL x1), none, some (vL 0), none, some (vL ((sc 177) - 1)), none], [], ((up sc 176 0), ar)) (fun r1 h1 => Ev 2 M_Md_swap (18, [some (vO 11), some (vI x1), some (vI x2), none], mPush r1 [], h1) Q))))) from ⟨(by decide), ⟨k.1, ⟨(by decide), ⟨k.2.1, k.2.2⟩⟩⟩⟩)
theorem sg_Md_swap_18 {sc : Nat → Int} {ar : Nat → Nat → Int} {x1 x2 s0 : Int} {Q : Option mV → mH → Prop} (k : inR s0 ∧ 
  (s0 = 0 → (Q (some (vI (-2))) (sc, ar))) ∧ 
  (¬ (s0 = 0) → (inR x2 ∧ 
    (inR ((sc 177) - 1) ∧ 
    (Ev 1 M_Md_in (0, [some (vL x2), none, some (vL 0), none, some (vL ((sc 177) - 1)), none], [], (sc, ar)) (fun r1 h1 => Ev 2 M_Md_swap (34, [some (vO 11), some (vI x1), some (vI x2), none], mPush r1 [], h1) Q)))))) :
  Ev 2 M_Md_swap (18, [some (vO 11), some (vI x1), some (vI x2), none], [vI s0], (sc, ar)) Q :=
  wq_ok 200 _ _ [(18, 3), (34, 3), (70, 4)] _ _ _ _ _ (show (inR s0) ∧ (s0 = 0 → (Q (some (vI (-2))) (sc, ar))) ∧ (¬ (s0 = 0) → ((inR x2) ∧ ((cO 11 = 9) ∧ ((inR ((sc 177) - 1)) ∧ (Ev 1 M_Md_in (0, [some (vL x2), none, some (vL 0), none, some (vL ((sc 177) - 1)), none], [], (sc, ar)) (fun r1 h1 => Ev 2 M_Md_swap (34, [some (vO 11), some (vI x1), some (vI x2), none], mPush r1 [], h1) Q)))))) from ⟨k.1, fun c1 => (k.2.1 c1), fun c1 => ⟨(k.2.2 c1).1, ⟨(by decide), ⟨(k.2.2 c1).2.1, (k.2.2 c1).2.2⟩⟩⟩⟩)
theorem sg_Md_swap_34 {sc : Nat → Int} {ar : Nat → Nat → Int} {x1 x2 s0 : Int} {Q : Option mV → mH → Prop} (k : inR s0 ∧ 
  (s0 ≠ 0 → ((0 : Int) ≤ x1 ∧ x1 < (8 : Int) ∧ 
    ((0 : Int) ≤ x2 ∧ x2 < (8 : Int) ∧ 
    ((0 : Int) ≤ x1 ∧ x1 < (8 : Int) ∧ 
    ((0 : Int) ≤ x2 ∧ x2 < (8 : Int) ∧ 
    (Ev 1 M_Md_guessOf (0, [some (vO 11), none, none, none], [], (sc, (up (up ar 181 (up (ar 181) x1.toNat (ar 181 x2.toNat))) 181 (up (up (ar 181) x1.toNat (ar 181 x2.toNat)) x2.toNat (ar 181 x1.toNat))))) (fun r1 h1 => Ev 2 M_Md_swap (70, [some (vO 11), some (vI x1), some (vI x2), some (vI (ar 181 x1.toNat))], mPush r1 [], h1) Q))))))) ∧ 
  (¬ (s0 ≠ 0) → (Q (some (vI (-2))) (sc, ar)))) :
  Ev 2 M_Md_swap (34, [some (vO 11), some (vI x1), some (vI x2), none], [vI s0], (sc, ar)) Q :=
  wq_ok 200 _ _ [(18, 3), (34, 3), (70, 4)] _ _ _ _ _ (show (inR s0) ∧ (s0 ≠ 0 → ((cO 11 = 9) ∧ ((aK 181 = 0 ∧ (0 : Int) ≤ x1 ∧ x1 < (8 : Int)) ∧ ((cO 11 = 9) ∧ ((cO 11 = 9) ∧ ((aK 181 = 0 ∧ (0 : Int) ≤ x2 ∧ x2 < (8 : Int)) ∧ ((aK 181 = 0 ∧ 181 ≠ 999 ∧ (0 : Int) ≤ x1 ∧ x1 < (8 : Int)) ∧ ((cO 11 = 9) ∧ ((aK 181 = 0 ∧ 181 ≠ 999 ∧ (0 : Int) ≤ x2 ∧ x2 < (8 : Int)) ∧ ((cO 11 = mK M_Md_guessOf) ∧ (Ev 1 M_Md_guessOf (0, [some (vO 11), none, none, none], [], (sc, (up (up ar 181 (up (ar 181) x1.toNat (ar 181 x2.toNat))) 181 (up (up (ar 181) x1.toNat (ar 181 x2.toNat)) x2.toNat (ar 181 x1.toNat))))) (fun r1 h1 => Ev 2 M_Md_swap (70, [some (vO 11), some (vI x1), some (vI x2), some (vI (ar 181 x1.toNat))], mPush r1 [], h1) Q)))))))))))) ∧ (¬ (s0 ≠ 0) → (Q (some (vI (-2))) (sc, ar))) from ⟨k.1, fun c1 => ⟨(by decide), ⟨⟨(by decide), (k.2.1 c1).1, (k.2.1 c1).2.1⟩, ⟨(by decide), ⟨(by decide), ⟨⟨(by decide), (k.2.1 c1).2.2.1, (k.2.1 c1).2.2.2.1⟩, ⟨⟨(by decide), (by decide), (k.2.1 c1).2.2.2.2.1, (k.2.1 c1).2.2.2.2.2.1⟩, ⟨(by decide), ⟨⟨(by decide), (by decide), (k.2.1 c1).2.2.2.2.2.2.1, (k.2.1 c1).2.2.2.2.2.2.2.1⟩, ⟨(by decide), (k.2.1 c1).2.2.2.2.2.2.2.2⟩⟩⟩⟩⟩⟩⟩⟩⟩, fun c1 => (k.2.2 c1)⟩)
theorem sg_Md_swap_70 {sc : Nat → Int} {ar : Nat → Nat → Int} {x1 x2 x3 s0 : Int} {Q : Option mV → mH → Prop} (k : Q (some (vI s0)) (sc, ar)) :
  Ev 2 M_Md_swap (70, [some (vO 11), some (vI x1), some (vI x2), some (vI x3)], [vI s0], (sc, ar)) Q :=
  wq_ok 200 _ _ [(18, 3), (34, 3), (70, 4)] _ _ _ _ _ (show Q (some (vI s0)) (sc, ar) from k)
theorem sg_Md_take_0 {sc : Nat → Int} {ar : Nat → Nat → Int} {Q : Option mV → mH → Prop} (k : Ev 2 M_Md_leastRow (0, [some (vO 11), none, none, none, none], [], ((up sc 176 0), ar)) (fun r1 h1 => Ev 3 M_Md_take (9, [some (vO 11), none], mPush r1 [], h1) Q)) :
  Ev 3 M_Md_take (0, [some (vO 11), none], [], (sc, ar)) Q :=
  wq_ok 200 _ _ [(9, 1), (11, 2), (41, 2)] _ _ _ _ _ (show (cO 11 = 9) ∧ ((cO 11 = mK M_Md_leastRow) ∧ (Ev 2 M_Md_leastRow (0, [some (vO 11), none, none, none, none], [], ((up sc 176 0), ar)) (fun r1 h1 => Ev 3 M_Md_take (9, [some (vO 11), none], mPush r1 [], h1) Q))) from ⟨(by decide), ⟨(by decide), k⟩⟩)
theorem sg_Md_take_9 {sc : Nat → Int} {ar : Nat → Nat → Int} {Q : Option mV → mH → Prop} (k : Ev 3 M_Md_take (11, [some (vO 11), some (vI 0)], [], (sc, ar)) Q) :
  Ev 3 M_Md_take (9, [some (vO 11), none], [], (sc, ar)) Q :=
  wq_ok 200 _ _ [(9, 1), (11, 2), (41, 2)] _ _ _ _ _ (show Ev 3 M_Md_take (11, [some (vO 11), some (vI 0)], [], (sc, ar)) Q from k)
theorem sg_Md_take_11 {sc : Nat → Int} {ar : Nat → Nat → Int} {x1 : Int} {Q : Option mV → mH → Prop} (k : inR x1 ∧ inR (sc 177) ∧ 
  ((sc 177) ≤ x1 → (Ev 2 M_Md_guessOf (0, [some (vO 11), none, none, none], [], (sc, ar)) (fun r1 h1 => Ev 3 M_Md_take (41, [some (vO 11), some (vI x1)], mPush r1 [], h1) Q))) ∧ 
  (¬ ((sc 177) ≤ x1) → ((0 : Int) ≤ x1 ∧ x1 < (8 : Int) ∧ 
    ((0 : Int) ≤ x1 ∧ x1 < (8 : Int) ∧ 
    (Ev 3 M_Md_take (11, [some (vO 11), some (vI (x1 + 1))], [], (sc, (up ar 181 (up (ar 181) x1.toNat (ar 188 x1.toNat))))) Q))))) :
  Ev 3 M_Md_take (11, [some (vO 11), some (vI x1)], [], (sc, ar)) Q :=
  wq_ok 200 _ _ [(9, 1), (11, 2), (41, 2)] _ _ _ _ _ (show (cO 11 = 9) ∧ ((inR x1 ∧ inR (sc 177)) ∧ ((sc 177) ≤ x1 → ((cO 11 = mK M_Md_guessOf) ∧ (Ev 2 M_Md_guessOf (0, [some (vO 11), none, none, none], [], (sc, ar)) (fun r1 h1 => Ev 3 M_Md_take (41, [some (vO 11), some (vI x1)], mPush r1 [], h1) Q)))) ∧ (¬ ((sc 177) ≤ x1) → ((cO 11 = 9) ∧ ((cO 11 = 9) ∧ ((aK 188 = 0 ∧ (0 : Int) ≤ x1 ∧ x1 < (8 : Int)) ∧ ((aK 181 = 0 ∧ 181 ≠ 999 ∧ (0 : Int) ≤ x1 ∧ x1 < (8 : Int)) ∧ (Ev 3 M_Md_take (11, [some (vO 11), some (vI (x1 + 1))], [], (sc, (up ar 181 (up (ar 181) x1.toNat (ar 188 x1.toNat))))) Q))))))) from ⟨(by decide), ⟨⟨k.1, k.2.1⟩, fun c1 => ⟨(by decide), (k.2.2.1 c1)⟩, fun c1 => ⟨(by decide), ⟨(by decide), ⟨⟨(by decide), (k.2.2.2 c1).1, (k.2.2.2 c1).2.1⟩, ⟨⟨(by decide), (by decide), (k.2.2.2 c1).2.2.1, (k.2.2.2 c1).2.2.2.1⟩, (k.2.2.2 c1).2.2.2.2⟩⟩⟩⟩⟩⟩)
theorem sg_Md_take_41 {sc : Nat → Int} {ar : Nat → Nat → Int} {x1 s0 : Int} {Q : Option mV → mH → Prop} (k : Q (some (vI s0)) (sc, ar)) :
  Ev 3 M_Md_take (41, [some (vO 11), some (vI x1)], [vI s0], (sc, ar)) Q :=
  wq_ok 200 _ _ [(9, 1), (11, 2), (41, 2)] _ _ _ _ _ (show Q (some (vI s0)) (sc, ar) from k)
theorem sg_Md_guess_0 {sc : Nat → Int} {ar : Nat → Nat → Int} {Q : Option mV → mH → Prop} (k : Ev 1 M_Md_guessOf (0, [some (vO 11), none, none, none], [], ((up sc 176 0), ar)) (fun r1 h1 => Ev 2 M_Md_guess (9, [some (vO 11)], mPush r1 [], h1) Q)) :
  Ev 2 M_Md_guess (0, [some (vO 11)], [], (sc, ar)) Q :=
  wq_ok 200 _ _ [(9, 1)] _ _ _ _ _ (show (cO 11 = 9) ∧ ((cO 11 = mK M_Md_guessOf) ∧ (Ev 1 M_Md_guessOf (0, [some (vO 11), none, none, none], [], ((up sc 176 0), ar)) (fun r1 h1 => Ev 2 M_Md_guess (9, [some (vO 11)], mPush r1 [], h1) Q))) from ⟨(by decide), ⟨(by decide), k⟩⟩)
theorem sg_Md_guess_9 {sc : Nat → Int} {ar : Nat → Nat → Int} {s0 : Int} {Q : Option mV → mH → Prop} (k : Q (some (vI s0)) (sc, ar)) :
  Ev 2 M_Md_guess (9, [some (vO 11)], [vI s0], (sc, ar)) Q :=
  wq_ok 200 _ _ [(9, 1)] _ _ _ _ _ (show Q (some (vI s0)) (sc, ar) from k)
theorem sg_Md_placeOf_0 {sc : Nat → Int} {ar : Nat → Nat → Int} {x1 : Int} {Q : Option mV → mH → Prop} (k : Ev 0 M_Md_placeOf (4, [some (vO 11), some (vI x1), some (vI 0), some (vI 0)], [], (sc, ar)) Q) :
  Ev 0 M_Md_placeOf (0, [some (vO 11), some (vI x1), none, none], [], (sc, ar)) Q :=
  wq_ok 200 _ _ [(4, 4)] _ _ _ _ _ (show Ev 0 M_Md_placeOf (4, [some (vO 11), some (vI x1), some (vI 0), some (vI 0)], [], (sc, ar)) Q from k)
theorem sg_Md_placeOf_4 {sc : Nat → Int} {ar : Nat → Nat → Int} {x1 x2 x3 : Int} {Q : Option mV → mH → Prop} (k : inR x3 ∧ inR (sc 177) ∧ 
  ((sc 177) ≤ x3 → (Q (some (vI x2)) (sc, ar))) ∧ 
  (¬ ((sc 177) ≤ x3) → ((0 : Int) ≤ x3 ∧ x3 < (8 : Int) ∧ 
    (inR (ar 181 x3.toNat) ∧ inR x1 ∧ 
    ((ar 181 x3.toNat) ≠ x1 → (Ev 0 M_Md_placeOf (4, [some (vO 11), some (vI x1), some (vI x2), some (vI (x3 + 1))], [], (sc, ar)) Q)) ∧ 
    (¬ ((ar 181 x3.toNat) ≠ x1) → (Ev 0 M_Md_placeOf (4, [some (vO 11), some (vI x1), some (vI x3), some (vI (x3 + 1))], [], (sc, ar)) Q)))))) :
  Ev 0 M_Md_placeOf (4, [some (vO 11), some (vI x1), some (vI x2), some (vI x3)], [], (sc, ar)) Q :=
  wq_ok 200 _ _ [(4, 4)] _ _ _ _ _ (show (cO 11 = 9) ∧ ((inR x3 ∧ inR (sc 177)) ∧ ((sc 177) ≤ x3 → (Q (some (vI x2)) (sc, ar))) ∧ (¬ ((sc 177) ≤ x3) → ((cO 11 = 9) ∧ ((aK 181 = 0 ∧ (0 : Int) ≤ x3 ∧ x3 < (8 : Int)) ∧ ((inR (ar 181 x3.toNat) ∧ inR x1) ∧ ((ar 181 x3.toNat) ≠ x1 → (Ev 0 M_Md_placeOf (4, [some (vO 11), some (vI x1), some (vI x2), some (vI (x3 + 1))], [], (sc, ar)) Q)) ∧ (¬ ((ar 181 x3.toNat) ≠ x1) → (Ev 0 M_Md_placeOf (4, [some (vO 11), some (vI x1), some (vI x3), some (vI (x3 + 1))], [], (sc, ar)) Q))))))) from ⟨(by decide), ⟨⟨k.1, k.2.1⟩, fun c1 => (k.2.2.1 c1), fun c1 => ⟨(by decide), ⟨⟨(by decide), (k.2.2.2 c1).1, (k.2.2.2 c1).2.1⟩, ⟨⟨(k.2.2.2 c1).2.2.1, (k.2.2.2 c1).2.2.2.1⟩, fun c2 => ((k.2.2.2 c1).2.2.2.2.1 c2), fun c2 => ((k.2.2.2 c1).2.2.2.2.2 c2)⟩⟩⟩⟩⟩)
theorem sg_Md_torn_0 {sc : Nat → Int} {ar : Nat → Nat → Int} {x1 x2 : Int} {Q : Option mV → mH → Prop} (k : Ev 1 M_Md_no (0, [some (vO 11), some (vI x1)], [], ((up sc 176 0), ar)) (fun r1 h1 => Ev 2 M_Md_torn (10, [some (vO 11), some (vI x1), some (vI x2)], mPush r1 [], h1) Q)) :
  Ev 2 M_Md_torn (0, [some (vO 11), some (vI x1), some (vI x2)], [], (sc, ar)) Q :=
  wq_ok 200 _ _ [(10, 3), (18, 3), (44, 3), (49, 3)] _ _ _ _ _ (show (cO 11 = 9) ∧ ((cO 11 = mK M_Md_no) ∧ (Ev 1 M_Md_no (0, [some (vO 11), some (vI x1)], [], ((up sc 176 0), ar)) (fun r1 h1 => Ev 2 M_Md_torn (10, [some (vO 11), some (vI x1), some (vI x2)], mPush r1 [], h1) Q))) from ⟨(by decide), ⟨(by decide), k⟩⟩)
theorem sg_Md_torn_10 {sc : Nat → Int} {ar : Nat → Nat → Int} {x1 x2 s0 : Int} {Q : Option mV → mH → Prop} (k : inR s0 ∧ 
  (s0 ≠ 0 → (Q (some (vI (-1))) (sc, ar))) ∧ 
  (¬ (s0 ≠ 0) → (Ev 1 M_Md_no (0, [some (vO 11), some (vI x2)], [], (sc, ar)) (fun r1 h1 => Ev 2 M_Md_torn (18, [some (vO 11), some (vI x1), some (vI x2)], mPush r1 [], h1) Q)))) :
  Ev 2 M_Md_torn (10, [some (vO 11), some (vI x1), some (vI x2)], [vI s0], (sc, ar)) Q :=
  wq_ok 200 _ _ [(10, 3), (18, 3), (44, 3), (49, 3)] _ _ _ _ _ (show (inR s0) ∧ (s0 ≠ 0 → (Q (some (vI (-1))) (sc, ar))) ∧ (¬ (s0 ≠ 0) → ((cO 11 = mK M_Md_no) ∧ (Ev 1 M_Md_no (0, [some (vO 11), some (vI x2)], [], (sc, ar)) (fun r1 h1 => Ev 2 M_Md_torn (18, [some (vO 11), some (vI x1), some (vI x2)], mPush r1 [], h1) Q)))) from ⟨k.1, fun c1 => (k.2.1 c1), fun c1 => ⟨(by decide), (k.2.2 c1)⟩⟩)
theorem sg_Md_torn_18 {sc : Nat → Int} {ar : Nat → Nat → Int} {x1 x2 s0 : Int} {Q : Option mV → mH → Prop} (k : inR s0 ∧ 
  (s0 = 0 → ((0 : Int) ≤ ((8 * x1) + x2) ∧ ((8 * x1) + x2) < (64 : Int) ∧ 
    (inR (ar 179 ((8 * x1) + x2).toNat) ∧ 
    ((ar 179 ((8 * x1) + x2).toNat) ≤ 0 → (Q (some (vI 0)) (sc, ar))) ∧ 
    (¬ ((ar 179 ((8 * x1) + x2).toNat) ≤ 0) → (Ev 1 M_Md_placeOf (0, [some (vO 11), some (vI x2), none, none], [], (sc, ar)) (fun r1 h1 => Ev 2 M_Md_torn (44, [some (vO 11), some (vI x1), some (vI x2)], mPush r1 [], h1) Q)))))) ∧ 
  (¬ (s0 = 0) → (Q (some (vI (-1))) (sc, ar)))) :
  Ev 2 M_Md_torn (18, [some (vO 11), some (vI x1), some (vI x2)], [vI s0], (sc, ar)) Q :=
  wq_ok 200 _ _ [(10, 3), (18, 3), (44, 3), (49, 3)] _ _ _ _ _ (show (inR s0) ∧ (s0 = 0 → ((cO 11 = 9) ∧ ((aK 179 = 0 ∧ (0 : Int) ≤ ((8 * x1) + x2) ∧ ((8 * x1) + x2) < (64 : Int)) ∧ ((inR (ar 179 ((8 * x1) + x2).toNat)) ∧ ((ar 179 ((8 * x1) + x2).toNat) ≤ 0 → (Q (some (vI 0)) (sc, ar))) ∧ (¬ ((ar 179 ((8 * x1) + x2).toNat) ≤ 0) → ((cO 11 = mK M_Md_placeOf) ∧ (Ev 1 M_Md_placeOf (0, [some (vO 11), some (vI x2), none, none], [], (sc, ar)) (fun r1 h1 => Ev 2 M_Md_torn (44, [some (vO 11), some (vI x1), some (vI x2)], mPush r1 [], h1) Q)))))))) ∧ (¬ (s0 = 0) → (Q (some (vI (-1))) (sc, ar))) from ⟨k.1, fun c1 => ⟨(by decide), ⟨⟨(by decide), (k.2.1 c1).1, (k.2.1 c1).2.1⟩, ⟨(k.2.1 c1).2.2.1, fun c2 => ((k.2.1 c1).2.2.2.1 c2), fun c2 => ⟨(by decide), ((k.2.1 c1).2.2.2.2 c2)⟩⟩⟩⟩, fun c1 => (k.2.2 c1)⟩)
theorem sg_Md_torn_44 {sc : Nat → Int} {ar : Nat → Nat → Int} {x1 x2 s0 : Int} {Q : Option mV → mH → Prop} (k : Ev 1 M_Md_placeOf (0, [some (vO 11), some (vI x1), none, none], [], (sc, ar)) (fun r1 h1 => Ev 2 M_Md_torn (49, [some (vO 11), some (vI x1), some (vI x2)], mPush r1 [vI s0], h1) Q)) :
  Ev 2 M_Md_torn (44, [some (vO 11), some (vI x1), some (vI x2)], [vI s0], (sc, ar)) Q :=
  wq_ok 200 _ _ [(10, 3), (18, 3), (44, 3), (49, 3)] _ _ _ _ _ (show (cO 11 = mK M_Md_placeOf) ∧ (Ev 1 M_Md_placeOf (0, [some (vO 11), some (vI x1), none, none], [], (sc, ar)) (fun r1 h1 => Ev 2 M_Md_torn (49, [some (vO 11), some (vI x1), some (vI x2)], mPush r1 [vI s0], h1) Q)) from ⟨(by decide), k⟩)
theorem sg_Md_torn_49 {sc : Nat → Int} {ar : Nat → Nat → Int} {x1 x2 s0 s1 : Int} {Q : Option mV → mH → Prop} (k : inR s1 ∧ inR s0 ∧ 
  (s1 ≤ s0 → (Q (some (vI 0)) (sc, ar))) ∧ 
  (¬ (s1 ≤ s0) → (Q (some (vI 1)) (sc, ar)))) :
  Ev 2 M_Md_torn (49, [some (vO 11), some (vI x1), some (vI x2)], [vI s0, vI s1], (sc, ar)) Q :=
  wq_ok 200 _ _ [(10, 3), (18, 3), (44, 3), (49, 3)] _ _ _ _ _ (show (inR s1 ∧ inR s0) ∧ (s1 ≤ s0 → (Q (some (vI 0)) (sc, ar))) ∧ (¬ (s1 ≤ s0) → (Q (some (vI 1)) (sc, ar))) from ⟨⟨k.1, k.2.1⟩, fun c1 => (k.2.2.1 c1), fun c1 => (k.2.2.2 c1)⟩)
theorem sg_Md_chance_0 {sc : Nat → Int} {ar : Nat → Nat → Int} {x1 x2 x3 : Int} {Q : Option mV → mH → Prop} (k : Ev 1 M_Md_no (0, [some (vO 11), some (vI x1)], [], ((up sc 176 0), ar)) (fun r1 h1 => Ev 2 M_Md_chance (10, [some (vO 11), some (vI x1), some (vI x2), some (vI x3), none, none], mPush r1 [], h1) Q)) :
  Ev 2 M_Md_chance (0, [some (vO 11), some (vI x1), some (vI x2), some (vI x3), none, none], [], (sc, ar)) Q :=
  wq_ok 200 _ _ [(10, 4), (18, 4), (32, 4), (44, 6)] _ _ _ _ _ (show (cO 11 = 9) ∧ ((cO 11 = mK M_Md_no) ∧ (Ev 1 M_Md_no (0, [some (vO 11), some (vI x1)], [], ((up sc 176 0), ar)) (fun r1 h1 => Ev 2 M_Md_chance (10, [some (vO 11), some (vI x1), some (vI x2), some (vI x3), none, none], mPush r1 [], h1) Q))) from ⟨(by decide), ⟨(by decide), k⟩⟩)
theorem sg_Md_chance_10 {sc : Nat → Int} {ar : Nat → Nat → Int} {x1 x2 x3 s0 : Int} {Q : Option mV → mH → Prop} (k : inR s0 ∧ 
  (s0 ≠ 0 → (Q (some (vI (-1))) (sc, ar))) ∧ 
  (¬ (s0 ≠ 0) → (Ev 1 M_Md_no (0, [some (vO 11), some (vI x2)], [], (sc, ar)) (fun r1 h1 => Ev 2 M_Md_chance (18, [some (vO 11), some (vI x1), some (vI x2), some (vI x3), none, none], mPush r1 [], h1) Q)))) :
  Ev 2 M_Md_chance (10, [some (vO 11), some (vI x1), some (vI x2), some (vI x3), none, none], [vI s0], (sc, ar)) Q :=
  wq_ok 200 _ _ [(10, 4), (18, 4), (32, 4), (44, 6)] _ _ _ _ _ (show (inR s0) ∧ (s0 ≠ 0 → (Q (some (vI (-1))) (sc, ar))) ∧ (¬ (s0 ≠ 0) → ((cO 11 = mK M_Md_no) ∧ (Ev 1 M_Md_no (0, [some (vO 11), some (vI x2)], [], (sc, ar)) (fun r1 h1 => Ev 2 M_Md_chance (18, [some (vO 11), some (vI x1), some (vI x2), some (vI x3), none, none], mPush r1 [], h1) Q)))) from ⟨k.1, fun c1 => (k.2.1 c1), fun c1 => ⟨(by decide), (k.2.2 c1)⟩⟩)
theorem sg_Md_chance_18 {sc : Nat → Int} {ar : Nat → Nat → Int} {x1 x2 x3 s0 : Int} {Q : Option mV → mH → Prop} (k : inR s0 ∧ 
  (s0 = 0 → (inR x3 ∧ 
    (Ev 1 M_Md_in (0, [some (vL x3), none, some (vL 0), none, some (vL 8), none], [], (sc, ar)) (fun r1 h1 => Ev 2 M_Md_chance (32, [some (vO 11), some (vI x1), some (vI x2), some (vI x3), none, none], mPush r1 [], h1) Q)))) ∧ 
  (¬ (s0 = 0) → (Q (some (vI (-1))) (sc, ar)))) :
  Ev 2 M_Md_chance (18, [some (vO 11), some (vI x1), some (vI x2), some (vI x3), none, none], [vI s0], (sc, ar)) Q :=
  wq_ok 200 _ _ [(10, 4), (18, 4), (32, 4), (44, 6)] _ _ _ _ _ (show (inR s0) ∧ (s0 = 0 → ((inR x3) ∧ (Ev 1 M_Md_in (0, [some (vL x3), none, some (vL 0), none, some (vL 8), none], [], (sc, ar)) (fun r1 h1 => Ev 2 M_Md_chance (32, [some (vO 11), some (vI x1), some (vI x2), some (vI x3), none, none], mPush r1 [], h1) Q)))) ∧ (¬ (s0 = 0) → (Q (some (vI (-1))) (sc, ar))) from ⟨k.1, fun c1 => ⟨(k.2.1 c1).1, (k.2.1 c1).2⟩, fun c1 => (k.2.2 c1)⟩)
theorem sg_Md_chance_32 {sc : Nat → Int} {ar : Nat → Nat → Int} {x1 x2 x3 s0 : Int} {Q : Option mV → mH → Prop} (k : inR s0 ∧ 
  (s0 ≠ 0 → (Ev 2 M_Md_chance (44, [some (vO 11), some (vI x1), some (vI x2), some (vI x3), some (vI x3), some (vI 0)], [], (sc, ar)) Q)) ∧ 
  (¬ (s0 ≠ 0) → (Q (some (vI (-2))) (sc, ar)))) :
  Ev 2 M_Md_chance (32, [some (vO 11), some (vI x1), some (vI x2), some (vI x3), none, none], [vI s0], (sc, ar)) Q :=
  wq_ok 200 _ _ [(10, 4), (18, 4), (32, 4), (44, 6)] _ _ _ _ _ (show (inR s0) ∧ (s0 ≠ 0 → (Ev 2 M_Md_chance (44, [some (vO 11), some (vI x1), some (vI x2), some (vI x3), some (vI x3), some (vI 0)], [], (sc, ar)) Q)) ∧ (¬ (s0 ≠ 0) → (Q (some (vI (-2))) (sc, ar))) from ⟨k.1, fun c1 => (k.2.1 c1), fun c1 => (k.2.2 c1)⟩)
theorem sg_Md_chance_44 {sc : Nat → Int} {ar : Nat → Nat → Int} {x1 x2 x3 x4 x5 : Int} {Q : Option mV → mH → Prop} (k : inR x5 ∧ 
  (8 ≤ x5 → (inR x1 ∧ inR x2 ∧ 
    (x1 = x2 → (Q (some (vI (-3))) (sc, ar))) ∧ 
    (¬ (x1 = x2) → (inR x4 ∧ 
      (x4 ≤ 8 → ((0 : Int) ≤ ((8 * x1) + x2) ∧ ((8 * x1) + x2) < (64 : Int) ∧ 
        ((0 : Int) ≤ ((8 * x1) + x2) ∧ ((8 * x1) + x2) < (64 : Int) ∧ 
        (Q (some (vI (ar 180 ((8 * x1) + x2).toNat))) (sc, (up ar 180 (up (ar 180) ((8 * x1) + x2).toNat x3))))))) ∧ 
      (¬ (x4 ≤ 8) → (Q (some (vI (-3))) (sc, ar))))))) ∧ 
  (¬ (8 ≤ x5) → (inR x5 ∧ inR x2 ∧ 
    (x5 ≠ x2 → ((0 : Int) ≤ ((8 * x1) + x5) ∧ ((8 * x1) + x5) < (64 : Int) ∧ 
      (Ev 2 M_Md_chance (44, [some (vO 11), some (vI x1), some (vI x2), some (vI x3), some (vI (x4 + (ar 180 ((8 * x1) + x5).toNat))), some (vI (x5 + 1))], [], (sc, ar)) Q))) ∧ 
    (¬ (x5 ≠ x2) → (Ev 2 M_Md_chance (44, [some (vO 11), some (vI x1), some (vI x2), some (vI x3), some (vI (x4 + 0)), some (vI (x5 + 1))], [], (sc, ar)) Q))))) :
  Ev 2 M_Md_chance (44, [some (vO 11), some (vI x1), some (vI x2), some (vI x3), some (vI x4), some (vI x5)], [], (sc, ar)) Q :=
  wq_ok 200 _ _ [(10, 4), (18, 4), (32, 4), (44, 6)] _ _ _ _ _ (show (inR x5 ∧ inR 8) ∧ (8 ≤ x5 → ((inR x1 ∧ inR x2) ∧ (x1 = x2 → (Q (some (vI (-3))) (sc, ar))) ∧ (¬ (x1 = x2) → ((inR x4 ∧ inR 8) ∧ (x4 ≤ 8 → ((cO 11 = 9) ∧ ((aK 180 = 0 ∧ (0 : Int) ≤ ((8 * x1) + x2) ∧ ((8 * x1) + x2) < (64 : Int)) ∧ ((cO 11 = 9) ∧ ((aK 180 = 0 ∧ 180 ≠ 999 ∧ (0 : Int) ≤ ((8 * x1) + x2) ∧ ((8 * x1) + x2) < (64 : Int)) ∧ (Q (some (vI (ar 180 ((8 * x1) + x2).toNat))) (sc, (up ar 180 (up (ar 180) ((8 * x1) + x2).toNat x3))))))))) ∧ (¬ (x4 ≤ 8) → (Q (some (vI (-3))) (sc, ar))))))) ∧ (¬ (8 ≤ x5) → ((inR x5 ∧ inR x2) ∧ (x5 ≠ x2 → ((cO 11 = 9) ∧ ((aK 180 = 0 ∧ (0 : Int) ≤ ((8 * x1) + x5) ∧ ((8 * x1) + x5) < (64 : Int)) ∧ (Ev 2 M_Md_chance (44, [some (vO 11), some (vI x1), some (vI x2), some (vI x3), some (vI (x4 + (ar 180 ((8 * x1) + x5).toNat))), some (vI (x5 + 1))], [], (sc, ar)) Q)))) ∧ (¬ (x5 ≠ x2) → (Ev 2 M_Md_chance (44, [some (vO 11), some (vI x1), some (vI x2), some (vI x3), some (vI (x4 + 0)), some (vI (x5 + 1))], [], (sc, ar)) Q)))) from ⟨⟨k.1, (by decide)⟩, fun c1 => ⟨⟨(k.2.1 c1).1, (k.2.1 c1).2.1⟩, fun c2 => ((k.2.1 c1).2.2.1 c2), fun c2 => ⟨⟨((k.2.1 c1).2.2.2 c2).1, (by decide)⟩, fun c3 => ⟨(by decide), ⟨⟨(by decide), (((k.2.1 c1).2.2.2 c2).2.1 c3).1, (((k.2.1 c1).2.2.2 c2).2.1 c3).2.1⟩, ⟨(by decide), ⟨⟨(by decide), (by decide), (((k.2.1 c1).2.2.2 c2).2.1 c3).2.2.1, (((k.2.1 c1).2.2.2 c2).2.1 c3).2.2.2.1⟩, (((k.2.1 c1).2.2.2 c2).2.1 c3).2.2.2.2⟩⟩⟩⟩, fun c3 => (((k.2.1 c1).2.2.2 c2).2.2 c3)⟩⟩, fun c1 => ⟨⟨(k.2.2 c1).1, (k.2.2 c1).2.1⟩, fun c4 => ⟨(by decide), ⟨⟨(by decide), ((k.2.2 c1).2.2.1 c4).1, ((k.2.2 c1).2.2.1 c4).2.1⟩, ((k.2.2 c1).2.2.1 c4).2.2⟩⟩, fun c4 => ((k.2.2 c1).2.2.2 c4)⟩⟩)
theorem sg_Md_meanOf_0 {sc : Nat → Int} {ar : Nat → Nat → Int} {x1 x2 : Int} {Q : Option mV → mH → Prop} (k : Ev 1 M_Md_meanOf (9, [some (vO 11), some (vI x1), some (vI x2), some (vI 0), none, none, none, none, none, none, none], [], (sc, (up ar 186 (up (ar 186) (0 : Int).toNat 1)))) Q) :
  Ev 1 M_Md_meanOf (0, [some (vO 11), some (vI x1), some (vI x2), none, none, none, none, none, none, none, none], [], (sc, ar)) Q :=
  wq_ok 200 _ _ [(9, 4), (72, 9), (109, 11), (200, 6), (259, 6)] _ _ _ _ _ (show (cO 11 = 9) ∧ ((aK 186 = 1 ∧ 186 ≠ 999 ∧ (0 : Int) ≤ 0 ∧ 0 < (9 : Int)) ∧ (Ev 1 M_Md_meanOf (9, [some (vO 11), some (vI x1), some (vI x2), some (vI 0), none, none, none, none, none, none, none], [], (sc, (up ar 186 (up (ar 186) (0 : Int).toNat 1)))) Q)) from ⟨(by decide), ⟨⟨(by decide), (by decide), (by decide), (by decide)⟩, k⟩⟩)
theorem sg_Md_meanOf_9 {sc : Nat → Int} {ar : Nat → Nat → Int} {x1 x2 x3 : Int} {Q : Option mV → mH → Prop} (k : inR x3 ∧ inR (sc 177) ∧ 
  ((sc 177) ≤ x3 → (Ev 1 M_Md_meanOf (200, [some (vO 11), some (vI x1), some (vI x2), some (vL 0), none, some (vI 0), none, none, none, none, none], [], (sc, ar)) Q)) ∧ 
  (¬ ((sc 177) ≤ x3) → ((0 : Int) ≤ x3 ∧ x3 < (8 : Int) ∧ 
    (inR x1 ∧ 
    (x1 ≠ (-9) → (inR x1 ∧ inR (ar 181 x3.toNat) ∧ 
      (x1 ≠ (ar 181 x3.toNat) → ((0 : Int) ≤ x3 ∧ x3 < (9 : Int) ∧ 
        (Ev 1 M_Md_meanOf (72, [some (vO 11), some (vI x1), some (vI x2), some (vI x3), some (vI (ar 181 x3.toNat)), some (vI 0), some (vL ((10 * 0) * (ar 186 x3.toNat))), none, some (vI 0), none, none], [], (sc, ar)) Q))) ∧ 
      (¬ (x1 ≠ (ar 181 x3.toNat)) → ((0 : Int) ≤ x3 ∧ x3 < (9 : Int) ∧ 
        (Ev 1 M_Md_meanOf (72, [some (vO 11), some (vI x1), some (vI x2), some (vI x3), some (vI (ar 181 x3.toNat)), some (vI 0), some (vL ((10 * 1) * (ar 186 x3.toNat))), none, some (vI 0), none, none], [], (sc, ar)) Q))))) ∧ 
    (¬ (x1 ≠ (-9)) → ((0 : Int) ≤ (ar 181 x3.toNat) ∧ (ar 181 x3.toNat) < (8 : Int) ∧ 
      (inR (ar 178 (ar 181 x3.toNat).toNat) ∧ 
      ((0 : Int) ≤ x3 ∧ x3 < (9 : Int) ∧ 
      (Ev 1 M_Md_meanOf (72, [some (vO 11), some (vI x1), some (vI x2), some (vI x3), some (vI (ar 181 x3.toNat)), some (vI 0), some (vL ((10 * (ar 178 (ar 181 x3.toNat).toNat)) * (ar 186 x3.toNat))), none, some (vI 0), none, none], [], (sc, ar)) Q))))))))) :
  Ev 1 M_Md_meanOf (9, [some (vO 11), some (vI x1), some (vI x2), some (vI x3), none, none, none, none, none, none, none], [], (sc, ar)) Q :=
  wq_ok 200 _ _ [(9, 4), (72, 9), (109, 11), (200, 6), (259, 6)] _ _ _ _ _ (show (cO 11 = 9) ∧ ((inR x3 ∧ inR (sc 177)) ∧ ((sc 177) ≤ x3 → (Ev 1 M_Md_meanOf (200, [some (vO 11), some (vI x1), some (vI x2), some (vL 0), none, some (vI 0), none, none, none, none, none], [], (sc, ar)) Q)) ∧ (¬ ((sc 177) ≤ x3) → ((cO 11 = 9) ∧ ((aK 181 = 0 ∧ (0 : Int) ≤ x3 ∧ x3 < (8 : Int)) ∧ ((inR x1 ∧ inR (-9)) ∧ (x1 ≠ (-9) → ((inR x1 ∧ inR (ar 181 x3.toNat)) ∧ (x1 ≠ (ar 181 x3.toNat) → ((inR 0) ∧ ((cO 11 = 9) ∧ ((aK 186 = 1 ∧ (0 : Int) ≤ x3 ∧ x3 < (9 : Int)) ∧ (Ev 1 M_Md_meanOf (72, [some (vO 11), some (vI x1), some (vI x2), some (vI x3), some (vI (ar 181 x3.toNat)), some (vI 0), some (vL ((10 * 0) * (ar 186 x3.toNat))), none, some (vI 0), none, none], [], (sc, ar)) Q))))) ∧ (¬ (x1 ≠ (ar 181 x3.toNat)) → ((inR 1) ∧ ((cO 11 = 9) ∧ ((aK 186 = 1 ∧ (0 : Int) ≤ x3 ∧ x3 < (9 : Int)) ∧ (Ev 1 M_Md_meanOf (72, [some (vO 11), some (vI x1), some (vI x2), some (vI x3), some (vI (ar 181 x3.toNat)), some (vI 0), some (vL ((10 * 1) * (ar 186 x3.toNat))), none, some (vI 0), none, none], [], (sc, ar)) Q))))))) ∧ (¬ (x1 ≠ (-9)) → ((cO 11 = 9) ∧ ((aK 178 = 0 ∧ (0 : Int) ≤ (ar 181 x3.toNat) ∧ (ar 181 x3.toNat) < (8 : Int)) ∧ ((inR (ar 178 (ar 181 x3.toNat).toNat)) ∧ ((cO 11 = 9) ∧ ((aK 186 = 1 ∧ (0 : Int) ≤ x3 ∧ x3 < (9 : Int)) ∧ (Ev 1 M_Md_meanOf (72, [some (vO 11), some (vI x1), some (vI x2), some (vI x3), some (vI (ar 181 x3.toNat)), some (vI 0), some (vL ((10 * (ar 178 (ar 181 x3.toNat).toNat)) * (ar 186 x3.toNat))), none, some (vI 0), none, none], [], (sc, ar)) Q)))))))))))) from ⟨(by decide), ⟨⟨k.1, k.2.1⟩, fun c1 => (k.2.2.1 c1), fun c1 => ⟨(by decide), ⟨⟨(by decide), (k.2.2.2 c1).1, (k.2.2.2 c1).2.1⟩, ⟨⟨(k.2.2.2 c1).2.2.1, (by decide)⟩, fun c2 => ⟨⟨((k.2.2.2 c1).2.2.2.1 c2).1, ((k.2.2.2 c1).2.2.2.1 c2).2.1⟩, fun c3 => ⟨(by decide), ⟨(by decide), ⟨⟨(by decide), (((k.2.2.2 c1).2.2.2.1 c2).2.2.1 c3).1, (((k.2.2.2 c1).2.2.2.1 c2).2.2.1 c3).2.1⟩, (((k.2.2.2 c1).2.2.2.1 c2).2.2.1 c3).2.2⟩⟩⟩, fun c3 => ⟨(by decide), ⟨(by decide), ⟨⟨(by decide), (((k.2.2.2 c1).2.2.2.1 c2).2.2.2 c3).1, (((k.2.2.2 c1).2.2.2.1 c2).2.2.2 c3).2.1⟩, (((k.2.2.2 c1).2.2.2.1 c2).2.2.2 c3).2.2⟩⟩⟩⟩, fun c2 => ⟨(by decide), ⟨⟨(by decide), ((k.2.2.2 c1).2.2.2.2 c2).1, ((k.2.2.2 c1).2.2.2.2 c2).2.1⟩, ⟨((k.2.2.2 c1).2.2.2.2 c2).2.2.1, ⟨(by decide), ⟨⟨(by decide), ((k.2.2.2 c1).2.2.2.2 c2).2.2.2.1, ((k.2.2.2 c1).2.2.2.2 c2).2.2.2.2.1⟩, ((k.2.2.2 c1).2.2.2.2 c2).2.2.2.2.2⟩⟩⟩⟩⟩⟩⟩⟩⟩⟩)
theorem sg_Md_meanOf_72 {sc : Nat → Int} {ar : Nat → Nat → Int} {x1 x2 x3 x4 x5 x6 x8 : Int} {Q : Option mV → mH → Prop} (k : inR x8 ∧ inR x3 ∧ 
  (x3 ≤ x8 → ((0 : Int) ≤ x3 ∧ x3 < (8 : Int) ∧ 
    ((0 : Int) ≤ x3 ∧ x3 < (9 : Int) ∧ 
    (inR (10 - x5) ∧ 
    ((0 : Int) ≤ (x3 + 1) ∧ (x3 + 1) < (9 : Int) ∧ 
    (Ev 1 M_Md_meanOf (9, [some (vO 11), some (vI x1), some (vI x2), some (vI (x3 + 1)), none, none, none, none, none, none, none], [], (sc, (up (up ar 185 (up (ar 185) x3.toNat x6)) 186 (up (ar 186) (x3 + 1).toNat ((ar 186 x3.toNat) * (10 - x5)))))) Q)))))) ∧ 
  (¬ (x3 ≤ x8) → ((0 : Int) ≤ x8 ∧ x8 < (8 : Int) ∧ 
    ((0 : Int) ≤ ((8 * x4) + (ar 181 x8.toNat)) ∧ ((8 * x4) + (ar 181 x8.toNat)) < (64 : Int) ∧ 
    (Ev 1 M_Md_meanOf (109, [some (vO 11), some (vI x1), some (vI x2), some (vI x3), some (vI x4), some (vI (x5 + (ar 180 ((8 * x4) + (ar 181 x8.toNat)).toNat))), some (vL x6), none, some (vI x8), some (vI (ar 180 ((8 * x4) + (ar 181 x8.toNat)).toNat)), some (vI x8)], [], (sc, ar)) Q))))) :
  Ev 1 M_Md_meanOf (72, [some (vO 11), some (vI x1), some (vI x2), some (vI x3), some (vI x4), some (vI x5), some (vL x6), none, some (vI x8), none, none], [], (sc, ar)) Q :=
  wq_ok 200 _ _ [(9, 4), (72, 9), (109, 11), (200, 6), (259, 6)] _ _ _ _ _ (show (inR x8 ∧ inR x3) ∧ (x3 ≤ x8 → ((cO 11 = 9) ∧ ((aK 185 = 1 ∧ 185 ≠ 999 ∧ (0 : Int) ≤ x3 ∧ x3 < (8 : Int)) ∧ ((cO 11 = 9) ∧ ((cO 11 = 9) ∧ ((aK 186 = 1 ∧ (0 : Int) ≤ x3 ∧ x3 < (9 : Int)) ∧ ((inR (10 - x5)) ∧ ((aK 186 = 1 ∧ 186 ≠ 999 ∧ (0 : Int) ≤ (x3 + 1) ∧ (x3 + 1) < (9 : Int)) ∧ (Ev 1 M_Md_meanOf (9, [some (vO 11), some (vI x1), some (vI x2), some (vI (x3 + 1)), none, none, none, none, none, none, none], [], (sc, (up (up ar 185 (up (ar 185) x3.toNat x6)) 186 (up (ar 186) (x3 + 1).toNat ((ar 186 x3.toNat) * (10 - x5)))))) Q))))))))) ∧ (¬ (x3 ≤ x8) → ((cO 11 = 9) ∧ ((cO 11 = 9) ∧ ((aK 181 = 0 ∧ (0 : Int) ≤ x8 ∧ x8 < (8 : Int)) ∧ ((aK 180 = 0 ∧ (0 : Int) ≤ ((8 * x4) + (ar 181 x8.toNat)) ∧ ((8 * x4) + (ar 181 x8.toNat)) < (64 : Int)) ∧ (Ev 1 M_Md_meanOf (109, [some (vO 11), some (vI x1), some (vI x2), some (vI x3), some (vI x4), some (vI (x5 + (ar 180 ((8 * x4) + (ar 181 x8.toNat)).toNat))), some (vL x6), none, some (vI x8), some (vI (ar 180 ((8 * x4) + (ar 181 x8.toNat)).toNat)), some (vI x8)], [], (sc, ar)) Q)))))) from ⟨⟨k.1, k.2.1⟩, fun c1 => ⟨(by decide), ⟨⟨(by decide), (by decide), (k.2.2.1 c1).1, (k.2.2.1 c1).2.1⟩, ⟨(by decide), ⟨(by decide), ⟨⟨(by decide), (k.2.2.1 c1).2.2.1, (k.2.2.1 c1).2.2.2.1⟩, ⟨(k.2.2.1 c1).2.2.2.2.1, ⟨⟨(by decide), (by decide), (k.2.2.1 c1).2.2.2.2.2.1, (k.2.2.1 c1).2.2.2.2.2.2.1⟩, (k.2.2.1 c1).2.2.2.2.2.2.2⟩⟩⟩⟩⟩⟩⟩, fun c1 => ⟨(by decide), ⟨(by decide), ⟨⟨(by decide), (k.2.2.2 c1).1, (k.2.2.2 c1).2.1⟩, ⟨⟨(by decide), (k.2.2.2 c1).2.2.1, (k.2.2.2 c1).2.2.2.1⟩, (k.2.2.2 c1).2.2.2.2⟩⟩⟩⟩⟩)
theorem sg_Md_meanOf_109 {sc : Nat → Int} {ar : Nat → Nat → Int} {x1 x2 x3 x4 x5 x6 x8 x9 x10 : Int} {Q : Option mV → mH → Prop} (k : inR x10 ∧ inR x3 ∧ 
  (x3 ≤ x10 → (Ev 1 M_Md_meanOf (72, [some (vO 11), some (vI x1), some (vI x2), some (vI x3), some (vI x4), some (vI x5), some (vL x6), none, some (vI (x8 + 1)), none, none], [], (sc, ar)) Q)) ∧ 
  (¬ (x3 ≤ x10) → (inR x9 ∧ 
    ((0 : Int) ≤ x10 ∧ x10 < (8 : Int) ∧ 
    ((0 : Int) ≤ x3 ∧ x3 < (9 : Int) ∧ 
    ((0 : Int) ≤ (x10 + 1) ∧ (x10 + 1) < (9 : Int) ∧ 
    (inL (ar 186 x3.toNat) ∧ inL (ar 186 (x10 + 1).toNat) ∧ (0 : Int) < (ar 186 (x10 + 1).toNat) ∧ 
    (Ev 1 M_Md_meanOf (109, [some (vO 11), some (vI x1), some (vI x2), some (vI x3), some (vI x4), some (vI x5), some (vL (x6 + ((x9 * (ar 185 x10.toNat)) * (Int.tdiv (ar 186 x3.toNat) (ar 186 (x10 + 1).toNat))))), none, some (vI x8), some (vI x9), some (vI (x10 + 1))], [], (sc, ar)) Q)))))))) :
  Ev 1 M_Md_meanOf (109, [some (vO 11), some (vI x1), some (vI x2), some (vI x3), some (vI x4), some (vI x5), some (vL x6), none, some (vI x8), some (vI x9), some (vI x10)], [], (sc, ar)) Q :=
  wq_ok 200 _ _ [(9, 4), (72, 9), (109, 11), (200, 6), (259, 6)] _ _ _ _ _ (show (inR x10 ∧ inR x3) ∧ (x3 ≤ x10 → (Ev 1 M_Md_meanOf (72, [some (vO 11), some (vI x1), some (vI x2), some (vI x3), some (vI x4), some (vI x5), some (vL x6), none, some (vI (x8 + 1)), none, none], [], (sc, ar)) Q)) ∧ (¬ (x3 ≤ x10) → ((inR x9) ∧ ((cO 11 = 9) ∧ ((aK 185 = 1 ∧ (0 : Int) ≤ x10 ∧ x10 < (8 : Int)) ∧ ((cO 11 = 9) ∧ ((aK 186 = 1 ∧ (0 : Int) ≤ x3 ∧ x3 < (9 : Int)) ∧ ((cO 11 = 9) ∧ ((aK 186 = 1 ∧ (0 : Int) ≤ (x10 + 1) ∧ (x10 + 1) < (9 : Int)) ∧ ((inL (ar 186 x3.toNat) ∧ inL (ar 186 (x10 + 1).toNat) ∧ (0 : Int) < (ar 186 (x10 + 1).toNat)) ∧ (Ev 1 M_Md_meanOf (109, [some (vO 11), some (vI x1), some (vI x2), some (vI x3), some (vI x4), some (vI x5), some (vL (x6 + ((x9 * (ar 185 x10.toNat)) * (Int.tdiv (ar 186 x3.toNat) (ar 186 (x10 + 1).toNat))))), none, some (vI x8), some (vI x9), some (vI (x10 + 1))], [], (sc, ar)) Q)))))))))) from ⟨⟨k.1, k.2.1⟩, fun c1 => (k.2.2.1 c1), fun c1 => ⟨(k.2.2.2 c1).1, ⟨(by decide), ⟨⟨(by decide), (k.2.2.2 c1).2.1, (k.2.2.2 c1).2.2.1⟩, ⟨(by decide), ⟨⟨(by decide), (k.2.2.2 c1).2.2.2.1, (k.2.2.2 c1).2.2.2.2.1⟩, ⟨(by decide), ⟨⟨(by decide), (k.2.2.2 c1).2.2.2.2.2.1, (k.2.2.2 c1).2.2.2.2.2.2.1⟩, ⟨⟨(k.2.2.2 c1).2.2.2.2.2.2.2.1, (k.2.2.2 c1).2.2.2.2.2.2.2.2.1, (k.2.2.2 c1).2.2.2.2.2.2.2.2.2.1⟩, (k.2.2.2 c1).2.2.2.2.2.2.2.2.2.2⟩⟩⟩⟩⟩⟩⟩⟩⟩)
theorem sg_Md_meanOf_200 {sc : Nat → Int} {ar : Nat → Nat → Int} {x1 x2 x3 x5 : Int} {Q : Option mV → mH → Prop} (k : inR x5 ∧ inR (sc 177) ∧ 
  ((sc 177) ≤ x5 → ((0 : Int) ≤ (sc 177) ∧ (sc 177) < (9 : Int) ∧ 
    (Ev 0 M_Md_told (0, [some (vL x3), none, some (vL (ar 186 (sc 177).toNat)), none, some (vI x2), none, none, none, none, none, none], [], (sc, ar)) (fun r1 h1 => Ev 1 M_Md_meanOf (259, [some (vO 11), some (vI x1), some (vI x2), some (vL x3), none, some (vI x5), none, none, none, none, none], mPush r1 [], h1) Q)))) ∧ 
  (¬ ((sc 177) ≤ x5) → ((0 : Int) ≤ x5 ∧ x5 < (8 : Int) ∧ 
    ((0 : Int) ≤ (sc 177) ∧ (sc 177) < (9 : Int) ∧ 
    ((0 : Int) ≤ (x5 + 1) ∧ (x5 + 1) < (9 : Int) ∧ 
    (inL (ar 186 (sc 177).toNat) ∧ inL (ar 186 (x5 + 1).toNat) ∧ (0 : Int) < (ar 186 (x5 + 1).toNat) ∧ 
    (Ev 1 M_Md_meanOf (200, [some (vO 11), some (vI x1), some (vI x2), some (vL (x3 + ((ar 185 x5.toNat) * (Int.tdiv (ar 186 (sc 177).toNat) (ar 186 (x5 + 1).toNat))))), none, some (vI (x5 + 1)), none, none, none, none, none], [], (sc, ar)) Q))))))) :
  Ev 1 M_Md_meanOf (200, [some (vO 11), some (vI x1), some (vI x2), some (vL x3), none, some (vI x5), none, none, none, none, none], [], (sc, ar)) Q :=
  wq_ok 200 _ _ [(9, 4), (72, 9), (109, 11), (200, 6), (259, 6)] _ _ _ _ _ (show (cO 11 = 9) ∧ ((inR x5 ∧ inR (sc 177)) ∧ ((sc 177) ≤ x5 → ((cO 11 = 9) ∧ ((cO 11 = 9) ∧ ((aK 186 = 1 ∧ (0 : Int) ≤ (sc 177) ∧ (sc 177) < (9 : Int)) ∧ (Ev 0 M_Md_told (0, [some (vL x3), none, some (vL (ar 186 (sc 177).toNat)), none, some (vI x2), none, none, none, none, none, none], [], (sc, ar)) (fun r1 h1 => Ev 1 M_Md_meanOf (259, [some (vO 11), some (vI x1), some (vI x2), some (vL x3), none, some (vI x5), none, none, none, none, none], mPush r1 [], h1) Q)))))) ∧ (¬ ((sc 177) ≤ x5) → ((cO 11 = 9) ∧ ((aK 185 = 1 ∧ (0 : Int) ≤ x5 ∧ x5 < (8 : Int)) ∧ ((cO 11 = 9) ∧ ((cO 11 = 9) ∧ ((aK 186 = 1 ∧ (0 : Int) ≤ (sc 177) ∧ (sc 177) < (9 : Int)) ∧ ((cO 11 = 9) ∧ ((aK 186 = 1 ∧ (0 : Int) ≤ (x5 + 1) ∧ (x5 + 1) < (9 : Int)) ∧ ((inL (ar 186 (sc 177).toNat) ∧ inL (ar 186 (x5 + 1).toNat) ∧ (0 : Int) < (ar 186 (x5 + 1).toNat)) ∧ (Ev 1 M_Md_meanOf (200, [some (vO 11), some (vI x1), some (vI x2), some (vL (x3 + ((ar 185 x5.toNat) * (Int.tdiv (ar 186 (sc 177).toNat) (ar 186 (x5 + 1).toNat))))), none, some (vI (x5 + 1)), none, none, none, none, none], [], (sc, ar)) Q))))))))))) from ⟨(by decide), ⟨⟨k.1, k.2.1⟩, fun c1 => ⟨(by decide), ⟨(by decide), ⟨⟨(by decide), (k.2.2.1 c1).1, (k.2.2.1 c1).2.1⟩, (k.2.2.1 c1).2.2⟩⟩⟩, fun c1 => ⟨(by decide), ⟨⟨(by decide), (k.2.2.2 c1).1, (k.2.2.2 c1).2.1⟩, ⟨(by decide), ⟨(by decide), ⟨⟨(by decide), (k.2.2.2 c1).2.2.1, (k.2.2.2 c1).2.2.2.1⟩, ⟨(by decide), ⟨⟨(by decide), (k.2.2.2 c1).2.2.2.2.1, (k.2.2.2 c1).2.2.2.2.2.1⟩, ⟨⟨(k.2.2.2 c1).2.2.2.2.2.2.1, (k.2.2.2 c1).2.2.2.2.2.2.2.1, (k.2.2.2 c1).2.2.2.2.2.2.2.2.1⟩, (k.2.2.2 c1).2.2.2.2.2.2.2.2.2⟩⟩⟩⟩⟩⟩⟩⟩⟩⟩)
theorem sg_Md_meanOf_259 {sc : Nat → Int} {ar : Nat → Nat → Int} {x1 x2 x3 x5 s0 : Int} {Q : Option mV → mH → Prop} (k : Q (some (vL s0)) (sc, ar)) :
  Ev 1 M_Md_meanOf (259, [some (vO 11), some (vI x1), some (vI x2), some (vL x3), none, some (vI x5), none, none, none, none, none], [vL s0], (sc, ar)) Q :=
  wq_ok 200 _ _ [(9, 4), (72, 9), (109, 11), (200, 6), (259, 6)] _ _ _ _ _ (show Q (some (vL s0)) (sc, ar) from k)
theorem sg_Md_mean_0 {sc : Nat → Int} {ar : Nat → Nat → Int} {x1 : Int} {Q : Option mV → mH → Prop} (k : Ev 1 M_Md_meanOf (0, [some (vO 11), some (vI (-9)), some (vI x1), none, none, none, none, none, none, none, none], [], ((up sc 176 0), ar)) (fun r1 h1 => Ev 2 M_Md_mean (12, [some (vO 11), some (vI x1)], mPush r1 [], h1) Q)) :
  Ev 2 M_Md_mean (0, [some (vO 11), some (vI x1)], [], (sc, ar)) Q :=
  wq_ok 200 _ _ [(12, 2)] _ _ _ _ _ (show (cO 11 = 9) ∧ ((cO 11 = mK M_Md_meanOf) ∧ (Ev 1 M_Md_meanOf (0, [some (vO 11), some (vI (-9)), some (vI x1), none, none, none, none, none, none, none, none], [], ((up sc 176 0), ar)) (fun r1 h1 => Ev 2 M_Md_mean (12, [some (vO 11), some (vI x1)], mPush r1 [], h1) Q))) from ⟨(by decide), ⟨(by decide), k⟩⟩)
theorem sg_Md_mean_12 {sc : Nat → Int} {ar : Nat → Nat → Int} {x1 s0 : Int} {Q : Option mV → mH → Prop} (k : Q (some (vL s0)) (sc, ar)) :
  Ev 2 M_Md_mean (12, [some (vO 11), some (vI x1)], [vL s0], (sc, ar)) Q :=
  wq_ok 200 _ _ [(12, 2)] _ _ _ _ _ (show Q (some (vL s0)) (sc, ar) from k)
theorem sg_Md_often_0 {sc : Nat → Int} {ar : Nat → Nat → Int} {x1 x2 : Int} {Q : Option mV → mH → Prop} (k : Ev 1 M_Md_no (0, [some (vO 11), some (vI x1)], [], ((up sc 176 0), ar)) (fun r1 h1 => Ev 2 M_Md_often (10, [some (vO 11), some (vI x1), some (vI x2)], mPush r1 [], h1) Q)) :
  Ev 2 M_Md_often (0, [some (vO 11), some (vI x1), some (vI x2)], [], (sc, ar)) Q :=
  wq_ok 200 _ _ [(10, 3), (25, 3)] _ _ _ _ _ (show (cO 11 = 9) ∧ ((cO 11 = mK M_Md_no) ∧ (Ev 1 M_Md_no (0, [some (vO 11), some (vI x1)], [], ((up sc 176 0), ar)) (fun r1 h1 => Ev 2 M_Md_often (10, [some (vO 11), some (vI x1), some (vI x2)], mPush r1 [], h1) Q))) from ⟨(by decide), ⟨(by decide), k⟩⟩)
theorem sg_Md_often_10 {sc : Nat → Int} {ar : Nat → Nat → Int} {x1 x2 s0 : Int} {Q : Option mV → mH → Prop} (k : inR s0 ∧ 
  (s0 = 0 → (Ev 1 M_Md_meanOf (0, [some (vO 11), some (vI x1), some (vI x2), none, none, none, none, none, none, none, none], [], (sc, ar)) (fun r1 h1 => Ev 2 M_Md_often (25, [some (vO 11), some (vI x1), some (vI x2)], mPush r1 [], h1) Q))) ∧ 
  (¬ (s0 = 0) → (Ev 2 M_Md_often (25, [some (vO 11), some (vI x1), some (vI x2)], [vL (-1)], (sc, ar)) Q))) :
  Ev 2 M_Md_often (10, [some (vO 11), some (vI x1), some (vI x2)], [vI s0], (sc, ar)) Q :=
  wq_ok 200 _ _ [(10, 3), (25, 3)] _ _ _ _ _ (show (inR s0) ∧ (s0 = 0 → ((cO 11 = mK M_Md_meanOf) ∧ (Ev 1 M_Md_meanOf (0, [some (vO 11), some (vI x1), some (vI x2), none, none, none, none, none, none, none, none], [], (sc, ar)) (fun r1 h1 => Ev 2 M_Md_often (25, [some (vO 11), some (vI x1), some (vI x2)], mPush r1 [], h1) Q)))) ∧ (¬ (s0 = 0) → (Ev 2 M_Md_often (25, [some (vO 11), some (vI x1), some (vI x2)], [vL (-1)], (sc, ar)) Q)) from ⟨k.1, fun c1 => ⟨(by decide), (k.2.1 c1)⟩, fun c1 => (k.2.2 c1)⟩)
theorem sg_Md_often_25 {sc : Nat → Int} {ar : Nat → Nat → Int} {x1 x2 s0 : Int} {Q : Option mV → mH → Prop} (k : Q (some (vL s0)) (sc, ar)) :
  Ev 2 M_Md_often (25, [some (vO 11), some (vI x1), some (vI x2)], [vL s0], (sc, ar)) Q :=
  wq_ok 200 _ _ [(10, 3), (25, 3)] _ _ _ _ _ (show Q (some (vL s0)) (sc, ar) from k)
theorem sg_Md_beside_0 {sc : Nat → Int} {ar : Nat → Nat → Int} {Q : Option mV → mH → Prop} (k : Ev 0 M_Md_beside (4, [some (vO 11), some (vI 0), some (vI 0), none, none, none], [], (sc, ar)) Q) :
  Ev 0 M_Md_beside (0, [some (vO 11), none, none, none, none, none], [], (sc, ar)) Q :=
  wq_ok 200 _ _ [(4, 3), (25, 6)] _ _ _ _ _ (show Ev 0 M_Md_beside (4, [some (vO 11), some (vI 0), some (vI 0), none, none, none], [], (sc, ar)) Q from k)
theorem sg_Md_beside_4 {sc : Nat → Int} {ar : Nat → Nat → Int} {x1 x2 : Int} {Q : Option mV → mH → Prop} (k : inR x2 ∧ inR (sc 177) ∧ 
  ((sc 177) ≤ x2 → (Q (some (vI x1)) (sc, ar))) ∧ 
  (¬ ((sc 177) ≤ x2) → ((0 : Int) ≤ x2 ∧ x2 < (8 : Int) ∧ 
    (Ev 0 M_Md_beside (25, [some (vO 11), some (vI x1), some (vI x2), some (vI (ar 181 x2.toNat)), some (vI 0), some (vI 0)], [], (sc, ar)) Q)))) :
  Ev 0 M_Md_beside (4, [some (vO 11), some (vI x1), some (vI x2), none, none, none], [], (sc, ar)) Q :=
  wq_ok 200 _ _ [(4, 3), (25, 6)] _ _ _ _ _ (show (cO 11 = 9) ∧ ((inR x2 ∧ inR (sc 177)) ∧ ((sc 177) ≤ x2 → (Q (some (vI x1)) (sc, ar))) ∧ (¬ ((sc 177) ≤ x2) → ((cO 11 = 9) ∧ ((aK 181 = 0 ∧ (0 : Int) ≤ x2 ∧ x2 < (8 : Int)) ∧ (Ev 0 M_Md_beside (25, [some (vO 11), some (vI x1), some (vI x2), some (vI (ar 181 x2.toNat)), some (vI 0), some (vI 0)], [], (sc, ar)) Q))))) from ⟨(by decide), ⟨⟨k.1, k.2.1⟩, fun c1 => (k.2.2.1 c1), fun c1 => ⟨(by decide), ⟨⟨(by decide), (k.2.2.2 c1).1, (k.2.2.2 c1).2.1⟩, (k.2.2.2 c1).2.2⟩⟩⟩⟩)
theorem sg_Md_beside_25 {sc : Nat → Int} {ar : Nat → Nat → Int} {x1 x2 x3 x4 x5 : Int} {Q : Option mV → mH → Prop} (k : inR x5 ∧ inR x2 ∧ 
  (x2 ≤ x5 → ((0 : Int) ≤ x3 ∧ x3 < (8 : Int) ∧ 
    ((0 : Int) ≤ x3 ∧ x3 < (8 : Int) ∧ 
    ((0 : Int) ≤ x3 ∧ x3 < (8 : Int) ∧ 
    (inR ((up (ar 187) x3.toNat (x4 + (ar 178 x3.toNat))) x3.toNat) ∧ inR x1 ∧ 
    (((up (ar 187) x3.toNat (x4 + (ar 178 x3.toNat))) x3.toNat) ≤ x1 → (Ev 0 M_Md_beside (4, [some (vO 11), some (vI x1), some (vI (x2 + 1)), none, none, none], [], (sc, (up ar 187 (up (ar 187) x3.toNat (x4 + (ar 178 x3.toNat)))))) Q)) ∧ 
    (¬ (((up (ar 187) x3.toNat (x4 + (ar 178 x3.toNat))) x3.toNat) ≤ x1) → ((0 : Int) ≤ x3 ∧ x3 < (8 : Int) ∧ 
      (Ev 0 M_Md_beside (4, [some (vO 11), some (vI ((up (ar 187) x3.toNat (x4 + (ar 178 x3.toNat))) x3.toNat)), some (vI (x2 + 1)), none, none, none], [], (sc, (up ar 187 (up (ar 187) x3.toNat (x4 + (ar 178 x3.toNat)))))) Q)))))))) ∧ 
  (¬ (x2 ≤ x5) → ((0 : Int) ≤ x5 ∧ x5 < (8 : Int) ∧ 
    ((0 : Int) ≤ ((8 * x3) + (ar 181 x5.toNat)) ∧ ((8 * x3) + (ar 181 x5.toNat)) < (64 : Int) ∧ 
    (inR (ar 179 ((8 * x3) + (ar 181 x5.toNat)).toNat) ∧ 
    ((ar 179 ((8 * x3) + (ar 181 x5.toNat)).toNat) ≤ 0 → (Ev 0 M_Md_beside (25, [some (vO 11), some (vI x1), some (vI x2), some (vI x3), some (vI x4), some (vI (x5 + 1))], [], (sc, ar)) Q)) ∧ 
    (¬ ((ar 179 ((8 * x3) + (ar 181 x5.toNat)).toNat) ≤ 0) → ((0 : Int) ≤ x5 ∧ x5 < (8 : Int) ∧ 
      ((0 : Int) ≤ (ar 181 x5.toNat) ∧ (ar 181 x5.toNat) < (8 : Int) ∧ 
      (inR (ar 187 (ar 181 x5.toNat).toNat) ∧ inR x4 ∧ 
      ((ar 187 (ar 181 x5.toNat).toNat) ≤ x4 → (Ev 0 M_Md_beside (25, [some (vO 11), some (vI x1), some (vI x2), some (vI x3), some (vI x4), some (vI (x5 + 1))], [], (sc, ar)) Q)) ∧ 
      (¬ ((ar 187 (ar 181 x5.toNat).toNat) ≤ x4) → ((0 : Int) ≤ x5 ∧ x5 < (8 : Int) ∧ 
        ((0 : Int) ≤ (ar 181 x5.toNat) ∧ (ar 181 x5.toNat) < (8 : Int) ∧ 
        (Ev 0 M_Md_beside (25, [some (vO 11), some (vI x1), some (vI x2), some (vI x3), some (vI (ar 187 (ar 181 x5.toNat).toNat)), some (vI (x5 + 1))], [], (sc, ar)) Q))))))))))))) :
  Ev 0 M_Md_beside (25, [some (vO 11), some (vI x1), some (vI x2), some (vI x3), some (vI x4), some (vI x5)], [], (sc, ar)) Q :=
  wq_ok 200 _ _ [(4, 3), (25, 6)] _ _ _ _ _ (show (inR x5 ∧ inR x2) ∧ (x2 ≤ x5 → ((cO 11 = 9) ∧ ((cO 11 = 9) ∧ ((aK 178 = 0 ∧ (0 : Int) ≤ x3 ∧ x3 < (8 : Int)) ∧ ((aK 187 = 0 ∧ 187 ≠ 999 ∧ (0 : Int) ≤ x3 ∧ x3 < (8 : Int)) ∧ ((cO 11 = 9) ∧ ((aK 187 = 0 ∧ (0 : Int) ≤ x3 ∧ x3 < (8 : Int)) ∧ ((inR ((up (ar 187) x3.toNat (x4 + (ar 178 x3.toNat))) x3.toNat) ∧ inR x1) ∧ (((up (ar 187) x3.toNat (x4 + (ar 178 x3.toNat))) x3.toNat) ≤ x1 → (Ev 0 M_Md_beside (4, [some (vO 11), some (vI x1), some (vI (x2 + 1)), none, none, none], [], (sc, (up ar 187 (up (ar 187) x3.toNat (x4 + (ar 178 x3.toNat)))))) Q)) ∧ (¬ (((up (ar 187) x3.toNat (x4 + (ar 178 x3.toNat))) x3.toNat) ≤ x1) → ((cO 11 = 9) ∧ ((aK 187 = 0 ∧ (0 : Int) ≤ x3 ∧ x3 < (8 : Int)) ∧ (Ev 0 M_Md_beside (4, [some (vO 11), some (vI ((up (ar 187) x3.toNat (x4 + (ar 178 x3.toNat))) x3.toNat)), some (vI (x2 + 1)), none, none, none], [], (sc, (up ar 187 (up (ar 187) x3.toNat (x4 + (ar 178 x3.toNat)))))) Q)))))))))))) ∧ (¬ (x2 ≤ x5) → ((cO 11 = 9) ∧ ((cO 11 = 9) ∧ ((aK 181 = 0 ∧ (0 : Int) ≤ x5 ∧ x5 < (8 : Int)) ∧ ((aK 179 = 0 ∧ (0 : Int) ≤ ((8 * x3) + (ar 181 x5.toNat)) ∧ ((8 * x3) + (ar 181 x5.toNat)) < (64 : Int)) ∧ ((inR (ar 179 ((8 * x3) + (ar 181 x5.toNat)).toNat)) ∧ ((ar 179 ((8 * x3) + (ar 181 x5.toNat)).toNat) ≤ 0 → (Ev 0 M_Md_beside (25, [some (vO 11), some (vI x1), some (vI x2), some (vI x3), some (vI x4), some (vI (x5 + 1))], [], (sc, ar)) Q)) ∧ (¬ ((ar 179 ((8 * x3) + (ar 181 x5.toNat)).toNat) ≤ 0) → ((cO 11 = 9) ∧ ((cO 11 = 9) ∧ ((aK 181 = 0 ∧ (0 : Int) ≤ x5 ∧ x5 < (8 : Int)) ∧ ((aK 187 = 0 ∧ (0 : Int) ≤ (ar 181 x5.toNat) ∧ (ar 181 x5.toNat) < (8 : Int)) ∧ ((inR (ar 187 (ar 181 x5.toNat).toNat) ∧ inR x4) ∧ ((ar 187 (ar 181 x5.toNat).toNat) ≤ x4 → (Ev 0 M_Md_beside (25, [some (vO 11), some (vI x1), some (vI x2), some (vI x3), some (vI x4), some (vI (x5 + 1))], [], (sc, ar)) Q)) ∧ (¬ ((ar 187 (ar 181 x5.toNat).toNat) ≤ x4) → ((cO 11 = 9) ∧ ((cO 11 = 9) ∧ ((aK 181 = 0 ∧ (0 : Int) ≤ x5 ∧ x5 < (8 : Int)) ∧ ((aK 187 = 0 ∧ (0 : Int) ≤ (ar 181 x5.toNat) ∧ (ar 181 x5.toNat) < (8 : Int)) ∧ (Ev 0 M_Md_beside (25, [some (vO 11), some (vI x1), some (vI x2), some (vI x3), some (vI (ar 187 (ar 181 x5.toNat).toNat)), some (vI (x5 + 1))], [], (sc, ar)) Q)))))))))))))))))) from ⟨⟨k.1, k.2.1⟩, fun c1 => ⟨(by decide), ⟨(by decide), ⟨⟨(by decide), (k.2.2.1 c1).1, (k.2.2.1 c1).2.1⟩, ⟨⟨(by decide), (by decide), (k.2.2.1 c1).2.2.1, (k.2.2.1 c1).2.2.2.1⟩, ⟨(by decide), ⟨⟨(by decide), (k.2.2.1 c1).2.2.2.2.1, (k.2.2.1 c1).2.2.2.2.2.1⟩, ⟨⟨(k.2.2.1 c1).2.2.2.2.2.2.1, (k.2.2.1 c1).2.2.2.2.2.2.2.1⟩, fun c2 => ((k.2.2.1 c1).2.2.2.2.2.2.2.2.1 c2), fun c2 => ⟨(by decide), ⟨⟨(by decide), ((k.2.2.1 c1).2.2.2.2.2.2.2.2.2 c2).1, ((k.2.2.1 c1).2.2.2.2.2.2.2.2.2 c2).2.1⟩, ((k.2.2.1 c1).2.2.2.2.2.2.2.2.2 c2).2.2⟩⟩⟩⟩⟩⟩⟩⟩⟩, fun c1 => ⟨(by decide), ⟨(by decide), ⟨⟨(by decide), (k.2.2.2 c1).1, (k.2.2.2 c1).2.1⟩, ⟨⟨(by decide), (k.2.2.2 c1).2.2.1, (k.2.2.2 c1).2.2.2.1⟩, ⟨(k.2.2.2 c1).2.2.2.2.1, fun c3 => ((k.2.2.2 c1).2.2.2.2.2.1 c3), fun c3 => ⟨(by decide), ⟨(by decide), ⟨⟨(by decide), ((k.2.2.2 c1).2.2.2.2.2.2 c3).1, ((k.2.2.2 c1).2.2.2.2.2.2 c3).2.1⟩, ⟨⟨(by decide), ((k.2.2.2 c1).2.2.2.2.2.2 c3).2.2.1, ((k.2.2.2 c1).2.2.2.2.2.2 c3).2.2.2.1⟩, ⟨⟨((k.2.2.2 c1).2.2.2.2.2.2 c3).2.2.2.2.1, ((k.2.2.2 c1).2.2.2.2.2.2 c3).2.2.2.2.2.1⟩, fun c4 => (((k.2.2.2 c1).2.2.2.2.2.2 c3).2.2.2.2.2.2.1 c4), fun c4 => ⟨(by decide), ⟨(by decide), ⟨⟨(by decide), (((k.2.2.2 c1).2.2.2.2.2.2 c3).2.2.2.2.2.2.2 c4).1, (((k.2.2.2 c1).2.2.2.2.2.2 c3).2.2.2.2.2.2.2 c4).2.1⟩, ⟨⟨(by decide), (((k.2.2.2 c1).2.2.2.2.2.2 c3).2.2.2.2.2.2.2 c4).2.2.1, (((k.2.2.2 c1).2.2.2.2.2.2 c3).2.2.2.2.2.2.2 c4).2.2.2.1⟩, (((k.2.2.2 c1).2.2.2.2.2.2 c3).2.2.2.2.2.2.2 c4).2.2.2.2⟩⟩⟩⟩⟩⟩⟩⟩⟩⟩⟩⟩⟩⟩⟩)
theorem sg_Md_ends_0 {sc : Nat → Int} {ar : Nat → Nat → Int} {x1 : Int} {Q : Option mV → mH → Prop} (k : Ev 1 M_Md_no (0, [some (vO 11), some (vI x1)], [], ((up sc 176 0), ar)) (fun r1 h1 => Ev 2 M_Md_ends (10, [some (vO 11), some (vI x1)], mPush r1 [], h1) Q)) :
  Ev 2 M_Md_ends (0, [some (vO 11), some (vI x1)], [], (sc, ar)) Q :=
  wq_ok 200 _ _ [(10, 2), (19, 2)] _ _ _ _ _ (show (cO 11 = 9) ∧ ((cO 11 = mK M_Md_no) ∧ (Ev 1 M_Md_no (0, [some (vO 11), some (vI x1)], [], ((up sc 176 0), ar)) (fun r1 h1 => Ev 2 M_Md_ends (10, [some (vO 11), some (vI x1)], mPush r1 [], h1) Q))) from ⟨(by decide), ⟨(by decide), k⟩⟩)
theorem sg_Md_ends_10 {sc : Nat → Int} {ar : Nat → Nat → Int} {x1 s0 : Int} {Q : Option mV → mH → Prop} (k : inR s0 ∧ 
  (s0 = 0 → (Ev 1 M_Md_beside (0, [some (vO 11), none, none, none, none, none], [], (sc, ar)) (fun r1 h1 => Ev 2 M_Md_ends (19, [some (vO 11), some (vI x1)], mPush r1 [], h1) Q))) ∧ 
  (¬ (s0 = 0) → (Q (some (vI (-1))) (sc, ar)))) :
  Ev 2 M_Md_ends (10, [some (vO 11), some (vI x1)], [vI s0], (sc, ar)) Q :=
  wq_ok 200 _ _ [(10, 2), (19, 2)] _ _ _ _ _ (show (inR s0) ∧ (s0 = 0 → ((cO 11 = mK M_Md_beside) ∧ (Ev 1 M_Md_beside (0, [some (vO 11), none, none, none, none, none], [], (sc, ar)) (fun r1 h1 => Ev 2 M_Md_ends (19, [some (vO 11), some (vI x1)], mPush r1 [], h1) Q)))) ∧ (¬ (s0 = 0) → (Q (some (vI (-1))) (sc, ar))) from ⟨k.1, fun c1 => ⟨(by decide), (k.2.1 c1)⟩, fun c1 => (k.2.2 c1)⟩)
theorem sg_Md_ends_19 {sc : Nat → Int} {ar : Nat → Nat → Int} {x1 s0 : Int} {Q : Option mV → mH → Prop} (k : (0 : Int) ≤ x1 ∧ x1 < (8 : Int) ∧ 
  (Q (some (vI (ar 187 x1.toNat))) (sc, ar))) :
  Ev 2 M_Md_ends (19, [some (vO 11), some (vI x1)], [vI s0], (sc, ar)) Q :=
  wq_ok 200 _ _ [(10, 2), (19, 2)] _ _ _ _ _ (show (cO 11 = 9) ∧ ((aK 187 = 0 ∧ (0 : Int) ≤ x1 ∧ x1 < (8 : Int)) ∧ (Q (some (vI (ar 187 x1.toNat))) (sc, ar))) from ⟨(by decide), ⟨⟨(by decide), k.1, k.2.1⟩, k.2.2⟩⟩)
theorem sg_Md_span_0 {sc : Nat → Int} {ar : Nat → Nat → Int} {Q : Option mV → mH → Prop} (k : Ev 0 M_Md_beside (0, [some (vO 11), none, none, none, none, none], [], ((up sc 176 0), ar)) (fun r1 h1 => Ev 1 M_Md_span (9, [some (vO 11)], mPush r1 [], h1) Q)) :
  Ev 1 M_Md_span (0, [some (vO 11)], [], (sc, ar)) Q :=
  wq_ok 200 _ _ [(9, 1)] _ _ _ _ _ (show (cO 11 = 9) ∧ ((cO 11 = mK M_Md_beside) ∧ (Ev 0 M_Md_beside (0, [some (vO 11), none, none, none, none, none], [], ((up sc 176 0), ar)) (fun r1 h1 => Ev 1 M_Md_span (9, [some (vO 11)], mPush r1 [], h1) Q))) from ⟨(by decide), ⟨(by decide), k⟩⟩)
theorem sg_Md_span_9 {sc : Nat → Int} {ar : Nat → Nat → Int} {s0 : Int} {Q : Option mV → mH → Prop} (k : Q (some (vI s0)) (sc, ar)) :
  Ev 1 M_Md_span (9, [some (vO 11)], [vI s0], (sc, ar)) Q :=
  wq_ok 200 _ _ [(9, 1)] _ _ _ _ _ (show Q (some (vI s0)) (sc, ar) from k)
theorem sg_Md_betweenOf_0 {sc : Nat → Int} {ar : Nat → Nat → Int} {Q : Option mV → mH → Prop} (k : Ev 0 M_Md_betweenOf (4, [some (vO 11), some (vI 0), some (vI 0), none], [], (sc, ar)) Q) :
  Ev 0 M_Md_betweenOf (0, [some (vO 11), none, none, none], [], (sc, ar)) Q :=
  wq_ok 200 _ _ [(4, 3), (14, 4)] _ _ _ _ _ (show Ev 0 M_Md_betweenOf (4, [some (vO 11), some (vI 0), some (vI 0), none], [], (sc, ar)) Q from k)
theorem sg_Md_betweenOf_4 {sc : Nat → Int} {ar : Nat → Nat → Int} {x1 x2 : Int} {Q : Option mV → mH → Prop} (k : inR x2 ∧ inR (sc 177) ∧ 
  ((sc 177) ≤ x2 → (Q (some (vI x1)) (sc, ar))) ∧ 
  (¬ ((sc 177) ≤ x2) → (Ev 0 M_Md_betweenOf (14, [some (vO 11), some (vI x1), some (vI x2), some (vI 0)], [], (sc, ar)) Q))) :
  Ev 0 M_Md_betweenOf (4, [some (vO 11), some (vI x1), some (vI x2), none], [], (sc, ar)) Q :=
  wq_ok 200 _ _ [(4, 3), (14, 4)] _ _ _ _ _ (show (cO 11 = 9) ∧ ((inR x2 ∧ inR (sc 177)) ∧ ((sc 177) ≤ x2 → (Q (some (vI x1)) (sc, ar))) ∧ (¬ ((sc 177) ≤ x2) → (Ev 0 M_Md_betweenOf (14, [some (vO 11), some (vI x1), some (vI x2), some (vI 0)], [], (sc, ar)) Q))) from ⟨(by decide), ⟨⟨k.1, k.2.1⟩, fun c1 => (k.2.2.1 c1), fun c1 => (k.2.2.2 c1)⟩⟩)
theorem sg_Md_betweenOf_14 {sc : Nat → Int} {ar : Nat → Nat → Int} {x1 x2 x3 : Int} {Q : Option mV → mH → Prop} (k : inR x3 ∧ inR (sc 177) ∧ 
  ((sc 177) ≤ x3 → (Ev 0 M_Md_betweenOf (4, [some (vO 11), some (vI x1), some (vI (x2 + 1)), none], [], (sc, ar)) Q)) ∧ 
  (¬ ((sc 177) ≤ x3) → ((0 : Int) ≤ x2 ∧ x2 < (8 : Int) ∧ 
    ((0 : Int) ≤ x3 ∧ x3 < (8 : Int) ∧ 
    (inR (ar 188 x2.toNat) ∧ inR (ar 188 x3.toNat) ∧ 
    ((ar 188 x2.toNat) = (ar 188 x3.toNat) → (Ev 0 M_Md_betweenOf (14, [some (vO 11), some (vI (x1 + 0)), some (vI x2), some (vI (x3 + 1))], [], (sc, ar)) Q)) ∧ 
    (¬ ((ar 188 x2.toNat) = (ar 188 x3.toNat)) → ((0 : Int) ≤ ((8 * x2) + x3) ∧ ((8 * x2) + x3) < (64 : Int) ∧ 
      (Ev 0 M_Md_betweenOf (14, [some (vO 11), some (vI (x1 + (ar 179 ((8 * x2) + x3).toNat))), some (vI x2), some (vI (x3 + 1))], [], (sc, ar)) Q)))))))) :
  Ev 0 M_Md_betweenOf (14, [some (vO 11), some (vI x1), some (vI x2), some (vI x3)], [], (sc, ar)) Q :=
  wq_ok 200 _ _ [(4, 3), (14, 4)] _ _ _ _ _ (show (cO 11 = 9) ∧ ((inR x3 ∧ inR (sc 177)) ∧ ((sc 177) ≤ x3 → (Ev 0 M_Md_betweenOf (4, [some (vO 11), some (vI x1), some (vI (x2 + 1)), none], [], (sc, ar)) Q)) ∧ (¬ ((sc 177) ≤ x3) → ((cO 11 = 9) ∧ ((aK 188 = 0 ∧ (0 : Int) ≤ x2 ∧ x2 < (8 : Int)) ∧ ((cO 11 = 9) ∧ ((aK 188 = 0 ∧ (0 : Int) ≤ x3 ∧ x3 < (8 : Int)) ∧ ((inR (ar 188 x2.toNat) ∧ inR (ar 188 x3.toNat)) ∧ ((ar 188 x2.toNat) = (ar 188 x3.toNat) → (Ev 0 M_Md_betweenOf (14, [some (vO 11), some (vI (x1 + 0)), some (vI x2), some (vI (x3 + 1))], [], (sc, ar)) Q)) ∧ (¬ ((ar 188 x2.toNat) = (ar 188 x3.toNat)) → ((cO 11 = 9) ∧ ((aK 179 = 0 ∧ (0 : Int) ≤ ((8 * x2) + x3) ∧ ((8 * x2) + x3) < (64 : Int)) ∧ (Ev 0 M_Md_betweenOf (14, [some (vO 11), some (vI (x1 + (ar 179 ((8 * x2) + x3).toNat))), some (vI x2), some (vI (x3 + 1))], [], (sc, ar)) Q))))))))))) from ⟨(by decide), ⟨⟨k.1, k.2.1⟩, fun c1 => (k.2.2.1 c1), fun c1 => ⟨(by decide), ⟨⟨(by decide), (k.2.2.2 c1).1, (k.2.2.2 c1).2.1⟩, ⟨(by decide), ⟨⟨(by decide), (k.2.2.2 c1).2.2.1, (k.2.2.2 c1).2.2.2.1⟩, ⟨⟨(k.2.2.2 c1).2.2.2.2.1, (k.2.2.2 c1).2.2.2.2.2.1⟩, fun c2 => ((k.2.2.2 c1).2.2.2.2.2.2.1 c2), fun c2 => ⟨(by decide), ⟨⟨(by decide), ((k.2.2.2 c1).2.2.2.2.2.2.2 c2).1, ((k.2.2.2 c1).2.2.2.2.2.2.2 c2).2.1⟩, ((k.2.2.2 c1).2.2.2.2.2.2.2 c2).2.2⟩⟩⟩⟩⟩⟩⟩⟩⟩)
theorem sg_Md_teamsOf_0 {sc : Nat → Int} {ar : Nat → Nat → Int} {x1 : Int} {Q : Option mV → mH → Prop} (k : Ev 0 M_Md_teamsOf (4, [some (vO 11), some (vI x1), some (vI 0), some (vI 0), none, none], [], (sc, ar)) Q) :
  Ev 0 M_Md_teamsOf (0, [some (vO 11), some (vI x1), none, none, none, none], [], (sc, ar)) Q :=
  wq_ok 200 _ _ [(4, 4), (18, 6)] _ _ _ _ _ (show Ev 0 M_Md_teamsOf (4, [some (vO 11), some (vI x1), some (vI 0), some (vI 0), none, none], [], (sc, ar)) Q from k)
theorem sg_Md_teamsOf_4 {sc : Nat → Int} {ar : Nat → Nat → Int} {x1 x2 x3 : Int} {Q : Option mV → mH → Prop} (k : inR x3 ∧ inR (sc 177) ∧ 
  ((sc 177) ≤ x3 → (Q (some (vI x2)) (sc, ar))) ∧ 
  (¬ ((sc 177) ≤ x3) → (Ev 0 M_Md_teamsOf (18, [some (vO 11), some (vI x1), some (vI x2), some (vI x3), some (vI 0), some (vI 0)], [], (sc, ar)) Q))) :
  Ev 0 M_Md_teamsOf (4, [some (vO 11), some (vI x1), some (vI x2), some (vI x3), none, none], [], (sc, ar)) Q :=
  wq_ok 200 _ _ [(4, 4), (18, 6)] _ _ _ _ _ (show (cO 11 = 9) ∧ ((inR x3 ∧ inR (sc 177)) ∧ ((sc 177) ≤ x3 → (Q (some (vI x2)) (sc, ar))) ∧ (¬ ((sc 177) ≤ x3) → (Ev 0 M_Md_teamsOf (18, [some (vO 11), some (vI x1), some (vI x2), some (vI x3), some (vI 0), some (vI 0)], [], (sc, ar)) Q))) from ⟨(by decide), ⟨⟨k.1, k.2.1⟩, fun c1 => (k.2.2.1 c1), fun c1 => (k.2.2.2 c1)⟩⟩)
theorem sg_Md_teamsOf_18 {sc : Nat → Int} {ar : Nat → Nat → Int} {x1 x2 x3 x4 x5 : Int} {Q : Option mV → mH → Prop} (k : inR x5 ∧ inR (sc 177) ∧ 
  ((sc 177) ≤ x5 → (inR x4 ∧ 
    (x4 ≠ 0 → (inR x4 ∧ inR x1 ∧ 
      (x4 ≤ x1 → (Ev 0 M_Md_teamsOf (4, [some (vO 11), some (vI x1), some (vI (x2 + 1)), some (vI (x3 + 1)), none, none], [], (sc, ar)) Q)) ∧ 
      (¬ (x4 ≤ x1) → (Ev 0 M_Md_teamsOf (4, [some (vO 11), some (vI x1), some (vI (x2 + 100)), some (vI (x3 + 1)), none, none], [], (sc, ar)) Q)))) ∧ 
    (¬ (x4 ≠ 0) → (Ev 0 M_Md_teamsOf (4, [some (vO 11), some (vI x1), some (vI (x2 + 0)), some (vI (x3 + 1)), none, none], [], (sc, ar)) Q)))) ∧ 
  (¬ ((sc 177) ≤ x5) → ((0 : Int) ≤ x5 ∧ x5 < (8 : Int) ∧ 
    (inR (ar 188 x5.toNat) ∧ inR x3 ∧ 
    ((ar 188 x5.toNat) ≠ x3 → (Ev 0 M_Md_teamsOf (18, [some (vO 11), some (vI x1), some (vI x2), some (vI x3), some (vI (x4 + 0)), some (vI (x5 + 1))], [], (sc, ar)) Q)) ∧ 
    (¬ ((ar 188 x5.toNat) ≠ x3) → (Ev 0 M_Md_teamsOf (18, [some (vO 11), some (vI x1), some (vI x2), some (vI x3), some (vI (x4 + 1)), some (vI (x5 + 1))], [], (sc, ar)) Q)))))) :
  Ev 0 M_Md_teamsOf (18, [some (vO 11), some (vI x1), some (vI x2), some (vI x3), some (vI x4), some (vI x5)], [], (sc, ar)) Q :=
  wq_ok 200 _ _ [(4, 4), (18, 6)] _ _ _ _ _ (show (cO 11 = 9) ∧ ((inR x5 ∧ inR (sc 177)) ∧ ((sc 177) ≤ x5 → ((inR x4) ∧ (x4 ≠ 0 → ((inR x4 ∧ inR x1) ∧ (x4 ≤ x1 → (Ev 0 M_Md_teamsOf (4, [some (vO 11), some (vI x1), some (vI (x2 + 1)), some (vI (x3 + 1)), none, none], [], (sc, ar)) Q)) ∧ (¬ (x4 ≤ x1) → (Ev 0 M_Md_teamsOf (4, [some (vO 11), some (vI x1), some (vI (x2 + 100)), some (vI (x3 + 1)), none, none], [], (sc, ar)) Q)))) ∧ (¬ (x4 ≠ 0) → (Ev 0 M_Md_teamsOf (4, [some (vO 11), some (vI x1), some (vI (x2 + 0)), some (vI (x3 + 1)), none, none], [], (sc, ar)) Q)))) ∧ (¬ ((sc 177) ≤ x5) → ((cO 11 = 9) ∧ ((aK 188 = 0 ∧ (0 : Int) ≤ x5 ∧ x5 < (8 : Int)) ∧ ((inR (ar 188 x5.toNat) ∧ inR x3) ∧ ((ar 188 x5.toNat) ≠ x3 → (Ev 0 M_Md_teamsOf (18, [some (vO 11), some (vI x1), some (vI x2), some (vI x3), some (vI (x4 + 0)), some (vI (x5 + 1))], [], (sc, ar)) Q)) ∧ (¬ ((ar 188 x5.toNat) ≠ x3) → (Ev 0 M_Md_teamsOf (18, [some (vO 11), some (vI x1), some (vI x2), some (vI x3), some (vI (x4 + 1)), some (vI (x5 + 1))], [], (sc, ar)) Q))))))) from ⟨(by decide), ⟨⟨k.1, k.2.1⟩, fun c1 => ⟨(k.2.2.1 c1).1, fun c2 => ⟨⟨((k.2.2.1 c1).2.1 c2).1, ((k.2.2.1 c1).2.1 c2).2.1⟩, fun c3 => (((k.2.2.1 c1).2.1 c2).2.2.1 c3), fun c3 => (((k.2.2.1 c1).2.1 c2).2.2.2 c3)⟩, fun c2 => ((k.2.2.1 c1).2.2 c2)⟩, fun c1 => ⟨(by decide), ⟨⟨(by decide), (k.2.2.2 c1).1, (k.2.2.2 c1).2.1⟩, ⟨⟨(k.2.2.2 c1).2.2.1, (k.2.2.2 c1).2.2.2.1⟩, fun c4 => ((k.2.2.2 c1).2.2.2.2.1 c4), fun c4 => ((k.2.2.2 c1).2.2.2.2.2 c4)⟩⟩⟩⟩⟩)
theorem sg_Md_isMore_0 {sc : Nat → Int} {ar : Nat → Nat → Int} {Q : Option mV → mH → Prop} (k : Ev 1 M_Md_isMore (7, [some (vO 11), some (vI ((sc 177) - 1)), none], [], (sc, ar)) Q) :
  Ev 1 M_Md_isMore (0, [some (vO 11), none, none], [], (sc, ar)) Q :=
  wq_ok 200 _ _ [(7, 2), (22, 2), (51, 3)] _ _ _ _ _ (show (cO 11 = 9) ∧ (Ev 1 M_Md_isMore (7, [some (vO 11), some (vI ((sc 177) - 1)), none], [], (sc, ar)) Q) from ⟨(by decide), k⟩)
theorem sg_Md_isMore_7 {sc : Nat → Int} {ar : Nat → Nat → Int} {x1 : Int} {Q : Option mV → mH → Prop} (k : inR x1 ∧ 
  (x1 ≤ 0 → (inR x1 ∧ 
    (0 < x1 → ((0 : Int) ≤ x1 ∧ x1 < (8 : Int) ∧ 
      ((0 : Int) ≤ x1 ∧ x1 < (8 : Int) ∧ 
      (Ev 1 M_Md_isMore (51, [some (vO 11), some (vI x1), some (vI (x1 + 1))], [], (sc, (up ar 188 (up (ar 188) x1.toNat ((ar 188 x1.toNat) + 1))))) Q)))) ∧ 
    (¬ (0 < x1) → (Q (some (vI 0)) (sc, ar))))) ∧ 
  (¬ (x1 ≤ 0) → ((0 : Int) ≤ x1 ∧ x1 < (8 : Int) ∧ 
    (Ev 0 M_Md_greatest (0, [some (vO 11), some (vI x1), none, none], [], (sc, ar)) (fun r1 h1 => Ev 1 M_Md_isMore (22, [some (vO 11), some (vI x1), none], mPush r1 [vI (ar 188 x1.toNat)], h1) Q))))) :
  Ev 1 M_Md_isMore (7, [some (vO 11), some (vI x1), none], [], (sc, ar)) Q :=
  wq_ok 200 _ _ [(7, 2), (22, 2), (51, 3)] _ _ _ _ _ (show (inR x1) ∧ (x1 ≤ 0 → ((inR x1) ∧ (0 < x1 → ((cO 11 = 9) ∧ ((aK 188 = 0 ∧ (0 : Int) ≤ x1 ∧ x1 < (8 : Int)) ∧ ((aK 188 = 0 ∧ 188 ≠ 999 ∧ (0 : Int) ≤ x1 ∧ x1 < (8 : Int)) ∧ (Ev 1 M_Md_isMore (51, [some (vO 11), some (vI x1), some (vI (x1 + 1))], [], (sc, (up ar 188 (up (ar 188) x1.toNat ((ar 188 x1.toNat) + 1))))) Q))))) ∧ (¬ (0 < x1) → (((0 : Int) ≤ 0 ∧ (0 : Int) ≤ 1) ∧ (Q (some (vI 0)) (sc, ar)))))) ∧ (¬ (x1 ≤ 0) → ((cO 11 = 9) ∧ ((aK 188 = 0 ∧ (0 : Int) ≤ x1 ∧ x1 < (8 : Int)) ∧ ((cO 11 = mK M_Md_greatest) ∧ (Ev 0 M_Md_greatest (0, [some (vO 11), some (vI x1), none, none], [], (sc, ar)) (fun r1 h1 => Ev 1 M_Md_isMore (22, [some (vO 11), some (vI x1), none], mPush r1 [vI (ar 188 x1.toNat)], h1) Q)))))) from ⟨k.1, fun c1 => ⟨(k.2.1 c1).1, fun c2 => ⟨(by decide), ⟨⟨(by decide), ((k.2.1 c1).2.1 c2).1, ((k.2.1 c1).2.1 c2).2.1⟩, ⟨⟨(by decide), (by decide), ((k.2.1 c1).2.1 c2).2.2.1, ((k.2.1 c1).2.1 c2).2.2.2.1⟩, ((k.2.1 c1).2.1 c2).2.2.2.2⟩⟩⟩, fun c2 => ⟨⟨(by decide), (by decide)⟩, ((k.2.1 c1).2.2 c2)⟩⟩, fun c1 => ⟨(by decide), ⟨⟨(by decide), (k.2.2 c1).1, (k.2.2 c1).2.1⟩, ⟨(by decide), (k.2.2 c1).2.2⟩⟩⟩⟩)
theorem sg_Md_isMore_22 {sc : Nat → Int} {ar : Nat → Nat → Int} {x1 s0 s1 : Int} {Q : Option mV → mH → Prop} (k : inR s1 ∧ inR s0 ∧ 
  (s1 ≤ s0 → (inR x1 ∧ 
    (0 < x1 → ((0 : Int) ≤ x1 ∧ x1 < (8 : Int) ∧ 
      ((0 : Int) ≤ x1 ∧ x1 < (8 : Int) ∧ 
      (Ev 1 M_Md_isMore (51, [some (vO 11), some (vI x1), some (vI (x1 + 1))], [], (sc, (up ar 188 (up (ar 188) x1.toNat ((ar 188 x1.toNat) + 1))))) Q)))) ∧ 
    (¬ (0 < x1) → (Q (some (vI 0)) (sc, ar))))) ∧ 
  (¬ (s1 ≤ s0) → (Ev 1 M_Md_isMore (7, [some (vO 11), some (vI (x1 + (-1))), none], [], (sc, ar)) Q))) :
  Ev 1 M_Md_isMore (22, [some (vO 11), some (vI x1), none], [vI s0, vI s1], (sc, ar)) Q :=
  wq_ok 200 _ _ [(7, 2), (22, 2), (51, 3)] _ _ _ _ _ (show (inR s1 ∧ inR s0) ∧ (s1 ≤ s0 → ((inR x1) ∧ (0 < x1 → ((cO 11 = 9) ∧ ((aK 188 = 0 ∧ (0 : Int) ≤ x1 ∧ x1 < (8 : Int)) ∧ ((aK 188 = 0 ∧ 188 ≠ 999 ∧ (0 : Int) ≤ x1 ∧ x1 < (8 : Int)) ∧ (Ev 1 M_Md_isMore (51, [some (vO 11), some (vI x1), some (vI (x1 + 1))], [], (sc, (up ar 188 (up (ar 188) x1.toNat ((ar 188 x1.toNat) + 1))))) Q))))) ∧ (¬ (0 < x1) → (((0 : Int) ≤ 0 ∧ (0 : Int) ≤ 1) ∧ (Q (some (vI 0)) (sc, ar)))))) ∧ (¬ (s1 ≤ s0) → (Ev 1 M_Md_isMore (7, [some (vO 11), some (vI (x1 + (-1))), none], [], (sc, ar)) Q)) from ⟨⟨k.1, k.2.1⟩, fun c1 => ⟨(k.2.2.1 c1).1, fun c2 => ⟨(by decide), ⟨⟨(by decide), ((k.2.2.1 c1).2.1 c2).1, ((k.2.2.1 c1).2.1 c2).2.1⟩, ⟨⟨(by decide), (by decide), ((k.2.2.1 c1).2.1 c2).2.2.1, ((k.2.2.1 c1).2.1 c2).2.2.2.1⟩, ((k.2.2.1 c1).2.1 c2).2.2.2.2⟩⟩⟩, fun c2 => ⟨⟨(by decide), (by decide)⟩, ((k.2.2.1 c1).2.2 c2)⟩⟩, fun c1 => (k.2.2.2 c1)⟩)
theorem sg_Md_isMore_51 {sc : Nat → Int} {ar : Nat → Nat → Int} {x1 x2 : Int} {Q : Option mV → mH → Prop} (k : inR x2 ∧ inR (sc 177) ∧ 
  ((sc 177) ≤ x2 → (Q (some (vI 1)) (sc, ar))) ∧ 
  (¬ ((sc 177) ≤ x2) → ((0 : Int) ≤ x2 ∧ x2 < (8 : Int) ∧ 
    (Ev 1 M_Md_isMore (51, [some (vO 11), some (vI x1), some (vI (x2 + 1))], [], (sc, (up ar 188 (up (ar 188) x2.toNat 0)))) Q)))) :
  Ev 1 M_Md_isMore (51, [some (vO 11), some (vI x1), some (vI x2)], [], (sc, ar)) Q :=
  wq_ok 200 _ _ [(7, 2), (22, 2), (51, 3)] _ _ _ _ _ (show (cO 11 = 9) ∧ ((inR x2 ∧ inR (sc 177)) ∧ ((sc 177) ≤ x2 → (((0 : Int) ≤ 1 ∧ (1 : Int) ≤ 1) ∧ (Q (some (vI 1)) (sc, ar)))) ∧ (¬ ((sc 177) ≤ x2) → ((cO 11 = 9) ∧ ((aK 188 = 0 ∧ 188 ≠ 999 ∧ (0 : Int) ≤ x2 ∧ x2 < (8 : Int)) ∧ (Ev 1 M_Md_isMore (51, [some (vO 11), some (vI x1), some (vI (x2 + 1))], [], (sc, (up ar 188 (up (ar 188) x2.toNat 0)))) Q))))) from ⟨(by decide), ⟨⟨k.1, k.2.1⟩, fun c1 => ⟨⟨(by decide), (by decide)⟩, (k.2.2.1 c1)⟩, fun c1 => ⟨(by decide), ⟨⟨(by decide), (by decide), (k.2.2.2 c1).1, (k.2.2.2 c1).2.1⟩, (k.2.2.2 c1).2.2⟩⟩⟩⟩)
theorem sg_Md_greatest_0 {sc : Nat → Int} {ar : Nat → Nat → Int} {x1 : Int} {Q : Option mV → mH → Prop} (k : Ev 0 M_Md_greatest (4, [some (vO 11), some (vI x1), some (vI 0), some (vI 0)], [], (sc, ar)) Q) :
  Ev 0 M_Md_greatest (0, [some (vO 11), some (vI x1), none, none], [], (sc, ar)) Q :=
  wq_ok 200 _ _ [(4, 4)] _ _ _ _ _ (show Ev 0 M_Md_greatest (4, [some (vO 11), some (vI x1), some (vI 0), some (vI 0)], [], (sc, ar)) Q from k)
theorem sg_Md_greatest_4 {sc : Nat → Int} {ar : Nat → Nat → Int} {x1 x2 x3 : Int} {Q : Option mV → mH → Prop} (k : inR x3 ∧ inR x1 ∧ 
  (x1 ≤ x3 → (Q (some (vI x2)) (sc, ar))) ∧ 
  (¬ (x1 ≤ x3) → ((0 : Int) ≤ x3 ∧ x3 < (8 : Int) ∧ 
    (inR (ar 188 x3.toNat) ∧ inR x2 ∧ 
    ((ar 188 x3.toNat) ≤ x2 → (Ev 0 M_Md_greatest (4, [some (vO 11), some (vI x1), some (vI x2), some (vI (x3 + 1))], [], (sc, ar)) Q)) ∧ 
    (¬ ((ar 188 x3.toNat) ≤ x2) → ((0 : Int) ≤ x3 ∧ x3 < (8 : Int) ∧ 
      (Ev 0 M_Md_greatest (4, [some (vO 11), some (vI x1), some (vI (ar 188 x3.toNat)), some (vI (x3 + 1))], [], (sc, ar)) Q))))))) :
  Ev 0 M_Md_greatest (4, [some (vO 11), some (vI x1), some (vI x2), some (vI x3)], [], (sc, ar)) Q :=
  wq_ok 200 _ _ [(4, 4)] _ _ _ _ _ (show (inR x3 ∧ inR x1) ∧ (x1 ≤ x3 → (Q (some (vI x2)) (sc, ar))) ∧ (¬ (x1 ≤ x3) → ((cO 11 = 9) ∧ ((aK 188 = 0 ∧ (0 : Int) ≤ x3 ∧ x3 < (8 : Int)) ∧ ((inR (ar 188 x3.toNat) ∧ inR x2) ∧ ((ar 188 x3.toNat) ≤ x2 → (Ev 0 M_Md_greatest (4, [some (vO 11), some (vI x1), some (vI x2), some (vI (x3 + 1))], [], (sc, ar)) Q)) ∧ (¬ ((ar 188 x3.toNat) ≤ x2) → ((cO 11 = 9) ∧ ((aK 188 = 0 ∧ (0 : Int) ≤ x3 ∧ x3 < (8 : Int)) ∧ (Ev 0 M_Md_greatest (4, [some (vO 11), some (vI x1), some (vI (ar 188 x3.toNat)), some (vI (x3 + 1))], [], (sc, ar)) Q)))))))) from ⟨⟨k.1, k.2.1⟩, fun c1 => (k.2.2.1 c1), fun c1 => ⟨(by decide), ⟨⟨(by decide), (k.2.2.2 c1).1, (k.2.2.2 c1).2.1⟩, ⟨⟨(k.2.2.2 c1).2.2.1, (k.2.2.2 c1).2.2.2.1⟩, fun c2 => ((k.2.2.2 c1).2.2.2.2.1 c2), fun c2 => ⟨(by decide), ⟨⟨(by decide), ((k.2.2.2 c1).2.2.2.2.2 c2).1, ((k.2.2.2 c1).2.2.2.2.2 c2).2.1⟩, ((k.2.2.2 c1).2.2.2.2.2 c2).2.2⟩⟩⟩⟩⟩⟩)
theorem sg_Md_teams_0 {sc : Nat → Int} {ar : Nat → Nat → Int} {x1 : Int} {Q : Option mV → mH → Prop} (k : Ev 2 M_Md_teams (2, [some (vO 11), some (vI x1), some (vI 0), none, none, none, none], [], (sc, ar)) Q) :
  Ev 2 M_Md_teams (0, [some (vO 11), some (vI x1), none, none, none, none, none], [], (sc, ar)) Q :=
  wq_ok 200 _ _ [(2, 3), (38, 4), (47, 4), (53, 5), (107, 7), (140, 6)] _ _ _ _ _ (show Ev 2 M_Md_teams (2, [some (vO 11), some (vI x1), some (vI 0), none, none, none, none], [], (sc, ar)) Q from k)
theorem sg_Md_teams_2 {sc : Nat → Int} {ar : Nat → Nat → Int} {x1 x2 : Int} {Q : Option mV → mH → Prop} (k : inR x2 ∧ 
  (8 ≤ x2 → (Ev 2 M_Md_teams (38, [some (vO 11), some (vI x1), some (vI 0), some (vI 1), none, none, none], [], ((up sc 190 (-9)), ar)) Q)) ∧ 
  (¬ (8 ≤ x2) → ((0 : Int) ≤ x2 ∧ x2 < (8 : Int) ∧ 
    ((0 : Int) ≤ x2 ∧ x2 < (8 : Int) ∧ 
    (Ev 2 M_Md_teams (2, [some (vO 11), some (vI x1), some (vI (x2 + 1)), none, none, none, none], [], (sc, (up (up ar 188 (up (ar 188) x2.toNat 0)) 189 (up (ar 189) x2.toNat 0)))) Q))))) :
  Ev 2 M_Md_teams (2, [some (vO 11), some (vI x1), some (vI x2), none, none, none, none], [], (sc, ar)) Q :=
  wq_ok 200 _ _ [(2, 3), (38, 4), (47, 4), (53, 5), (107, 7), (140, 6)] _ _ _ _ _ (show (inR x2 ∧ inR 8) ∧ (8 ≤ x2 → ((cO 11 = 9) ∧ (Ev 2 M_Md_teams (38, [some (vO 11), some (vI x1), some (vI 0), some (vI 1), none, none, none], [], ((up sc 190 (-9)), ar)) Q))) ∧ (¬ (8 ≤ x2) → ((cO 11 = 9) ∧ ((aK 188 = 0 ∧ 188 ≠ 999 ∧ (0 : Int) ≤ x2 ∧ x2 < (8 : Int)) ∧ ((cO 11 = 9) ∧ ((aK 189 = 0 ∧ 189 ≠ 999 ∧ (0 : Int) ≤ x2 ∧ x2 < (8 : Int)) ∧ (Ev 2 M_Md_teams (2, [some (vO 11), some (vI x1), some (vI (x2 + 1)), none, none, none, none], [], (sc, (up (up ar 188 (up (ar 188) x2.toNat 0)) 189 (up (ar 189) x2.toNat 0)))) Q)))))) from ⟨⟨k.1, (by decide)⟩, fun c1 => ⟨(by decide), (k.2.1 c1)⟩, fun c1 => ⟨(by decide), ⟨⟨(by decide), (by decide), (k.2.2 c1).1, (k.2.2 c1).2.1⟩, ⟨(by decide), ⟨⟨(by decide), (by decide), (k.2.2 c1).2.2.1, (k.2.2 c1).2.2.2.1⟩, (k.2.2 c1).2.2.2.2⟩⟩⟩⟩⟩)
theorem sg_Md_teams_38 {sc : Nat → Int} {ar : Nat → Nat → Int} {x1 x2 x3 : Int} {Q : Option mV → mH → Prop} (k : inR x3 ∧ 
  (x3 = 0 → (Q none (sc, ar))) ∧ 
  (¬ (x3 = 0) → (Ev 1 M_Md_teamsOf (0, [some (vO 11), some (vI x1), none, none, none, none], [], (sc, ar)) (fun r1 h1 => Ev 2 M_Md_teams (47, [some (vO 11), some (vI x1), some (vI x2), some (vI x3), none, none, none], mPush r1 [], h1) Q)))) :
  Ev 2 M_Md_teams (38, [some (vO 11), some (vI x1), some (vI x2), some (vI x3), none, none, none], [], (sc, ar)) Q :=
  wq_ok 200 _ _ [(2, 3), (38, 4), (47, 4), (53, 5), (107, 7), (140, 6)] _ _ _ _ _ (show (inR x3) ∧ (x3 = 0 → (Q none (sc, ar))) ∧ (¬ (x3 = 0) → ((cO 11 = mK M_Md_teamsOf) ∧ (Ev 1 M_Md_teamsOf (0, [some (vO 11), some (vI x1), none, none, none, none], [], (sc, ar)) (fun r1 h1 => Ev 2 M_Md_teams (47, [some (vO 11), some (vI x1), some (vI x2), some (vI x3), none, none, none], mPush r1 [], h1) Q)))) from ⟨k.1, fun c1 => (k.2.1 c1), fun c1 => ⟨(by decide), (k.2.2 c1)⟩⟩)
theorem sg_Md_teams_47 {sc : Nat → Int} {ar : Nat → Nat → Int} {x1 x2 x3 s0 : Int} {Q : Option mV → mH → Prop} (k : Ev 1 M_Md_betweenOf (0, [some (vO 11), none, none, none], [], (sc, ar)) (fun r1 h1 => Ev 2 M_Md_teams (53, [some (vO 11), some (vI x1), some (vI x2), some (vI x3), some (vI s0), none, none], mPush r1 [], h1) Q)) :
  Ev 2 M_Md_teams (47, [some (vO 11), some (vI x1), some (vI x2), some (vI x3), none, none, none], [vI s0], (sc, ar)) Q :=
  wq_ok 200 _ _ [(2, 3), (38, 4), (47, 4), (53, 5), (107, 7), (140, 6)] _ _ _ _ _ (show (cO 11 = mK M_Md_betweenOf) ∧ (Ev 1 M_Md_betweenOf (0, [some (vO 11), none, none, none], [], (sc, ar)) (fun r1 h1 => Ev 2 M_Md_teams (53, [some (vO 11), some (vI x1), some (vI x2), some (vI x3), some (vI s0), none, none], mPush r1 [], h1) Q)) from ⟨(by decide), k⟩)
theorem sg_Md_teams_53 {sc : Nat → Int} {ar : Nat → Nat → Int} {x1 x2 x3 x4 s0 : Int} {Q : Option mV → mH → Prop} (k : inR x4 ∧ 
  (100 ≤ x4 → (Ev 1 M_Md_isMore (0, [some (vO 11), none, none], [], (sc, ar)) (fun r1 h1 => Ev 2 M_Md_teams (140, [some (vO 11), some (vI x1), some (vI x2), some (vI x3), some (vI x4), some (vI s0), none], mPush r1 [], h1) Q))) ∧ 
  (¬ (100 ≤ x4) → (inR (sc 190) ∧ 
    ((sc 190) = (-9) → (Ev 2 M_Md_teams (107, [some (vO 11), some (vI x1), some (vI x4), some (vI x3), some (vI x4), some (vI s0), some (vI 0)], [], ((up sc 190 s0), ar)) Q)) ∧ 
    (¬ ((sc 190) = (-9)) → (inR s0 ∧ inR (sc 190) ∧ 
      (s0 < (sc 190) → (Ev 2 M_Md_teams (107, [some (vO 11), some (vI x1), some (vI x4), some (vI x3), some (vI x4), some (vI s0), some (vI 0)], [], ((up sc 190 s0), ar)) Q)) ∧ 
      (¬ (s0 < (sc 190)) → (inR s0 ∧ inR (sc 190) ∧ 
        (s0 ≠ (sc 190) → (Ev 1 M_Md_isMore (0, [some (vO 11), none, none], [], (sc, ar)) (fun r1 h1 => Ev 2 M_Md_teams (140, [some (vO 11), some (vI x1), some (vI x2), some (vI x3), some (vI x4), some (vI s0), none], mPush r1 [], h1) Q))) ∧ 
        (¬ (s0 ≠ (sc 190)) → (inR x4 ∧ inR x2 ∧ 
          (x2 ≤ x4 → (Ev 1 M_Md_isMore (0, [some (vO 11), none, none], [], (sc, ar)) (fun r1 h1 => Ev 2 M_Md_teams (140, [some (vO 11), some (vI x1), some (vI x2), some (vI x3), some (vI x4), some (vI s0), none], mPush r1 [], h1) Q))) ∧ 
          (¬ (x2 ≤ x4) → (Ev 2 M_Md_teams (107, [some (vO 11), some (vI x1), some (vI x4), some (vI x3), some (vI x4), some (vI s0), some (vI 0)], [], ((up sc 190 s0), ar)) Q))))))))))) :
  Ev 2 M_Md_teams (53, [some (vO 11), some (vI x1), some (vI x2), some (vI x3), some (vI x4), none, none], [vI s0], (sc, ar)) Q :=
  wq_ok 200 _ _ [(2, 3), (38, 4), (47, 4), (53, 5), (107, 7), (140, 6)] _ _ _ _ _ (show (inR x4 ∧ inR 100) ∧ (100 ≤ x4 → ((cO 11 = mK M_Md_isMore) ∧ (Ev 1 M_Md_isMore (0, [some (vO 11), none, none], [], (sc, ar)) (fun r1 h1 => Ev 2 M_Md_teams (140, [some (vO 11), some (vI x1), some (vI x2), some (vI x3), some (vI x4), some (vI s0), none], mPush r1 [], h1) Q)))) ∧ (¬ (100 ≤ x4) → ((cO 11 = 9) ∧ ((inR (sc 190) ∧ inR (-9)) ∧ ((sc 190) = (-9) → ((cO 11 = 9) ∧ (Ev 2 M_Md_teams (107, [some (vO 11), some (vI x1), some (vI x4), some (vI x3), some (vI x4), some (vI s0), some (vI 0)], [], ((up sc 190 s0), ar)) Q))) ∧ (¬ ((sc 190) = (-9)) → ((cO 11 = 9) ∧ ((inR s0 ∧ inR (sc 190)) ∧ (s0 < (sc 190) → ((cO 11 = 9) ∧ (Ev 2 M_Md_teams (107, [some (vO 11), some (vI x1), some (vI x4), some (vI x3), some (vI x4), some (vI s0), some (vI 0)], [], ((up sc 190 s0), ar)) Q))) ∧ (¬ (s0 < (sc 190)) → ((cO 11 = 9) ∧ ((inR s0 ∧ inR (sc 190)) ∧ (s0 ≠ (sc 190) → ((cO 11 = mK M_Md_isMore) ∧ (Ev 1 M_Md_isMore (0, [some (vO 11), none, none], [], (sc, ar)) (fun r1 h1 => Ev 2 M_Md_teams (140, [some (vO 11), some (vI x1), some (vI x2), some (vI x3), some (vI x4), some (vI s0), none], mPush r1 [], h1) Q)))) ∧ (¬ (s0 ≠ (sc 190)) → ((inR x4 ∧ inR x2) ∧ (x2 ≤ x4 → ((cO 11 = mK M_Md_isMore) ∧ (Ev 1 M_Md_isMore (0, [some (vO 11), none, none], [], (sc, ar)) (fun r1 h1 => Ev 2 M_Md_teams (140, [some (vO 11), some (vI x1), some (vI x2), some (vI x3), some (vI x4), some (vI s0), none], mPush r1 [], h1) Q)))) ∧ (¬ (x2 ≤ x4) → ((cO 11 = 9) ∧ (Ev 2 M_Md_teams (107, [some (vO 11), some (vI x1), some (vI x4), some (vI x3), some (vI x4), some (vI s0), some (vI 0)], [], ((up sc 190 s0), ar)) Q)))))))))))))) from ⟨⟨k.1, (by decide)⟩, fun c1 => ⟨(by decide), (k.2.1 c1)⟩, fun c1 => ⟨(by decide), ⟨⟨(k.2.2 c1).1, (by decide)⟩, fun c2 => ⟨(by decide), ((k.2.2 c1).2.1 c2)⟩, fun c2 => ⟨(by decide), ⟨⟨((k.2.2 c1).2.2 c2).1, ((k.2.2 c1).2.2 c2).2.1⟩, fun c3 => ⟨(by decide), (((k.2.2 c1).2.2 c2).2.2.1 c3)⟩, fun c3 => ⟨(by decide), ⟨⟨(((k.2.2 c1).2.2 c2).2.2.2 c3).1, (((k.2.2 c1).2.2 c2).2.2.2 c3).2.1⟩, fun c4 => ⟨(by decide), ((((k.2.2 c1).2.2 c2).2.2.2 c3).2.2.1 c4)⟩, fun c4 => ⟨⟨((((k.2.2 c1).2.2 c2).2.2.2 c3).2.2.2 c4).1, ((((k.2.2 c1).2.2 c2).2.2.2 c3).2.2.2 c4).2.1⟩, fun c5 => ⟨(by decide), (((((k.2.2 c1).2.2 c2).2.2.2 c3).2.2.2 c4).2.2.1 c5)⟩, fun c5 => ⟨(by decide), (((((k.2.2 c1).2.2 c2).2.2.2 c3).2.2.2 c4).2.2.2 c5)⟩⟩⟩⟩⟩⟩⟩⟩⟩)
theorem sg_Md_teams_107 {sc : Nat → Int} {ar : Nat → Nat → Int} {x1 x2 x3 x4 x5 x6 : Int} {Q : Option mV → mH → Prop} (k : inR x6 ∧ inR (sc 177) ∧ 
  ((sc 177) ≤ x6 → (Ev 1 M_Md_isMore (0, [some (vO 11), none, none], [], (sc, ar)) (fun r1 h1 => Ev 2 M_Md_teams (140, [some (vO 11), some (vI x1), some (vI x2), some (vI x3), some (vI x4), some (vI x5), none], mPush r1 [], h1) Q))) ∧ 
  (¬ ((sc 177) ≤ x6) → ((0 : Int) ≤ x6 ∧ x6 < (8 : Int) ∧ 
    ((0 : Int) ≤ x6 ∧ x6 < (8 : Int) ∧ 
    (Ev 2 M_Md_teams (107, [some (vO 11), some (vI x1), some (vI x2), some (vI x3), some (vI x4), some (vI x5), some (vI (x6 + 1))], [], (sc, (up ar 189 (up (ar 189) x6.toNat (ar 188 x6.toNat))))) Q))))) :
  Ev 2 M_Md_teams (107, [some (vO 11), some (vI x1), some (vI x2), some (vI x3), some (vI x4), some (vI x5), some (vI x6)], [], (sc, ar)) Q :=
  wq_ok 200 _ _ [(2, 3), (38, 4), (47, 4), (53, 5), (107, 7), (140, 6)] _ _ _ _ _ (show (cO 11 = 9) ∧ ((inR x6 ∧ inR (sc 177)) ∧ ((sc 177) ≤ x6 → ((cO 11 = mK M_Md_isMore) ∧ (Ev 1 M_Md_isMore (0, [some (vO 11), none, none], [], (sc, ar)) (fun r1 h1 => Ev 2 M_Md_teams (140, [some (vO 11), some (vI x1), some (vI x2), some (vI x3), some (vI x4), some (vI x5), none], mPush r1 [], h1) Q)))) ∧ (¬ ((sc 177) ≤ x6) → ((cO 11 = 9) ∧ ((cO 11 = 9) ∧ ((aK 188 = 0 ∧ (0 : Int) ≤ x6 ∧ x6 < (8 : Int)) ∧ ((aK 189 = 0 ∧ 189 ≠ 999 ∧ (0 : Int) ≤ x6 ∧ x6 < (8 : Int)) ∧ (Ev 2 M_Md_teams (107, [some (vO 11), some (vI x1), some (vI x2), some (vI x3), some (vI x4), some (vI x5), some (vI (x6 + 1))], [], (sc, (up ar 189 (up (ar 189) x6.toNat (ar 188 x6.toNat))))) Q))))))) from ⟨(by decide), ⟨⟨k.1, k.2.1⟩, fun c1 => ⟨(by decide), (k.2.2.1 c1)⟩, fun c1 => ⟨(by decide), ⟨(by decide), ⟨⟨(by decide), (k.2.2.2 c1).1, (k.2.2.2 c1).2.1⟩, ⟨⟨(by decide), (by decide), (k.2.2.2 c1).2.2.1, (k.2.2.2 c1).2.2.2.1⟩, (k.2.2.2 c1).2.2.2.2⟩⟩⟩⟩⟩⟩)
theorem sg_Md_teams_140 {sc : Nat → Int} {ar : Nat → Nat → Int} {x1 x2 x3 x4 x5 s0 : Int} {Q : Option mV → mH → Prop} (k : Ev 2 M_Md_teams (38, [some (vO 11), some (vI x1), some (vI x2), some (vI s0), none, none, none], [], (sc, ar)) Q) :
  Ev 2 M_Md_teams (140, [some (vO 11), some (vI x1), some (vI x2), some (vI x3), some (vI x4), some (vI x5), none], [vI s0], (sc, ar)) Q :=
  wq_ok 200 _ _ [(2, 3), (38, 4), (47, 4), (53, 5), (107, 7), (140, 6)] _ _ _ _ _ (show Ev 2 M_Md_teams (38, [some (vO 11), some (vI x1), some (vI x2), some (vI s0), none, none, none], [], (sc, ar)) Q from k)
theorem sg_Md_between_0 {sc : Nat → Int} {ar : Nat → Nat → Int} {x1 : Int} {Q : Option mV → mH → Prop} (k : inR x1 ∧ 
  (Ev 2 M_Md_in (0, [some (vL x1), none, some (vL 1), none, some (vL 8), none], [], ((up sc 176 0), ar)) (fun r1 h1 => Ev 3 M_Md_between (14, [some (vO 11), some (vI x1)], mPush r1 [], h1) Q))) :
  Ev 3 M_Md_between (0, [some (vO 11), some (vI x1)], [], (sc, ar)) Q :=
  wq_ok 200 _ _ [(14, 2), (25, 2)] _ _ _ _ _ (show (cO 11 = 9) ∧ ((inR x1) ∧ (Ev 2 M_Md_in (0, [some (vL x1), none, some (vL 1), none, some (vL 8), none], [], ((up sc 176 0), ar)) (fun r1 h1 => Ev 3 M_Md_between (14, [some (vO 11), some (vI x1)], mPush r1 [], h1) Q))) from ⟨(by decide), ⟨k.1, k.2⟩⟩)
theorem sg_Md_between_14 {sc : Nat → Int} {ar : Nat → Nat → Int} {x1 s0 : Int} {Q : Option mV → mH → Prop} (k : inR s0 ∧ 
  (s0 ≠ 0 → (Ev 2 M_Md_teams (0, [some (vO 11), some (vI x1), none, none, none, none, none], [], (sc, ar)) (fun r1 h1 => Ev 3 M_Md_between (25, [some (vO 11), some (vI x1)], mPush r1 [], h1) Q))) ∧ 
  (¬ (s0 ≠ 0) → (Q (some (vI (-2))) (sc, ar)))) :
  Ev 3 M_Md_between (14, [some (vO 11), some (vI x1)], [vI s0], (sc, ar)) Q :=
  wq_ok 200 _ _ [(14, 2), (25, 2)] _ _ _ _ _ (show (inR s0) ∧ (s0 ≠ 0 → ((cO 11 = mK M_Md_teams) ∧ (Ev 2 M_Md_teams (0, [some (vO 11), some (vI x1), none, none, none, none, none], [], (sc, ar)) (fun r1 h1 => Ev 3 M_Md_between (25, [some (vO 11), some (vI x1)], mPush r1 [], h1) Q)))) ∧ (¬ (s0 ≠ 0) → (Q (some (vI (-2))) (sc, ar))) from ⟨k.1, fun c1 => ⟨(by decide), (k.2.1 c1)⟩, fun c1 => (k.2.2 c1)⟩)
theorem sg_Md_between_25 {sc : Nat → Int} {ar : Nat → Nat → Int} {x1 : Int} {Q : Option mV → mH → Prop} (k : Q (some (vI (sc 190))) (sc, ar)) :
  Ev 3 M_Md_between (25, [some (vO 11), some (vI x1)], [], (sc, ar)) Q :=
  wq_ok 200 _ _ [(14, 2), (25, 2)] _ _ _ _ _ (show (cO 11 = 9) ∧ (Q (some (vI (sc 190))) (sc, ar)) from ⟨(by decide), k⟩)
theorem sg_Md_team_0 {sc : Nat → Int} {ar : Nat → Nat → Int} {x1 x2 : Int} {Q : Option mV → mH → Prop} (k : Ev 2 M_Md_no (0, [some (vO 11), some (vI x2)], [], ((up sc 176 0), ar)) (fun r1 h1 => Ev 3 M_Md_team (10, [some (vO 11), some (vI x1), some (vI x2)], mPush r1 [], h1) Q)) :
  Ev 3 M_Md_team (0, [some (vO 11), some (vI x1), some (vI x2)], [], (sc, ar)) Q :=
  wq_ok 200 _ _ [(10, 3), (24, 3), (35, 3)] _ _ _ _ _ (show (cO 11 = 9) ∧ ((cO 11 = mK M_Md_no) ∧ (Ev 2 M_Md_no (0, [some (vO 11), some (vI x2)], [], ((up sc 176 0), ar)) (fun r1 h1 => Ev 3 M_Md_team (10, [some (vO 11), some (vI x1), some (vI x2)], mPush r1 [], h1) Q))) from ⟨(by decide), ⟨(by decide), k⟩⟩)
theorem sg_Md_team_10 {sc : Nat → Int} {ar : Nat → Nat → Int} {x1 x2 s0 : Int} {Q : Option mV → mH → Prop} (k : inR s0 ∧ 
  (s0 = 0 → (inR x1 ∧ 
    (Ev 2 M_Md_in (0, [some (vL x1), none, some (vL 1), none, some (vL 8), none], [], (sc, ar)) (fun r1 h1 => Ev 3 M_Md_team (24, [some (vO 11), some (vI x1), some (vI x2)], mPush r1 [], h1) Q)))) ∧ 
  (¬ (s0 = 0) → (Q (some (vI (-1))) (sc, ar)))) :
  Ev 3 M_Md_team (10, [some (vO 11), some (vI x1), some (vI x2)], [vI s0], (sc, ar)) Q :=
  wq_ok 200 _ _ [(10, 3), (24, 3), (35, 3)] _ _ _ _ _ (show (inR s0) ∧ (s0 = 0 → ((inR x1) ∧ (Ev 2 M_Md_in (0, [some (vL x1), none, some (vL 1), none, some (vL 8), none], [], (sc, ar)) (fun r1 h1 => Ev 3 M_Md_team (24, [some (vO 11), some (vI x1), some (vI x2)], mPush r1 [], h1) Q)))) ∧ (¬ (s0 = 0) → (Q (some (vI (-1))) (sc, ar))) from ⟨k.1, fun c1 => ⟨(k.2.1 c1).1, (k.2.1 c1).2⟩, fun c1 => (k.2.2 c1)⟩)
theorem sg_Md_team_24 {sc : Nat → Int} {ar : Nat → Nat → Int} {x1 x2 s0 : Int} {Q : Option mV → mH → Prop} (k : inR s0 ∧ 
  (s0 ≠ 0 → (Ev 2 M_Md_teams (0, [some (vO 11), some (vI x1), none, none, none, none, none], [], (sc, ar)) (fun r1 h1 => Ev 3 M_Md_team (35, [some (vO 11), some (vI x1), some (vI x2)], mPush r1 [], h1) Q))) ∧ 
  (¬ (s0 ≠ 0) → (Q (some (vI (-2))) (sc, ar)))) :
  Ev 3 M_Md_team (24, [some (vO 11), some (vI x1), some (vI x2)], [vI s0], (sc, ar)) Q :=
  wq_ok 200 _ _ [(10, 3), (24, 3), (35, 3)] _ _ _ _ _ (show (inR s0) ∧ (s0 ≠ 0 → ((cO 11 = mK M_Md_teams) ∧ (Ev 2 M_Md_teams (0, [some (vO 11), some (vI x1), none, none, none, none, none], [], (sc, ar)) (fun r1 h1 => Ev 3 M_Md_team (35, [some (vO 11), some (vI x1), some (vI x2)], mPush r1 [], h1) Q)))) ∧ (¬ (s0 ≠ 0) → (Q (some (vI (-2))) (sc, ar))) from ⟨k.1, fun c1 => ⟨(by decide), (k.2.1 c1)⟩, fun c1 => (k.2.2 c1)⟩)
theorem sg_Md_team_35 {sc : Nat → Int} {ar : Nat → Nat → Int} {x1 x2 : Int} {Q : Option mV → mH → Prop} (k : (0 : Int) ≤ x2 ∧ x2 < (8 : Int) ∧ 
  (Q (some (vI (ar 189 x2.toNat))) (sc, ar))) :
  Ev 3 M_Md_team (35, [some (vO 11), some (vI x1), some (vI x2)], [], (sc, ar)) Q :=
  wq_ok 200 _ _ [(10, 3), (24, 3), (35, 3)] _ _ _ _ _ (show (cO 11 = 9) ∧ ((aK 189 = 0 ∧ (0 : Int) ≤ x2 ∧ x2 < (8 : Int)) ∧ (Q (some (vI (ar 189 x2.toNat))) (sc, ar))) from ⟨(by decide), ⟨⟨(by decide), k.1, k.2.1⟩, k.2.2⟩⟩)
theorem sg_Md_forces_0 {sc : Nat → Int} {ar : Nat → Nat → Int} {x1 : Int} {Q : Option mV → mH → Prop} (k : Ev 0 M_Md_forces (2, [some (vO 11), some (vI x1), some (vI 0), none, none, none, none], [], (sc, ar)) Q) :
  Ev 0 M_Md_forces (0, [some (vO 11), some (vI x1), none, none, none, none, none], [], (sc, ar)) Q :=
  wq_ok 200 _ _ [(2, 3), (34, 3), (42, 4), (53, 5)] _ _ _ _ _ (show Ev 0 M_Md_forces (2, [some (vO 11), some (vI x1), some (vI 0), none, none, none, none], [], (sc, ar)) Q from k)
theorem sg_Md_forces_2 {sc : Nat → Int} {ar : Nat → Nat → Int} {x1 x2 : Int} {Q : Option mV → mH → Prop} (k : inR x2 ∧ 
  (8 ≤ x2 → (Ev 0 M_Md_forces (34, [some (vO 11), some (vI x1), some (vI 0), none, none, none, none], [], (sc, ar)) Q)) ∧ 
  (¬ (8 ≤ x2) → (inR x2 ∧ inR x1 ∧ 
    (x2 ≠ x1 → ((0 : Int) ≤ x2 ∧ x2 < (8 : Int) ∧ 
      (Ev 0 M_Md_forces (2, [some (vO 11), some (vI x1), some (vI (x2 + 1)), none, none, none, none], [], (sc, (up ar 191 (up (ar 191) x2.toNat 0)))) Q))) ∧ 
    (¬ (x2 ≠ x1) → ((0 : Int) ≤ x2 ∧ x2 < (8 : Int) ∧ 
      (Ev 0 M_Md_forces (2, [some (vO 11), some (vI x1), some (vI (x2 + 1)), none, none, none, none], [], (sc, (up ar 191 (up (ar 191) x2.toNat 10000000)))) Q)))))) :
  Ev 0 M_Md_forces (2, [some (vO 11), some (vI x1), some (vI x2), none, none, none, none], [], (sc, ar)) Q :=
  wq_ok 200 _ _ [(2, 3), (34, 3), (42, 4), (53, 5)] _ _ _ _ _ (show (inR x2 ∧ inR 8) ∧ (8 ≤ x2 → (Ev 0 M_Md_forces (34, [some (vO 11), some (vI x1), some (vI 0), none, none, none, none], [], (sc, ar)) Q)) ∧ (¬ (8 ≤ x2) → ((cO 11 = 9) ∧ ((inR x2 ∧ inR x1) ∧ (x2 ≠ x1 → ((aK 191 = 1 ∧ 191 ≠ 999 ∧ (0 : Int) ≤ x2 ∧ x2 < (8 : Int)) ∧ (Ev 0 M_Md_forces (2, [some (vO 11), some (vI x1), some (vI (x2 + 1)), none, none, none, none], [], (sc, (up ar 191 (up (ar 191) x2.toNat 0)))) Q))) ∧ (¬ (x2 ≠ x1) → ((aK 191 = 1 ∧ 191 ≠ 999 ∧ (0 : Int) ≤ x2 ∧ x2 < (8 : Int)) ∧ (Ev 0 M_Md_forces (2, [some (vO 11), some (vI x1), some (vI (x2 + 1)), none, none, none, none], [], (sc, (up ar 191 (up (ar 191) x2.toNat 10000000)))) Q)))))) from ⟨⟨k.1, (by decide)⟩, fun c1 => (k.2.1 c1), fun c1 => ⟨(by decide), ⟨⟨(k.2.2 c1).1, (k.2.2 c1).2.1⟩, fun c2 => ⟨⟨(by decide), (by decide), ((k.2.2 c1).2.2.1 c2).1, ((k.2.2 c1).2.2.1 c2).2.1⟩, ((k.2.2 c1).2.2.1 c2).2.2⟩, fun c2 => ⟨⟨(by decide), (by decide), ((k.2.2 c1).2.2.2 c2).1, ((k.2.2 c1).2.2.2 c2).2.1⟩, ((k.2.2 c1).2.2.2 c2).2.2⟩⟩⟩⟩)
theorem sg_Md_forces_34 {sc : Nat → Int} {ar : Nat → Nat → Int} {x1 x2 : Int} {Q : Option mV → mH → Prop} (k : inR x2 ∧ 
  (8 ≤ x2 → (Q none (sc, ar))) ∧ 
  (¬ (8 ≤ x2) → (Ev 0 M_Md_forces (42, [some (vO 11), some (vI x1), some (vI x2), some (vI 0), none, none, none], [], (sc, ar)) Q))) :
  Ev 0 M_Md_forces (34, [some (vO 11), some (vI x1), some (vI x2), none, none, none, none], [], (sc, ar)) Q :=
  wq_ok 200 _ _ [(2, 3), (34, 3), (42, 4), (53, 5)] _ _ _ _ _ (show (inR x2 ∧ inR 8) ∧ (8 ≤ x2 → (Q none (sc, ar))) ∧ (¬ (8 ≤ x2) → (Ev 0 M_Md_forces (42, [some (vO 11), some (vI x1), some (vI x2), some (vI 0), none, none, none], [], (sc, ar)) Q)) from ⟨⟨k.1, (by decide)⟩, fun c1 => (k.2.1 c1), fun c1 => (k.2.2 c1)⟩)
theorem sg_Md_forces_42 {sc : Nat → Int} {ar : Nat → Nat → Int} {x1 x2 x3 : Int} {Q : Option mV → mH → Prop} (k : inR x3 ∧ inR (sc 177) ∧ 
  ((sc 177) ≤ x3 → (Ev 0 M_Md_forces (34, [some (vO 11), some (vI x1), some (vI (x2 + 1)), none, none, none, none], [], (sc, ar)) Q)) ∧ 
  (¬ ((sc 177) ≤ x3) → (Ev 0 M_Md_forces (53, [some (vO 11), some (vI x1), some (vI x2), some (vI x3), some (vI 0), none, none], [], (sc, ar)) Q))) :
  Ev 0 M_Md_forces (42, [some (vO 11), some (vI x1), some (vI x2), some (vI x3), none, none, none], [], (sc, ar)) Q :=
  wq_ok 200 _ _ [(2, 3), (34, 3), (42, 4), (53, 5)] _ _ _ _ _ (show (cO 11 = 9) ∧ ((inR x3 ∧ inR (sc 177)) ∧ ((sc 177) ≤ x3 → (Ev 0 M_Md_forces (34, [some (vO 11), some (vI x1), some (vI (x2 + 1)), none, none, none, none], [], (sc, ar)) Q)) ∧ (¬ ((sc 177) ≤ x3) → (Ev 0 M_Md_forces (53, [some (vO 11), some (vI x1), some (vI x2), some (vI x3), some (vI 0), none, none], [], (sc, ar)) Q))) from ⟨(by decide), ⟨⟨k.1, k.2.1⟩, fun c1 => (k.2.2.1 c1), fun c1 => (k.2.2.2 c1)⟩⟩)
theorem sg_Md_forces_53 {sc : Nat → Int} {ar : Nat → Nat → Int} {x1 x2 x3 x4 : Int} {Q : Option mV → mH → Prop} (k : inR x4 ∧ inR (sc 177) ∧ 
  ((sc 177) ≤ x4 → (Ev 0 M_Md_forces (42, [some (vO 11), some (vI x1), some (vI x2), some (vI (x3 + 1)), none, none, none], [], (sc, ar)) Q)) ∧ 
  (¬ ((sc 177) ≤ x4) → ((0 : Int) ≤ x3 ∧ x3 < (8 : Int) ∧ 
    ((0 : Int) ≤ ((8 * x4) + x3) ∧ ((8 * x4) + x3) < (64 : Int) ∧ 
    (inR (ar 179 ((8 * x4) + x3).toNat) ∧ 
    (inL ((ar 191 x3.toNat) * (ar 179 ((8 * x4) + x3).toNat)) ∧ 
    ((0 : Int) ≤ x4 ∧ x4 < (8 : Int) ∧ 
    (inL (Int.tdiv ((ar 191 x3.toNat) * (ar 179 ((8 * x4) + x3).toNat)) 10) ∧ inL (ar 191 x4.toNat) ∧ 
    (
    ((Int.tdiv ((ar 191 x3.toNat) * (ar 179 ((8 * x4) + x3).toNat)) 10) ≤ (ar 191 x4.toNat) → ((0 : Int) ≤ x4 ∧ x4 < (8 : Int) ∧ 
      ((0 : Int) ≤ x4 ∧ x4 < (8 : Int) ∧ 
      (Ev 0 M_Md_forces (53, [some (vO 11), some (vI x1), some (vI x2), some (vI x3), some (vI (x4 + 1)), none, none], [], (sc, (up ar 191 (up (ar 191) x4.toNat (ar 191 x4.toNat))))) Q)))) ∧ 
    (¬ ((Int.tdiv ((ar 191 x3.toNat) * (ar 179 ((8 * x4) + x3).toNat)) 10) ≤ (ar 191 x4.toNat)) → ((0 : Int) ≤ x4 ∧ x4 < (8 : Int) ∧ 
      (Ev 0 M_Md_forces (53, [some (vO 11), some (vI x1), some (vI x2), some (vI x3), some (vI (x4 + 1)), none, none], [], (sc, (up ar 191 (up (ar 191) x4.toNat (Int.tdiv ((ar 191 x3.toNat) * (ar 179 ((8 * x4) + x3).toNat)) 10))))) Q)))))))))))) :
  Ev 0 M_Md_forces (53, [some (vO 11), some (vI x1), some (vI x2), some (vI x3), some (vI x4), none, none], [], (sc, ar)) Q :=
  wq_ok 200 _ _ [(2, 3), (34, 3), (42, 4), (53, 5)] _ _ _ _ _ (show (cO 11 = 9) ∧ ((inR x4 ∧ inR (sc 177)) ∧ ((sc 177) ≤ x4 → (Ev 0 M_Md_forces (42, [some (vO 11), some (vI x1), some (vI x2), some (vI (x3 + 1)), none, none, none], [], (sc, ar)) Q)) ∧ (¬ ((sc 177) ≤ x4) → ((cO 11 = 9) ∧ ((aK 191 = 1 ∧ (0 : Int) ≤ x3 ∧ x3 < (8 : Int)) ∧ ((cO 11 = 9) ∧ ((aK 179 = 0 ∧ (0 : Int) ≤ ((8 * x4) + x3) ∧ ((8 * x4) + x3) < (64 : Int)) ∧ ((inR (ar 179 ((8 * x4) + x3).toNat)) ∧ ((inL ((ar 191 x3.toNat) * (ar 179 ((8 * x4) + x3).toNat)) ∧ inL 10 ∧ (0 : Int) < 10) ∧ ((cO 11 = 9) ∧ ((cO 11 = 9) ∧ ((aK 191 = 1 ∧ (0 : Int) ≤ x4 ∧ x4 < (8 : Int)) ∧ ((inL (Int.tdiv ((ar 191 x3.toNat) * (ar 179 ((8 * x4) + x3).toNat)) 10) ∧ inL (ar 191 x4.toNat)) ∧ ((inR (sgn (Int.tdiv ((ar 191 x3.toNat) * (ar 179 ((8 * x4) + x3).toNat)) 10) (ar 191 x4.toNat))) ∧ ((sgn (Int.tdiv ((ar 191 x3.toNat) * (ar 179 ((8 * x4) + x3).toNat)) 10) (ar 191 x4.toNat)) ≤ 0 → ((cO 11 = 9) ∧ ((aK 191 = 1 ∧ (0 : Int) ≤ x4 ∧ x4 < (8 : Int)) ∧ ((aK 191 = 1 ∧ 191 ≠ 999 ∧ (0 : Int) ≤ x4 ∧ x4 < (8 : Int)) ∧ (Ev 0 M_Md_forces (53, [some (vO 11), some (vI x1), some (vI x2), some (vI x3), some (vI (x4 + 1)), none, none], [], (sc, (up ar 191 (up (ar 191) x4.toNat (ar 191 x4.toNat))))) Q))))) ∧ (¬ ((sgn (Int.tdiv ((ar 191 x3.toNat) * (ar 179 ((8 * x4) + x3).toNat)) 10) (ar 191 x4.toNat)) ≤ 0) → ((aK 191 = 1 ∧ 191 ≠ 999 ∧ (0 : Int) ≤ x4 ∧ x4 < (8 : Int)) ∧ (Ev 0 M_Md_forces (53, [some (vO 11), some (vI x1), some (vI x2), some (vI x3), some (vI (x4 + 1)), none, none], [], (sc, (up ar 191 (up (ar 191) x4.toNat (Int.tdiv ((ar 191 x3.toNat) * (ar 179 ((8 * x4) + x3).toNat)) 10))))) Q)))))))))))))))) from ⟨(by decide), ⟨⟨k.1, k.2.1⟩, fun c1 => (k.2.2.1 c1), fun c1 => ⟨(by decide), ⟨⟨(by decide), (k.2.2.2 c1).1, (k.2.2.2 c1).2.1⟩, ⟨(by decide), ⟨⟨(by decide), (k.2.2.2 c1).2.2.1, (k.2.2.2 c1).2.2.2.1⟩, ⟨(k.2.2.2 c1).2.2.2.2.1, ⟨⟨(k.2.2.2 c1).2.2.2.2.2.1, (by decide), (by decide)⟩, ⟨(by decide), ⟨(by decide), ⟨⟨(by decide), (k.2.2.2 c1).2.2.2.2.2.2.1, (k.2.2.2 c1).2.2.2.2.2.2.2.1⟩, ⟨⟨(k.2.2.2 c1).2.2.2.2.2.2.2.2.1, (k.2.2.2 c1).2.2.2.2.2.2.2.2.2.1⟩, ⟨(sgn_in _ _), fun c2 => ⟨(by decide), ⟨⟨(by decide), ((k.2.2.2 c1).2.2.2.2.2.2.2.2.2.2.1 (sgn_le.mp c2)).1, ((k.2.2.2 c1).2.2.2.2.2.2.2.2.2.2.1 (sgn_le.mp c2)).2.1⟩, ⟨⟨(by decide), (by decide), ((k.2.2.2 c1).2.2.2.2.2.2.2.2.2.2.1 (sgn_le.mp c2)).2.2.1, ((k.2.2.2 c1).2.2.2.2.2.2.2.2.2.2.1 (sgn_le.mp c2)).2.2.2.1⟩, ((k.2.2.2 c1).2.2.2.2.2.2.2.2.2.2.1 (sgn_le.mp c2)).2.2.2.2⟩⟩⟩, fun c2 => ⟨⟨(by decide), (by decide), ((k.2.2.2 c1).2.2.2.2.2.2.2.2.2.2.2 (fun w => c2 (sgn_le.mpr w))).1, ((k.2.2.2 c1).2.2.2.2.2.2.2.2.2.2.2 (fun w => c2 (sgn_le.mpr w))).2.1⟩, ((k.2.2.2 c1).2.2.2.2.2.2.2.2.2.2.2 (fun w => c2 (sgn_le.mpr w))).2.2⟩⟩⟩⟩⟩⟩⟩⟩⟩⟩⟩⟩⟩⟩)
theorem sg_Md_force_0 {sc : Nat → Int} {ar : Nat → Nat → Int} {x1 x2 x3 : Int} {Q : Option mV → mH → Prop} (k : Ev 1 M_Md_no (0, [some (vO 11), some (vI x1)], [], ((up sc 176 0), ar)) (fun r1 h1 => Ev 2 M_Md_force (10, [some (vO 11), some (vI x1), some (vI x2), some (vI x3)], mPush r1 [], h1) Q)) :
  Ev 2 M_Md_force (0, [some (vO 11), some (vI x1), some (vI x2), some (vI x3)], [], (sc, ar)) Q :=
  wq_ok 200 _ _ [(10, 4), (18, 4), (30, 4), (43, 4)] _ _ _ _ _ (show (cO 11 = 9) ∧ ((cO 11 = mK M_Md_no) ∧ (Ev 1 M_Md_no (0, [some (vO 11), some (vI x1)], [], ((up sc 176 0), ar)) (fun r1 h1 => Ev 2 M_Md_force (10, [some (vO 11), some (vI x1), some (vI x2), some (vI x3)], mPush r1 [], h1) Q))) from ⟨(by decide), ⟨(by decide), k⟩⟩)
theorem sg_Md_force_10 {sc : Nat → Int} {ar : Nat → Nat → Int} {x1 x2 x3 s0 : Int} {Q : Option mV → mH → Prop} (k : inR s0 ∧ 
  (s0 ≠ 0 → (Q (some (vL (-1))) (sc, ar))) ∧ 
  (¬ (s0 ≠ 0) → (Ev 1 M_Md_no (0, [some (vO 11), some (vI x2)], [], (sc, ar)) (fun r1 h1 => Ev 2 M_Md_force (18, [some (vO 11), some (vI x1), some (vI x2), some (vI x3)], mPush r1 [], h1) Q)))) :
  Ev 2 M_Md_force (10, [some (vO 11), some (vI x1), some (vI x2), some (vI x3)], [vI s0], (sc, ar)) Q :=
  wq_ok 200 _ _ [(10, 4), (18, 4), (30, 4), (43, 4)] _ _ _ _ _ (show (inR s0) ∧ (s0 ≠ 0 → (Q (some (vL (-1))) (sc, ar))) ∧ (¬ (s0 ≠ 0) → ((cO 11 = mK M_Md_no) ∧ (Ev 1 M_Md_no (0, [some (vO 11), some (vI x2)], [], (sc, ar)) (fun r1 h1 => Ev 2 M_Md_force (18, [some (vO 11), some (vI x1), some (vI x2), some (vI x3)], mPush r1 [], h1) Q)))) from ⟨k.1, fun c1 => (k.2.1 c1), fun c1 => ⟨(by decide), (k.2.2 c1)⟩⟩)
theorem sg_Md_force_18 {sc : Nat → Int} {ar : Nat → Nat → Int} {x1 x2 x3 s0 : Int} {Q : Option mV → mH → Prop} (k : inR s0 ∧ 
  (s0 = 0 → (Ev 1 M_Md_forces (0, [some (vO 11), some (vI x1), none, none, none, none, none], [], (sc, ar)) (fun r1 h1 => Ev 2 M_Md_force (30, [some (vO 11), some (vI x1), some (vI x2), some (vI x3)], mPush r1 [], h1) Q))) ∧ 
  (¬ (s0 = 0) → (Q (some (vL (-1))) (sc, ar)))) :
  Ev 2 M_Md_force (18, [some (vO 11), some (vI x1), some (vI x2), some (vI x3)], [vI s0], (sc, ar)) Q :=
  wq_ok 200 _ _ [(10, 4), (18, 4), (30, 4), (43, 4)] _ _ _ _ _ (show (inR s0) ∧ (s0 = 0 → ((cO 11 = mK M_Md_forces) ∧ (Ev 1 M_Md_forces (0, [some (vO 11), some (vI x1), none, none, none, none, none], [], (sc, ar)) (fun r1 h1 => Ev 2 M_Md_force (30, [some (vO 11), some (vI x1), some (vI x2), some (vI x3)], mPush r1 [], h1) Q)))) ∧ (¬ (s0 = 0) → (Q (some (vL (-1))) (sc, ar))) from ⟨k.1, fun c1 => ⟨(by decide), (k.2.1 c1)⟩, fun c1 => (k.2.2 c1)⟩)
theorem sg_Md_force_30 {sc : Nat → Int} {ar : Nat → Nat → Int} {x1 x2 x3 : Int} {Q : Option mV → mH → Prop} (k : (0 : Int) ≤ x2 ∧ x2 < (8 : Int) ∧ 
  (Ev 1 M_Md_told (0, [some (vL (ar 191 x2.toNat)), none, some (vL 10000000), none, some (vI x3), none, none, none, none, none, none], [], (sc, ar)) (fun r1 h1 => Ev 2 M_Md_force (43, [some (vO 11), some (vI x1), some (vI x2), some (vI x3)], mPush r1 [], h1) Q))) :
  Ev 2 M_Md_force (30, [some (vO 11), some (vI x1), some (vI x2), some (vI x3)], [], (sc, ar)) Q :=
  wq_ok 200 _ _ [(10, 4), (18, 4), (30, 4), (43, 4)] _ _ _ _ _ (show (cO 11 = 9) ∧ ((aK 191 = 1 ∧ (0 : Int) ≤ x2 ∧ x2 < (8 : Int)) ∧ (Ev 1 M_Md_told (0, [some (vL (ar 191 x2.toNat)), none, some (vL 10000000), none, some (vI x3), none, none, none, none, none, none], [], (sc, ar)) (fun r1 h1 => Ev 2 M_Md_force (43, [some (vO 11), some (vI x1), some (vI x2), some (vI x3)], mPush r1 [], h1) Q))) from ⟨(by decide), ⟨⟨(by decide), k.1, k.2.1⟩, k.2.2⟩⟩)
theorem sg_Md_force_43 {sc : Nat → Int} {ar : Nat → Nat → Int} {x1 x2 x3 s0 : Int} {Q : Option mV → mH → Prop} (k : Q (some (vL s0)) (sc, ar)) :
  Ev 2 M_Md_force (43, [some (vO 11), some (vI x1), some (vI x2), some (vI x3)], [vL s0], (sc, ar)) Q :=
  wq_ok 200 _ _ [(10, 4), (18, 4), (30, 4), (43, 4)] _ _ _ _ _ (show Q (some (vL s0)) (sc, ar) from k)
theorem sg_Md_reach_0 {sc : Nat → Int} {ar : Nat → Nat → Int} {x1 x2 : Int} {Q : Option mV → mH → Prop} (k : Ev 1 M_Md_no (0, [some (vO 11), some (vI x1)], [], ((up sc 176 0), ar)) (fun r1 h1 => Ev 2 M_Md_reach (10, [some (vO 11), some (vI x1), some (vI x2), none, none], mPush r1 [], h1) Q)) :
  Ev 2 M_Md_reach (0, [some (vO 11), some (vI x1), some (vI x2), none, none], [], (sc, ar)) Q :=
  wq_ok 200 _ _ [(10, 3), (24, 3), (35, 3), (40, 5)] _ _ _ _ _ (show (cO 11 = 9) ∧ ((cO 11 = mK M_Md_no) ∧ (Ev 1 M_Md_no (0, [some (vO 11), some (vI x1)], [], ((up sc 176 0), ar)) (fun r1 h1 => Ev 2 M_Md_reach (10, [some (vO 11), some (vI x1), some (vI x2), none, none], mPush r1 [], h1) Q))) from ⟨(by decide), ⟨(by decide), k⟩⟩)
theorem sg_Md_reach_10 {sc : Nat → Int} {ar : Nat → Nat → Int} {x1 x2 s0 : Int} {Q : Option mV → mH → Prop} (k : inR s0 ∧ 
  (s0 = 0 → (inR x2 ∧ 
    (Ev 1 M_Md_in (0, [some (vL x2), none, some (vL 1), none, some (vL 1000), none], [], (sc, ar)) (fun r1 h1 => Ev 2 M_Md_reach (24, [some (vO 11), some (vI x1), some (vI x2), none, none], mPush r1 [], h1) Q)))) ∧ 
  (¬ (s0 = 0) → (Q (some (vI (-1))) (sc, ar)))) :
  Ev 2 M_Md_reach (10, [some (vO 11), some (vI x1), some (vI x2), none, none], [vI s0], (sc, ar)) Q :=
  wq_ok 200 _ _ [(10, 3), (24, 3), (35, 3), (40, 5)] _ _ _ _ _ (show (inR s0) ∧ (s0 = 0 → ((inR x2) ∧ (Ev 1 M_Md_in (0, [some (vL x2), none, some (vL 1), none, some (vL 1000), none], [], (sc, ar)) (fun r1 h1 => Ev 2 M_Md_reach (24, [some (vO 11), some (vI x1), some (vI x2), none, none], mPush r1 [], h1) Q)))) ∧ (¬ (s0 = 0) → (Q (some (vI (-1))) (sc, ar))) from ⟨k.1, fun c1 => ⟨(k.2.1 c1).1, (k.2.1 c1).2⟩, fun c1 => (k.2.2 c1)⟩)
theorem sg_Md_reach_24 {sc : Nat → Int} {ar : Nat → Nat → Int} {x1 x2 s0 : Int} {Q : Option mV → mH → Prop} (k : inR s0 ∧ 
  (s0 ≠ 0 → (Ev 1 M_Md_forces (0, [some (vO 11), some (vI x1), none, none, none, none, none], [], (sc, ar)) (fun r1 h1 => Ev 2 M_Md_reach (35, [some (vO 11), some (vI x1), some (vI x2), none, none], mPush r1 [], h1) Q))) ∧ 
  (¬ (s0 ≠ 0) → (Q (some (vI (-2))) (sc, ar)))) :
  Ev 2 M_Md_reach (24, [some (vO 11), some (vI x1), some (vI x2), none, none], [vI s0], (sc, ar)) Q :=
  wq_ok 200 _ _ [(10, 3), (24, 3), (35, 3), (40, 5)] _ _ _ _ _ (show (inR s0) ∧ (s0 ≠ 0 → ((cO 11 = mK M_Md_forces) ∧ (Ev 1 M_Md_forces (0, [some (vO 11), some (vI x1), none, none, none, none, none], [], (sc, ar)) (fun r1 h1 => Ev 2 M_Md_reach (35, [some (vO 11), some (vI x1), some (vI x2), none, none], mPush r1 [], h1) Q)))) ∧ (¬ (s0 ≠ 0) → (Q (some (vI (-2))) (sc, ar))) from ⟨k.1, fun c1 => ⟨(by decide), (k.2.1 c1)⟩, fun c1 => (k.2.2 c1)⟩)
theorem sg_Md_reach_35 {sc : Nat → Int} {ar : Nat → Nat → Int} {x1 x2 : Int} {Q : Option mV → mH → Prop} (k : Ev 2 M_Md_reach (40, [some (vO 11), some (vI x1), some (vI x2), some (vI 0), some (vI 0)], [], (sc, ar)) Q) :
  Ev 2 M_Md_reach (35, [some (vO 11), some (vI x1), some (vI x2), none, none], [], (sc, ar)) Q :=
  wq_ok 200 _ _ [(10, 3), (24, 3), (35, 3), (40, 5)] _ _ _ _ _ (show Ev 2 M_Md_reach (40, [some (vO 11), some (vI x1), some (vI x2), some (vI 0), some (vI 0)], [], (sc, ar)) Q from k)
theorem sg_Md_reach_40 {sc : Nat → Int} {ar : Nat → Nat → Int} {x1 x2 x3 x4 : Int} {Q : Option mV → mH → Prop} (k : inR x4 ∧ inR (sc 177) ∧ 
  ((sc 177) ≤ x4 → (Q (some (vI x3)) (sc, ar))) ∧ 
  (¬ ((sc 177) ≤ x4) → (inR x4 ∧ inR x1 ∧ 
    (x4 = x1 → (Ev 2 M_Md_reach (40, [some (vO 11), some (vI x1), some (vI x2), some (vI (x3 + 0)), some (vI (x4 + 1))], [], (sc, ar)) Q)) ∧ 
    (¬ (x4 = x1) → ((0 : Int) ≤ x4 ∧ x4 < (8 : Int) ∧ 
      (inR x2 ∧ 
      (inL (ar 191 x4.toNat) ∧ inL (x2 * 10000) ∧ 
      (
      ((ar 191 x4.toNat) < (x2 * 10000) → (Ev 2 M_Md_reach (40, [some (vO 11), some (vI x1), some (vI x2), some (vI (x3 + 0)), some (vI (x4 + 1))], [], (sc, ar)) Q)) ∧ 
      (¬ ((ar 191 x4.toNat) < (x2 * 10000)) → (Ev 2 M_Md_reach (40, [some (vO 11), some (vI x1), some (vI x2), some (vI (x3 + 1)), some (vI (x4 + 1))], [], (sc, ar)) Q)))))))))) :
  Ev 2 M_Md_reach (40, [some (vO 11), some (vI x1), some (vI x2), some (vI x3), some (vI x4)], [], (sc, ar)) Q :=
  wq_ok 200 _ _ [(10, 3), (24, 3), (35, 3), (40, 5)] _ _ _ _ _ (show (cO 11 = 9) ∧ ((inR x4 ∧ inR (sc 177)) ∧ ((sc 177) ≤ x4 → (Q (some (vI x3)) (sc, ar))) ∧ (¬ ((sc 177) ≤ x4) → ((inR x4 ∧ inR x1) ∧ (x4 = x1 → (Ev 2 M_Md_reach (40, [some (vO 11), some (vI x1), some (vI x2), some (vI (x3 + 0)), some (vI (x4 + 1))], [], (sc, ar)) Q)) ∧ (¬ (x4 = x1) → ((cO 11 = 9) ∧ ((aK 191 = 1 ∧ (0 : Int) ≤ x4 ∧ x4 < (8 : Int)) ∧ ((inR x2) ∧ ((inL (ar 191 x4.toNat) ∧ inL (x2 * 10000)) ∧ ((inR (sgn (ar 191 x4.toNat) (x2 * 10000))) ∧ ((sgn (ar 191 x4.toNat) (x2 * 10000)) < 0 → (Ev 2 M_Md_reach (40, [some (vO 11), some (vI x1), some (vI x2), some (vI (x3 + 0)), some (vI (x4 + 1))], [], (sc, ar)) Q)) ∧ (¬ ((sgn (ar 191 x4.toNat) (x2 * 10000)) < 0) → (Ev 2 M_Md_reach (40, [some (vO 11), some (vI x1), some (vI x2), some (vI (x3 + 1)), some (vI (x4 + 1))], [], (sc, ar)) Q))))))))))) from ⟨(by decide), ⟨⟨k.1, k.2.1⟩, fun c1 => (k.2.2.1 c1), fun c1 => ⟨⟨(k.2.2.2 c1).1, (k.2.2.2 c1).2.1⟩, fun c2 => ((k.2.2.2 c1).2.2.1 c2), fun c2 => ⟨(by decide), ⟨⟨(by decide), ((k.2.2.2 c1).2.2.2 c2).1, ((k.2.2.2 c1).2.2.2 c2).2.1⟩, ⟨((k.2.2.2 c1).2.2.2 c2).2.2.1, ⟨⟨((k.2.2.2 c1).2.2.2 c2).2.2.2.1, ((k.2.2.2 c1).2.2.2 c2).2.2.2.2.1⟩, ⟨(sgn_in _ _), fun c3 => (((k.2.2.2 c1).2.2.2 c2).2.2.2.2.2.1 (sgn_lt.mp c3)), fun c3 => (((k.2.2.2 c1).2.2.2 c2).2.2.2.2.2.2 (fun w => c3 (sgn_lt.mpr w)))⟩⟩⟩⟩⟩⟩⟩⟩)
theorem sg_Md_total_0 {sc : Nat → Int} {ar : Nat → Nat → Int} {x1 : Int} {Q : Option mV → mH → Prop} (k : Ev 0 M_Md_total (18, [some (vO 11), some (vI x1), some (vI 0), some (vI 0), some (vI 0), some (vI 0), some (vI 0)], [], ((up sc 176 0), ar)) Q) :
  Ev 0 M_Md_total (0, [some (vO 11), some (vI x1), none, none, none, none, none], [], (sc, ar)) Q :=
  wq_ok 200 _ _ [(18, 7), (82, 7)] _ _ _ _ _ (show (cO 11 = 9) ∧ (Ev 0 M_Md_total (18, [some (vO 11), some (vI x1), some (vI 0), some (vI 0), some (vI 0), some (vI 0), some (vI 0)], [], ((up sc 176 0), ar)) Q) from ⟨(by decide), k⟩)
theorem sg_Md_total_18 {sc : Nat → Int} {ar : Nat → Nat → Int} {x1 x2 x3 x4 x5 x6 : Int} {Q : Option mV → mH → Prop} (k : inR x6 ∧ 
  (64 ≤ x6 → (Ev 0 M_Md_total (82, [some (vO 11), some (vI x1), some (vI x2), some (vI x3), some (vI x4), some (vI x5), some (vI 0)], [], (sc, ar)) Q)) ∧ 
  (¬ (64 ≤ x6) → ((0 : Int) ≤ x6 ∧ x6 < (64 : Int) ∧ 
    (inR (ar 179 x6.toNat) ∧ 
    ((ar 179 x6.toNat) ≤ 0 → ((0 : Int) ≤ x6 ∧ x6 < (64 : Int) ∧ 
      ((0 : Int) ≤ x6 ∧ x6 < (64 : Int) ∧ 
      (inR (ar 180 x6.toNat) ∧ 
      ((ar 180 x6.toNat) ≤ 0 → (Ev 0 M_Md_total (18, [some (vO 11), some (vI x1), some (vI (x2 + 0)), some (vI (x3 + (ar 179 x6.toNat))), some (vI (x4 + 0)), some (vI x5), some (vI (x6 + 1))], [], (sc, ar)) Q)) ∧ 
      (¬ ((ar 180 x6.toNat) ≤ 0) → (Ev 0 M_Md_total (18, [some (vO 11), some (vI x1), some (vI (x2 + 0)), some (vI (x3 + (ar 179 x6.toNat))), some (vI (x4 + 1)), some (vI x5), some (vI (x6 + 1))], [], (sc, ar)) Q)))))) ∧ 
    (¬ ((ar 179 x6.toNat) ≤ 0) → ((0 : Int) ≤ x6 ∧ x6 < (64 : Int) ∧ 
      ((0 : Int) ≤ x6 ∧ x6 < (64 : Int) ∧ 
      (inR (ar 180 x6.toNat) ∧ 
      ((ar 180 x6.toNat) ≤ 0 → (Ev 0 M_Md_total (18, [some (vO 11), some (vI x1), some (vI (x2 + 1)), some (vI (x3 + (ar 179 x6.toNat))), some (vI (x4 + 0)), some (vI x5), some (vI (x6 + 1))], [], (sc, ar)) Q)) ∧ 
      (¬ ((ar 180 x6.toNat) ≤ 0) → (Ev 0 M_Md_total (18, [some (vO 11), some (vI x1), some (vI (x2 + 1)), some (vI (x3 + (ar 179 x6.toNat))), some (vI (x4 + 1)), some (vI x5), some (vI (x6 + 1))], [], (sc, ar)) Q)))))))))) :
  Ev 0 M_Md_total (18, [some (vO 11), some (vI x1), some (vI x2), some (vI x3), some (vI x4), some (vI x5), some (vI x6)], [], (sc, ar)) Q :=
  wq_ok 200 _ _ [(18, 7), (82, 7)] _ _ _ _ _ (show (inR x6 ∧ inR 64) ∧ (64 ≤ x6 → (Ev 0 M_Md_total (82, [some (vO 11), some (vI x1), some (vI x2), some (vI x3), some (vI x4), some (vI x5), some (vI 0)], [], (sc, ar)) Q)) ∧ (¬ (64 ≤ x6) → ((cO 11 = 9) ∧ ((aK 179 = 0 ∧ (0 : Int) ≤ x6 ∧ x6 < (64 : Int)) ∧ ((inR (ar 179 x6.toNat)) ∧ ((ar 179 x6.toNat) ≤ 0 → ((cO 11 = 9) ∧ ((aK 179 = 0 ∧ (0 : Int) ≤ x6 ∧ x6 < (64 : Int)) ∧ ((cO 11 = 9) ∧ ((aK 180 = 0 ∧ (0 : Int) ≤ x6 ∧ x6 < (64 : Int)) ∧ ((inR (ar 180 x6.toNat)) ∧ ((ar 180 x6.toNat) ≤ 0 → (Ev 0 M_Md_total (18, [some (vO 11), some (vI x1), some (vI (x2 + 0)), some (vI (x3 + (ar 179 x6.toNat))), some (vI (x4 + 0)), some (vI x5), some (vI (x6 + 1))], [], (sc, ar)) Q)) ∧ (¬ ((ar 180 x6.toNat) ≤ 0) → (Ev 0 M_Md_total (18, [some (vO 11), some (vI x1), some (vI (x2 + 0)), some (vI (x3 + (ar 179 x6.toNat))), some (vI (x4 + 1)), some (vI x5), some (vI (x6 + 1))], [], (sc, ar)) Q)))))))) ∧ (¬ ((ar 179 x6.toNat) ≤ 0) → ((cO 11 = 9) ∧ ((aK 179 = 0 ∧ (0 : Int) ≤ x6 ∧ x6 < (64 : Int)) ∧ ((cO 11 = 9) ∧ ((aK 180 = 0 ∧ (0 : Int) ≤ x6 ∧ x6 < (64 : Int)) ∧ ((inR (ar 180 x6.toNat)) ∧ ((ar 180 x6.toNat) ≤ 0 → (Ev 0 M_Md_total (18, [some (vO 11), some (vI x1), some (vI (x2 + 1)), some (vI (x3 + (ar 179 x6.toNat))), some (vI (x4 + 0)), some (vI x5), some (vI (x6 + 1))], [], (sc, ar)) Q)) ∧ (¬ ((ar 180 x6.toNat) ≤ 0) → (Ev 0 M_Md_total (18, [some (vO 11), some (vI x1), some (vI (x2 + 1)), some (vI (x3 + (ar 179 x6.toNat))), some (vI (x4 + 1)), some (vI x5), some (vI (x6 + 1))], [], (sc, ar)) Q)))))))))))) from ⟨⟨k.1, (by decide)⟩, fun c1 => (k.2.1 c1), fun c1 => ⟨(by decide), ⟨⟨(by decide), (k.2.2 c1).1, (k.2.2 c1).2.1⟩, ⟨(k.2.2 c1).2.2.1, fun c2 => ⟨(by decide), ⟨⟨(by decide), ((k.2.2 c1).2.2.2.1 c2).1, ((k.2.2 c1).2.2.2.1 c2).2.1⟩, ⟨(by decide), ⟨⟨(by decide), ((k.2.2 c1).2.2.2.1 c2).2.2.1, ((k.2.2 c1).2.2.2.1 c2).2.2.2.1⟩, ⟨((k.2.2 c1).2.2.2.1 c2).2.2.2.2.1, fun c3 => (((k.2.2 c1).2.2.2.1 c2).2.2.2.2.2.1 c3), fun c3 => (((k.2.2 c1).2.2.2.1 c2).2.2.2.2.2.2 c3)⟩⟩⟩⟩⟩, fun c2 => ⟨(by decide), ⟨⟨(by decide), ((k.2.2 c1).2.2.2.2 c2).1, ((k.2.2 c1).2.2.2.2 c2).2.1⟩, ⟨(by decide), ⟨⟨(by decide), ((k.2.2 c1).2.2.2.2 c2).2.2.1, ((k.2.2 c1).2.2.2.2 c2).2.2.2.1⟩, ⟨((k.2.2 c1).2.2.2.2 c2).2.2.2.2.1, fun c4 => (((k.2.2 c1).2.2.2.2 c2).2.2.2.2.2.1 c4), fun c4 => (((k.2.2 c1).2.2.2.2 c2).2.2.2.2.2.2 c4)⟩⟩⟩⟩⟩⟩⟩⟩⟩)
theorem sg_Md_total_82 {sc : Nat → Int} {ar : Nat → Nat → Int} {x1 x2 x3 x4 x5 x6 : Int} {Q : Option mV → mH → Prop} (k : inR x6 ∧ inR (sc 177) ∧ 
  ((sc 177) ≤ x6 → (inR x1 ∧ 
    (x1 ≠ 0 → (inR x1 ∧ 
      (x1 ≠ 1 → (inR x1 ∧ 
        (x1 ≠ 2 → (inR x1 ∧ 
          (x1 ≠ 3 → (inR x1 ∧ 
            (x1 ≠ 4 → (Q (some (vI (-2))) (sc, ar))) ∧ 
            (¬ (x1 ≠ 4) → (Q (some (vI x5)) (sc, ar))))) ∧ 
          (¬ (x1 ≠ 3) → (Q (some (vI x4)) (sc, ar))))) ∧ 
        (¬ (x1 ≠ 2) → (Q (some (vI x3)) (sc, ar))))) ∧ 
      (¬ (x1 ≠ 1) → (Q (some (vI x2)) (sc, ar))))) ∧ 
    (¬ (x1 ≠ 0) → (Q (some (vI (sc 177))) (sc, ar))))) ∧ 
  (¬ ((sc 177) ≤ x6) → ((0 : Int) ≤ x6 ∧ x6 < (8 : Int) ∧ 
    (Ev 0 M_Md_total (82, [some (vO 11), some (vI x1), some (vI x2), some (vI x3), some (vI x4), some (vI (x5 + (ar 178 x6.toNat))), some (vI (x6 + 1))], [], (sc, ar)) Q)))) :
  Ev 0 M_Md_total (82, [some (vO 11), some (vI x1), some (vI x2), some (vI x3), some (vI x4), some (vI x5), some (vI x6)], [], (sc, ar)) Q :=
  wq_ok 200 _ _ [(18, 7), (82, 7)] _ _ _ _ _ (show (cO 11 = 9) ∧ ((inR x6 ∧ inR (sc 177)) ∧ ((sc 177) ≤ x6 → ((inR x1) ∧ (x1 ≠ 0 → ((inR x1 ∧ inR 1) ∧ (x1 ≠ 1 → ((inR x1 ∧ inR 2) ∧ (x1 ≠ 2 → ((inR x1 ∧ inR 3) ∧ (x1 ≠ 3 → ((inR x1 ∧ inR 4) ∧ (x1 ≠ 4 → (Q (some (vI (-2))) (sc, ar))) ∧ (¬ (x1 ≠ 4) → (Q (some (vI x5)) (sc, ar))))) ∧ (¬ (x1 ≠ 3) → (Q (some (vI x4)) (sc, ar))))) ∧ (¬ (x1 ≠ 2) → (Q (some (vI x3)) (sc, ar))))) ∧ (¬ (x1 ≠ 1) → (Q (some (vI x2)) (sc, ar))))) ∧ (¬ (x1 ≠ 0) → ((cO 11 = 9) ∧ (Q (some (vI (sc 177))) (sc, ar)))))) ∧ (¬ ((sc 177) ≤ x6) → ((cO 11 = 9) ∧ ((aK 178 = 0 ∧ (0 : Int) ≤ x6 ∧ x6 < (8 : Int)) ∧ (Ev 0 M_Md_total (82, [some (vO 11), some (vI x1), some (vI x2), some (vI x3), some (vI x4), some (vI (x5 + (ar 178 x6.toNat))), some (vI (x6 + 1))], [], (sc, ar)) Q))))) from ⟨(by decide), ⟨⟨k.1, k.2.1⟩, fun c1 => ⟨(k.2.2.1 c1).1, fun c2 => ⟨⟨((k.2.2.1 c1).2.1 c2).1, (by decide)⟩, fun c3 => ⟨⟨(((k.2.2.1 c1).2.1 c2).2.1 c3).1, (by decide)⟩, fun c4 => ⟨⟨((((k.2.2.1 c1).2.1 c2).2.1 c3).2.1 c4).1, (by decide)⟩, fun c5 => ⟨⟨(((((k.2.2.1 c1).2.1 c2).2.1 c3).2.1 c4).2.1 c5).1, (by decide)⟩, fun c6 => ((((((k.2.2.1 c1).2.1 c2).2.1 c3).2.1 c4).2.1 c5).2.1 c6), fun c6 => ((((((k.2.2.1 c1).2.1 c2).2.1 c3).2.1 c4).2.1 c5).2.2 c6)⟩, fun c5 => (((((k.2.2.1 c1).2.1 c2).2.1 c3).2.1 c4).2.2 c5)⟩, fun c4 => ((((k.2.2.1 c1).2.1 c2).2.1 c3).2.2 c4)⟩, fun c3 => (((k.2.2.1 c1).2.1 c2).2.2 c3)⟩, fun c2 => ⟨(by decide), ((k.2.2.1 c1).2.2 c2)⟩⟩, fun c1 => ⟨(by decide), ⟨⟨(by decide), (k.2.2.2 c1).1, (k.2.2.2 c1).2.1⟩, (k.2.2.2 c1).2.2⟩⟩⟩⟩)

/-! segments of the methods, printed by tools/seg.py: what must hold at a place for the walk to the next ones -/
theorem sg_Dt_task_0 {sc : Nat → Int} {ar : Nat → Nat → Int} {x1 : Int} {Q : Option mV → mH → Prop} (k : Ev 1 M_Dt_isTime (0, [some (vI x1)], [], (sc, ar)) (fun r1 h1 => Ev 2 M_Dt_task (4, [some (vO 0), some (vI x1), none], mPush r1 [], h1) Q)) :
  Ev 2 M_Dt_task (0, [some (vO 0), some (vI x1), none], [], (sc, ar)) Q :=
  wq_ok 200 _ _ [(4, 2), (52, 3)] _ _ _ _ _ (show Ev 1 M_Dt_isTime (0, [some (vI x1)], [], (sc, ar)) (fun r1 h1 => Ev 2 M_Dt_task (4, [some (vO 0), some (vI x1), none], mPush r1 [], h1) Q) from k)
theorem sg_Dt_task_4 {sc : Nat → Int} {ar : Nat → Nat → Int} {x1 s0 : Int} {Q : Option mV → mH → Prop} (k : inR s0 ∧ 
  (s0 ≠ 0 → (inR (sc 10) ∧ 
    ((sc 10) < 8 → ((0 : Int) ≤ (sc 10) ∧ (sc 10) < (8 : Int) ∧ 
      (Ev 1 M_Order_restart (0, [some (vO 3), some (vI ((sc 10) + 1)), none], [], ((up sc 10 ((sc 10) + 1)), (up ar 0 (up (ar 0) (sc 10).toNat x1)))) (fun r1 h1 => Ev 2 M_Dt_task (52, [some (vO 0), some (vI x1), some (vI (sc 10))], mPush r1 [], h1) Q)))) ∧ 
    (¬ ((sc 10) < 8) → (Q (some (vI (-4))) (sc, ar))))) ∧ 
  (¬ (s0 ≠ 0) → (Q (some (vI (-2))) (sc, ar)))) :
  Ev 2 M_Dt_task (4, [some (vO 0), some (vI x1), none], [vI s0], (sc, ar)) Q :=
  wq_ok 200 _ _ [(4, 2), (52, 3)] _ _ _ _ _ (show (inR s0) ∧ (s0 ≠ 0 → ((cO 0 = 8) ∧ ((inR (sc 10) ∧ inR 8) ∧ ((sc 10) < 8 → ((cO 0 = 8) ∧ ((cO 0 = 8) ∧ ((aK 0 = 0 ∧ 0 ≠ 999 ∧ (0 : Int) ≤ (sc 10) ∧ (sc 10) < (8 : Int)) ∧ ((cO 0 = 8) ∧ ((cO 0 = 8) ∧ ((cO 0 = 8) ∧ ((cO 3 = mK M_Order_restart) ∧ (Ev 1 M_Order_restart (0, [some (vO 3), some (vI ((sc 10) + 1)), none], [], ((up sc 10 ((sc 10) + 1)), (up ar 0 (up (ar 0) (sc 10).toNat x1)))) (fun r1 h1 => Ev 2 M_Dt_task (52, [some (vO 0), some (vI x1), some (vI (sc 10))], mPush r1 [], h1) Q)))))))))) ∧ (¬ ((sc 10) < 8) → (Q (some (vI (-4))) (sc, ar)))))) ∧ (¬ (s0 ≠ 0) → (Q (some (vI (-2))) (sc, ar))) from ⟨k.1, fun c1 => ⟨(by decide), ⟨⟨(k.2.1 c1).1, (by decide)⟩, fun c2 => ⟨(by decide), ⟨(by decide), ⟨⟨(by decide), (by decide), ((k.2.1 c1).2.1 c2).1, ((k.2.1 c1).2.1 c2).2.1⟩, ⟨(by decide), ⟨(by decide), ⟨(by decide), ⟨(by decide), ((k.2.1 c1).2.1 c2).2.2⟩⟩⟩⟩⟩⟩⟩, fun c2 => ((k.2.1 c1).2.2 c2)⟩⟩, fun c1 => (k.2.2 c1)⟩)
theorem sg_Dt_task_52 {sc : Nat → Int} {ar : Nat → Nat → Int} {x1 x2 : Int} {Q : Option mV → mH → Prop} (k : Q (some (vI x2)) (sc, ar)) :
  Ev 2 M_Dt_task (52, [some (vO 0), some (vI x1), some (vI x2)], [], (sc, ar)) Q :=
  wq_ok 200 _ _ [(4, 2), (52, 3)] _ _ _ _ _ (show Q (some (vI x2)) (sc, ar) from k)
theorem sg_Dt_time_0 {sc : Nat → Int} {ar : Nat → Nat → Int} {x1 x2 : Int} {Q : Option mV → mH → Prop} (k : Ev 0 M_Dt_isTask (0, [some (vO 0), some (vI x1)], [], (sc, ar)) (fun r1 h1 => Ev 1 M_Dt_time (5, [some (vO 0), some (vI x1), some (vI x2), none], mPush r1 [], h1) Q)) :
  Ev 1 M_Dt_time (0, [some (vO 0), some (vI x1), some (vI x2), none], [], (sc, ar)) Q :=
  wq_ok 200 _ _ [(5, 3), (14, 3)] _ _ _ _ _ (show (cO 0 = mK M_Dt_isTask) ∧ (Ev 0 M_Dt_isTask (0, [some (vO 0), some (vI x1)], [], (sc, ar)) (fun r1 h1 => Ev 1 M_Dt_time (5, [some (vO 0), some (vI x1), some (vI x2), none], mPush r1 [], h1) Q)) from ⟨(by decide), k⟩)
theorem sg_Dt_time_5 {sc : Nat → Int} {ar : Nat → Nat → Int} {x1 x2 s0 : Int} {Q : Option mV → mH → Prop} (k : inR s0 ∧ 
  (s0 ≠ 0 → (Ev 0 M_Dt_isTime (0, [some (vI x2)], [], (sc, ar)) (fun r1 h1 => Ev 1 M_Dt_time (14, [some (vO 0), some (vI x1), some (vI x2), none], mPush r1 [], h1) Q))) ∧ 
  (¬ (s0 ≠ 0) → (Q (some (vI (-1))) (sc, ar)))) :
  Ev 1 M_Dt_time (5, [some (vO 0), some (vI x1), some (vI x2), none], [vI s0], (sc, ar)) Q :=
  wq_ok 200 _ _ [(5, 3), (14, 3)] _ _ _ _ _ (show (inR s0) ∧ (s0 ≠ 0 → (Ev 0 M_Dt_isTime (0, [some (vI x2)], [], (sc, ar)) (fun r1 h1 => Ev 1 M_Dt_time (14, [some (vO 0), some (vI x1), some (vI x2), none], mPush r1 [], h1) Q))) ∧ (¬ (s0 ≠ 0) → (Q (some (vI (-1))) (sc, ar))) from ⟨k.1, fun c1 => (k.2.1 c1), fun c1 => (k.2.2 c1)⟩)
theorem sg_Dt_time_14 {sc : Nat → Int} {ar : Nat → Nat → Int} {x1 x2 s0 : Int} {Q : Option mV → mH → Prop} (k : inR s0 ∧ 
  (s0 ≠ 0 → ((0 : Int) ≤ x1 ∧ x1 < (8 : Int) ∧ 
    ((0 : Int) ≤ x1 ∧ x1 < (8 : Int) ∧ 
    (Q (some (vI (ar 0 x1.toNat))) (sc, (up ar 0 (up (ar 0) x1.toNat x2))))))) ∧ 
  (¬ (s0 ≠ 0) → (Q (some (vI (-2))) (sc, ar)))) :
  Ev 1 M_Dt_time (14, [some (vO 0), some (vI x1), some (vI x2), none], [vI s0], (sc, ar)) Q :=
  wq_ok 200 _ _ [(5, 3), (14, 3)] _ _ _ _ _ (show (inR s0) ∧ (s0 ≠ 0 → ((cO 0 = 8) ∧ ((aK 0 = 0 ∧ (0 : Int) ≤ x1 ∧ x1 < (8 : Int)) ∧ ((cO 0 = 8) ∧ ((aK 0 = 0 ∧ 0 ≠ 999 ∧ (0 : Int) ≤ x1 ∧ x1 < (8 : Int)) ∧ (Q (some (vI (ar 0 x1.toNat))) (sc, (up ar 0 (up (ar 0) x1.toNat x2))))))))) ∧ (¬ (s0 ≠ 0) → (Q (some (vI (-2))) (sc, ar))) from ⟨k.1, fun c1 => ⟨(by decide), ⟨⟨(by decide), (k.2.1 c1).1, (k.2.1 c1).2.1⟩, ⟨(by decide), ⟨⟨(by decide), (by decide), (k.2.1 c1).2.2.1, (k.2.1 c1).2.2.2.1⟩, (k.2.1 c1).2.2.2.2⟩⟩⟩⟩, fun c1 => (k.2.2 c1)⟩)
theorem sg_Dt_need_0 {sc : Nat → Int} {ar : Nat → Nat → Int} {x1 x2 x3 : Int} {Q : Option mV → mH → Prop} (k : Ev 1 M_Dt_isTask (0, [some (vO 0), some (vI x1)], [], (sc, ar)) (fun r1 h1 => Ev 2 M_Dt_need (5, [some (vO 0), some (vI x1), some (vI x2), some (vI x3)], mPush r1 [], h1) Q)) :
  Ev 2 M_Dt_need (0, [some (vO 0), some (vI x1), some (vI x2), some (vI x3)], [], (sc, ar)) Q :=
  wq_ok 200 _ _ [(5, 4), (13, 4), (49, 4)] _ _ _ _ _ (show (cO 0 = mK M_Dt_isTask) ∧ (Ev 1 M_Dt_isTask (0, [some (vO 0), some (vI x1)], [], (sc, ar)) (fun r1 h1 => Ev 2 M_Dt_need (5, [some (vO 0), some (vI x1), some (vI x2), some (vI x3)], mPush r1 [], h1) Q)) from ⟨(by decide), k⟩)
theorem sg_Dt_need_5 {sc : Nat → Int} {ar : Nat → Nat → Int} {x1 x2 x3 s0 : Int} {Q : Option mV → mH → Prop} (k : inR s0 ∧ 
  (s0 = 0 → (Q (some (vI (-1))) (sc, ar))) ∧ 
  (¬ (s0 = 0) → (Ev 1 M_Dt_isTask (0, [some (vO 0), some (vI x2)], [], (sc, ar)) (fun r1 h1 => Ev 2 M_Dt_need (13, [some (vO 0), some (vI x1), some (vI x2), some (vI x3)], mPush r1 [], h1) Q)))) :
  Ev 2 M_Dt_need (5, [some (vO 0), some (vI x1), some (vI x2), some (vI x3)], [vI s0], (sc, ar)) Q :=
  wq_ok 200 _ _ [(5, 4), (13, 4), (49, 4)] _ _ _ _ _ (show (inR s0) ∧ (s0 = 0 → (Q (some (vI (-1))) (sc, ar))) ∧ (¬ (s0 = 0) → ((cO 0 = mK M_Dt_isTask) ∧ (Ev 1 M_Dt_isTask (0, [some (vO 0), some (vI x2)], [], (sc, ar)) (fun r1 h1 => Ev 2 M_Dt_need (13, [some (vO 0), some (vI x1), some (vI x2), some (vI x3)], mPush r1 [], h1) Q)))) from ⟨k.1, fun c1 => (k.2.1 c1), fun c1 => ⟨(by decide), (k.2.2 c1)⟩⟩)
theorem sg_Dt_need_13 {sc : Nat → Int} {ar : Nat → Nat → Int} {x1 x2 x3 s0 : Int} {Q : Option mV → mH → Prop} (k : inR s0 ∧ 
  (s0 ≠ 0 → (inR x3 ∧ 
    (x3 < 0 → (Q (some (vI (-2))) (sc, ar))) ∧ 
    (¬ (x3 < 0) → (inR x3 ∧ 
      (x3 ≤ 9 → (inR x1 ∧ inR x2 ∧ 
        (x1 ≠ x2 → (Ev 1 M_Table_put (0, [some (vO 1), some (vI x1), some (vI x2), some (vI x3), none, none], [], (sc, ar)) (fun r1 h1 => Ev 2 M_Dt_need (49, [some (vO 0), some (vI x1), some (vI x2), some (vI x3)], mPush r1 [], h1) Q))) ∧ 
        (¬ (x1 ≠ x2) → (Q (some (vI (-3))) (sc, ar))))) ∧ 
      (¬ (x3 ≤ 9) → (Q (some (vI (-2))) (sc, ar))))))) ∧ 
  (¬ (s0 ≠ 0) → (Q (some (vI (-1))) (sc, ar)))) :
  Ev 2 M_Dt_need (13, [some (vO 0), some (vI x1), some (vI x2), some (vI x3)], [vI s0], (sc, ar)) Q :=
  wq_ok 200 _ _ [(5, 4), (13, 4), (49, 4)] _ _ _ _ _ (show (inR s0) ∧ (s0 ≠ 0 → ((inR x3) ∧ (x3 < 0 → (Q (some (vI (-2))) (sc, ar))) ∧ (¬ (x3 < 0) → ((inR x3 ∧ inR 9) ∧ (x3 ≤ 9 → ((inR x1 ∧ inR x2) ∧ (x1 ≠ x2 → ((cO 0 = 8) ∧ ((cO 1 = mK M_Table_put) ∧ (Ev 1 M_Table_put (0, [some (vO 1), some (vI x1), some (vI x2), some (vI x3), none, none], [], (sc, ar)) (fun r1 h1 => Ev 2 M_Dt_need (49, [some (vO 0), some (vI x1), some (vI x2), some (vI x3)], mPush r1 [], h1) Q))))) ∧ (¬ (x1 ≠ x2) → (Q (some (vI (-3))) (sc, ar))))) ∧ (¬ (x3 ≤ 9) → (Q (some (vI (-2))) (sc, ar))))))) ∧ (¬ (s0 ≠ 0) → (Q (some (vI (-1))) (sc, ar))) from ⟨k.1, fun c1 => ⟨(k.2.1 c1).1, fun c2 => ((k.2.1 c1).2.1 c2), fun c2 => ⟨⟨((k.2.1 c1).2.2 c2).1, (by decide)⟩, fun c3 => ⟨⟨(((k.2.1 c1).2.2 c2).2.1 c3).1, (((k.2.1 c1).2.2 c2).2.1 c3).2.1⟩, fun c4 => ⟨(by decide), ⟨(by decide), ((((k.2.1 c1).2.2 c2).2.1 c3).2.2.1 c4)⟩⟩, fun c4 => ((((k.2.1 c1).2.2 c2).2.1 c3).2.2.2 c4)⟩, fun c3 => (((k.2.1 c1).2.2 c2).2.2 c3)⟩⟩, fun c1 => (k.2.2 c1)⟩)
theorem sg_Dt_need_49 {sc : Nat → Int} {ar : Nat → Nat → Int} {x1 x2 x3 s0 : Int} {Q : Option mV → mH → Prop} (k : Q (some (vI s0)) (sc, ar)) :
  Ev 2 M_Dt_need (49, [some (vO 0), some (vI x1), some (vI x2), some (vI x3)], [vI s0], (sc, ar)) Q :=
  wq_ok 200 _ _ [(5, 4), (13, 4), (49, 4)] _ _ _ _ _ (show Q (some (vI s0)) (sc, ar) from k)
theorem sg_Dt_strength_0 {sc : Nat → Int} {ar : Nat → Nat → Int} {x1 x2 : Int} {Q : Option mV → mH → Prop} (k : Ev 1 M_Dt_isTask (0, [some (vO 0), some (vI x1)], [], (sc, ar)) (fun r1 h1 => Ev 2 M_Dt_strength (5, [some (vO 0), some (vI x1), some (vI x2)], mPush r1 [], h1) Q)) :
  Ev 2 M_Dt_strength (0, [some (vO 0), some (vI x1), some (vI x2)], [], (sc, ar)) Q :=
  wq_ok 200 _ _ [(5, 3), (13, 3), (27, 3)] _ _ _ _ _ (show (cO 0 = mK M_Dt_isTask) ∧ (Ev 1 M_Dt_isTask (0, [some (vO 0), some (vI x1)], [], (sc, ar)) (fun r1 h1 => Ev 2 M_Dt_strength (5, [some (vO 0), some (vI x1), some (vI x2)], mPush r1 [], h1) Q)) from ⟨(by decide), k⟩)
theorem sg_Dt_strength_5 {sc : Nat → Int} {ar : Nat → Nat → Int} {x1 x2 s0 : Int} {Q : Option mV → mH → Prop} (k : inR s0 ∧ 
  (s0 = 0 → (Q (some (vI (-1))) (sc, ar))) ∧ 
  (¬ (s0 = 0) → (Ev 1 M_Dt_isTask (0, [some (vO 0), some (vI x2)], [], (sc, ar)) (fun r1 h1 => Ev 2 M_Dt_strength (13, [some (vO 0), some (vI x1), some (vI x2)], mPush r1 [], h1) Q)))) :
  Ev 2 M_Dt_strength (5, [some (vO 0), some (vI x1), some (vI x2)], [vI s0], (sc, ar)) Q :=
  wq_ok 200 _ _ [(5, 3), (13, 3), (27, 3)] _ _ _ _ _ (show (inR s0) ∧ (s0 = 0 → (Q (some (vI (-1))) (sc, ar))) ∧ (¬ (s0 = 0) → ((cO 0 = mK M_Dt_isTask) ∧ (Ev 1 M_Dt_isTask (0, [some (vO 0), some (vI x2)], [], (sc, ar)) (fun r1 h1 => Ev 2 M_Dt_strength (13, [some (vO 0), some (vI x1), some (vI x2)], mPush r1 [], h1) Q)))) from ⟨k.1, fun c1 => (k.2.1 c1), fun c1 => ⟨(by decide), (k.2.2 c1)⟩⟩)
theorem sg_Dt_strength_13 {sc : Nat → Int} {ar : Nat → Nat → Int} {x1 x2 s0 : Int} {Q : Option mV → mH → Prop} (k : inR s0 ∧ 
  (s0 ≠ 0 → (Ev 1 M_Table_get (0, [some (vO 1), some (vI x1), some (vI x2)], [], (sc, ar)) (fun r1 h1 => Ev 2 M_Dt_strength (27, [some (vO 0), some (vI x1), some (vI x2)], mPush r1 [], h1) Q))) ∧ 
  (¬ (s0 ≠ 0) → (Q (some (vI (-1))) (sc, ar)))) :
  Ev 2 M_Dt_strength (13, [some (vO 0), some (vI x1), some (vI x2)], [vI s0], (sc, ar)) Q :=
  wq_ok 200 _ _ [(5, 3), (13, 3), (27, 3)] _ _ _ _ _ (show (inR s0) ∧ (s0 ≠ 0 → ((cO 0 = 8) ∧ ((cO 1 = mK M_Table_get) ∧ (Ev 1 M_Table_get (0, [some (vO 1), some (vI x1), some (vI x2)], [], (sc, ar)) (fun r1 h1 => Ev 2 M_Dt_strength (27, [some (vO 0), some (vI x1), some (vI x2)], mPush r1 [], h1) Q))))) ∧ (¬ (s0 ≠ 0) → (Q (some (vI (-1))) (sc, ar))) from ⟨k.1, fun c1 => ⟨(by decide), ⟨(by decide), (k.2.1 c1)⟩⟩, fun c1 => (k.2.2 c1)⟩)
theorem sg_Dt_strength_27 {sc : Nat → Int} {ar : Nat → Nat → Int} {x1 x2 s0 : Int} {Q : Option mV → mH → Prop} (k : Q (some (vI s0)) (sc, ar)) :
  Ev 2 M_Dt_strength (27, [some (vO 0), some (vI x1), some (vI x2)], [vI s0], (sc, ar)) Q :=
  wq_ok 200 _ _ [(5, 3), (13, 3), (27, 3)] _ _ _ _ _ (show Q (some (vI s0)) (sc, ar) from k)
theorem sg_Dt_leans_0 {sc : Nat → Int} {ar : Nat → Nat → Int} {x1 x2 : Int} {Q : Option mV → mH → Prop} (k : Ev 5 M_Dt_isTask (0, [some (vO 0), some (vI x1)], [], (sc, ar)) (fun r1 h1 => Ev 6 M_Dt_leans (5, [some (vO 0), some (vI x1), some (vI x2)], mPush r1 [], h1) Q)) :
  Ev 6 M_Dt_leans (0, [some (vO 0), some (vI x1), some (vI x2)], [], (sc, ar)) Q :=
  wq_ok 200 _ _ [(5, 3), (13, 3), (33, 3), (42, 3)] _ _ _ _ _ (show (cO 0 = mK M_Dt_isTask) ∧ (Ev 5 M_Dt_isTask (0, [some (vO 0), some (vI x1)], [], (sc, ar)) (fun r1 h1 => Ev 6 M_Dt_leans (5, [some (vO 0), some (vI x1), some (vI x2)], mPush r1 [], h1) Q)) from ⟨(by decide), k⟩)
theorem sg_Dt_leans_5 {sc : Nat → Int} {ar : Nat → Nat → Int} {x1 x2 s0 : Int} {Q : Option mV → mH → Prop} (k : inR s0 ∧ 
  (s0 = 0 → (Q (some (vI (-1))) (sc, ar))) ∧ 
  (¬ (s0 = 0) → (Ev 5 M_Dt_isTask (0, [some (vO 0), some (vI x2)], [], (sc, ar)) (fun r1 h1 => Ev 6 M_Dt_leans (13, [some (vO 0), some (vI x1), some (vI x2)], mPush r1 [], h1) Q)))) :
  Ev 6 M_Dt_leans (5, [some (vO 0), some (vI x1), some (vI x2)], [vI s0], (sc, ar)) Q :=
  wq_ok 200 _ _ [(5, 3), (13, 3), (33, 3), (42, 3)] _ _ _ _ _ (show (inR s0) ∧ (s0 = 0 → (Q (some (vI (-1))) (sc, ar))) ∧ (¬ (s0 = 0) → ((cO 0 = mK M_Dt_isTask) ∧ (Ev 5 M_Dt_isTask (0, [some (vO 0), some (vI x2)], [], (sc, ar)) (fun r1 h1 => Ev 6 M_Dt_leans (13, [some (vO 0), some (vI x1), some (vI x2)], mPush r1 [], h1) Q)))) from ⟨k.1, fun c1 => (k.2.1 c1), fun c1 => ⟨(by decide), (k.2.2 c1)⟩⟩)
theorem sg_Dt_leans_13 {sc : Nat → Int} {ar : Nat → Nat → Int} {x1 x2 s0 : Int} {Q : Option mV → mH → Prop} (k : inR s0 ∧ 
  (s0 ≠ 0 → (Ev 5 M_Rings_find (0, [some (vO 4), some (vI (sc 10)), some (vO 1)], [], (sc, ar)) (fun r1 h1 => Ev 6 M_Dt_leans (33, [some (vO 0), some (vI x1), some (vI x2)], mPush r1 [], h1) Q))) ∧ 
  (¬ (s0 ≠ 0) → (Q (some (vI (-1))) (sc, ar)))) :
  Ev 6 M_Dt_leans (13, [some (vO 0), some (vI x1), some (vI x2)], [vI s0], (sc, ar)) Q :=
  wq_ok 200 _ _ [(5, 3), (13, 3), (33, 3), (42, 3)] _ _ _ _ _ (show (inR s0) ∧ (s0 ≠ 0 → ((cO 0 = 8) ∧ ((cO 0 = 8) ∧ ((cO 0 = 8) ∧ ((cO 4 = mK M_Rings_find) ∧ (Ev 5 M_Rings_find (0, [some (vO 4), some (vI (sc 10)), some (vO 1)], [], (sc, ar)) (fun r1 h1 => Ev 6 M_Dt_leans (33, [some (vO 0), some (vI x1), some (vI x2)], mPush r1 [], h1) Q))))))) ∧ (¬ (s0 ≠ 0) → (Q (some (vI (-1))) (sc, ar))) from ⟨k.1, fun c1 => ⟨(by decide), ⟨(by decide), ⟨(by decide), ⟨(by decide), (k.2.1 c1)⟩⟩⟩⟩, fun c1 => (k.2.2 c1)⟩)
theorem sg_Dt_leans_33 {sc : Nat → Int} {ar : Nat → Nat → Int} {x1 x2 : Int} {Q : Option mV → mH → Prop} (k : Ev 5 M_Rings_isLeaning (0, [some (vO 4), some (vI x1), some (vI x2)], [], (sc, ar)) (fun r1 h1 => Ev 6 M_Dt_leans (42, [some (vO 0), some (vI x1), some (vI x2)], mPush r1 [], h1) Q)) :
  Ev 6 M_Dt_leans (33, [some (vO 0), some (vI x1), some (vI x2)], [], (sc, ar)) Q :=
  wq_ok 200 _ _ [(5, 3), (13, 3), (33, 3), (42, 3)] _ _ _ _ _ (show (cO 0 = 8) ∧ ((cO 4 = mK M_Rings_isLeaning) ∧ (Ev 5 M_Rings_isLeaning (0, [some (vO 4), some (vI x1), some (vI x2)], [], (sc, ar)) (fun r1 h1 => Ev 6 M_Dt_leans (42, [some (vO 0), some (vI x1), some (vI x2)], mPush r1 [], h1) Q))) from ⟨(by decide), ⟨(by decide), k⟩⟩)
theorem sg_Dt_leans_42 {sc : Nat → Int} {ar : Nat → Nat → Int} {x1 x2 s0 : Int} {Q : Option mV → mH → Prop} (k : inR s0 ∧ 
  (s0 = 0 → (Q (some (vI 0)) (sc, ar))) ∧ 
  (¬ (s0 = 0) → (Q (some (vI 1)) (sc, ar)))) :
  Ev 6 M_Dt_leans (42, [some (vO 0), some (vI x1), some (vI x2)], [vI s0], (sc, ar)) Q :=
  wq_ok 200 _ _ [(5, 3), (13, 3), (33, 3), (42, 3)] _ _ _ _ _ (show (inR s0) ∧ (s0 = 0 → (Q (some (vI 0)) (sc, ar))) ∧ (¬ (s0 = 0) → (Q (some (vI 1)) (sc, ar))) from ⟨k.1, fun c1 => (k.2.1 c1), fun c1 => (k.2.2 c1)⟩)
theorem sg_Dt_blocks_0 {sc : Nat → Int} {ar : Nat → Nat → Int} {Q : Option mV → mH → Prop} (k : Ev 5 M_Rings_find (0, [some (vO 4), some (vI (sc 10)), some (vO 1)], [], (sc, ar)) (fun r1 h1 => Ev 6 M_Dt_blocks (15, [some (vO 0)], mPush r1 [], h1) Q)) :
  Ev 6 M_Dt_blocks (0, [some (vO 0)], [], (sc, ar)) Q :=
  wq_ok 200 _ _ [(15, 1), (22, 1)] _ _ _ _ _ (show (cO 0 = 8) ∧ ((cO 0 = 8) ∧ ((cO 0 = 8) ∧ ((cO 4 = mK M_Rings_find) ∧ (Ev 5 M_Rings_find (0, [some (vO 4), some (vI (sc 10)), some (vO 1)], [], (sc, ar)) (fun r1 h1 => Ev 6 M_Dt_blocks (15, [some (vO 0)], mPush r1 [], h1) Q))))) from ⟨(by decide), ⟨(by decide), ⟨(by decide), ⟨(by decide), k⟩⟩⟩⟩)
theorem sg_Dt_blocks_15 {sc : Nat → Int} {ar : Nat → Nat → Int} {Q : Option mV → mH → Prop} (k : Ev 5 M_Rings_howMany (0, [some (vO 4)], [], (sc, ar)) (fun r1 h1 => Ev 6 M_Dt_blocks (22, [some (vO 0)], mPush r1 [], h1) Q)) :
  Ev 6 M_Dt_blocks (15, [some (vO 0)], [], (sc, ar)) Q :=
  wq_ok 200 _ _ [(15, 1), (22, 1)] _ _ _ _ _ (show (cO 0 = 8) ∧ ((cO 4 = mK M_Rings_howMany) ∧ (Ev 5 M_Rings_howMany (0, [some (vO 4)], [], (sc, ar)) (fun r1 h1 => Ev 6 M_Dt_blocks (22, [some (vO 0)], mPush r1 [], h1) Q))) from ⟨(by decide), ⟨(by decide), k⟩⟩)
theorem sg_Dt_blocks_22 {sc : Nat → Int} {ar : Nat → Nat → Int} {s0 : Int} {Q : Option mV → mH → Prop} (k : Q (some (vI s0)) (sc, ar)) :
  Ev 6 M_Dt_blocks (22, [some (vO 0)], [vI s0], (sc, ar)) Q :=
  wq_ok 200 _ _ [(15, 1), (22, 1)] _ _ _ _ _ (show Q (some (vI s0)) (sc, ar) from k)
theorem sg_Dt_block_0 {sc : Nat → Int} {ar : Nat → Nat → Int} {x1 : Int} {Q : Option mV → mH → Prop} (k : Ev 5 M_Dt_isTask (0, [some (vO 0), some (vI x1)], [], (sc, ar)) (fun r1 h1 => Ev 6 M_Dt_block (5, [some (vO 0), some (vI x1)], mPush r1 [], h1) Q)) :
  Ev 6 M_Dt_block (0, [some (vO 0), some (vI x1)], [], (sc, ar)) Q :=
  wq_ok 200 _ _ [(5, 2), (25, 2), (33, 2)] _ _ _ _ _ (show (cO 0 = mK M_Dt_isTask) ∧ (Ev 5 M_Dt_isTask (0, [some (vO 0), some (vI x1)], [], (sc, ar)) (fun r1 h1 => Ev 6 M_Dt_block (5, [some (vO 0), some (vI x1)], mPush r1 [], h1) Q)) from ⟨(by decide), k⟩)
theorem sg_Dt_block_5 {sc : Nat → Int} {ar : Nat → Nat → Int} {x1 s0 : Int} {Q : Option mV → mH → Prop} (k : inR s0 ∧ 
  (s0 ≠ 0 → (Ev 5 M_Rings_find (0, [some (vO 4), some (vI (sc 10)), some (vO 1)], [], (sc, ar)) (fun r1 h1 => Ev 6 M_Dt_block (25, [some (vO 0), some (vI x1)], mPush r1 [], h1) Q))) ∧ 
  (¬ (s0 ≠ 0) → (Q (some (vI (-1))) (sc, ar)))) :
  Ev 6 M_Dt_block (5, [some (vO 0), some (vI x1)], [vI s0], (sc, ar)) Q :=
  wq_ok 200 _ _ [(5, 2), (25, 2), (33, 2)] _ _ _ _ _ (show (inR s0) ∧ (s0 ≠ 0 → ((cO 0 = 8) ∧ ((cO 0 = 8) ∧ ((cO 0 = 8) ∧ ((cO 4 = mK M_Rings_find) ∧ (Ev 5 M_Rings_find (0, [some (vO 4), some (vI (sc 10)), some (vO 1)], [], (sc, ar)) (fun r1 h1 => Ev 6 M_Dt_block (25, [some (vO 0), some (vI x1)], mPush r1 [], h1) Q))))))) ∧ (¬ (s0 ≠ 0) → (Q (some (vI (-1))) (sc, ar))) from ⟨k.1, fun c1 => ⟨(by decide), ⟨(by decide), ⟨(by decide), ⟨(by decide), (k.2.1 c1)⟩⟩⟩⟩, fun c1 => (k.2.2 c1)⟩)
theorem sg_Dt_block_25 {sc : Nat → Int} {ar : Nat → Nat → Int} {x1 : Int} {Q : Option mV → mH → Prop} (k : Ev 5 M_Rings_numberOf (0, [some (vO 4), some (vI x1)], [], (sc, ar)) (fun r1 h1 => Ev 6 M_Dt_block (33, [some (vO 0), some (vI x1)], mPush r1 [], h1) Q)) :
  Ev 6 M_Dt_block (25, [some (vO 0), some (vI x1)], [], (sc, ar)) Q :=
  wq_ok 200 _ _ [(5, 2), (25, 2), (33, 2)] _ _ _ _ _ (show (cO 0 = 8) ∧ ((cO 4 = mK M_Rings_numberOf) ∧ (Ev 5 M_Rings_numberOf (0, [some (vO 4), some (vI x1)], [], (sc, ar)) (fun r1 h1 => Ev 6 M_Dt_block (33, [some (vO 0), some (vI x1)], mPush r1 [], h1) Q))) from ⟨(by decide), ⟨(by decide), k⟩⟩)
theorem sg_Dt_block_33 {sc : Nat → Int} {ar : Nat → Nat → Int} {x1 s0 : Int} {Q : Option mV → mH → Prop} (k : Q (some (vI s0)) (sc, ar)) :
  Ev 6 M_Dt_block (33, [some (vO 0), some (vI x1)], [vI s0], (sc, ar)) Q :=
  wq_ok 200 _ _ [(5, 2), (25, 2), (33, 2)] _ _ _ _ _ (show Q (some (vI s0)) (sc, ar) from k)
theorem sg_Dt_least_0 {sc : Nat → Int} {ar : Nat → Nat → Int} {Q : Option mV → mH → Prop} (k : Ev 4 M_Least_leastGuess (0, [some (vO 5), some (vI (sc 10)), some (vO 1), none, none], [], (sc, ar)) (fun r1 h1 => Ev 5 M_Dt_least (15, [some (vO 0)], mPush r1 [], h1) Q)) :
  Ev 5 M_Dt_least (0, [some (vO 0)], [], (sc, ar)) Q :=
  wq_ok 200 _ _ [(15, 1)] _ _ _ _ _ (show (cO 0 = 8) ∧ ((cO 0 = 8) ∧ ((cO 0 = 8) ∧ ((cO 5 = mK M_Least_leastGuess) ∧ (Ev 4 M_Least_leastGuess (0, [some (vO 5), some (vI (sc 10)), some (vO 1), none, none], [], (sc, ar)) (fun r1 h1 => Ev 5 M_Dt_least (15, [some (vO 0)], mPush r1 [], h1) Q))))) from ⟨(by decide), ⟨(by decide), ⟨(by decide), ⟨(by decide), k⟩⟩⟩⟩)
theorem sg_Dt_least_15 {sc : Nat → Int} {ar : Nat → Nat → Int} {s0 : Int} {Q : Option mV → mH → Prop} (k : Q (some (vI s0)) (sc, ar)) :
  Ev 5 M_Dt_least (15, [some (vO 0)], [vI s0], (sc, ar)) Q :=
  wq_ok 200 _ _ [(15, 1)] _ _ _ _ _ (show Q (some (vI s0)) (sc, ar) from k)
theorem sg_Dt_leastAt_0 {sc : Nat → Int} {ar : Nat → Nat → Int} {x1 : Int} {Q : Option mV → mH → Prop} (k : inR x1 ∧ 
  (x1 < 0 → (Q (some (vI (-9))) (sc, ar))) ∧ 
  (¬ (x1 < 0) → (inR x1 ∧ inR (sc 10) ∧ 
    (x1 < (sc 10) → (Ev 5 M_Least_find (0, [some (vO 5), some (vI (sc 10)), some (vO 1), none, none, none], [], (sc, ar)) (fun r1 h1 => Ev 6 M_Dt_leastAt (30, [some (vO 0), some (vI x1)], mPush r1 [], h1) Q))) ∧ 
    (¬ (x1 < (sc 10)) → (Q (some (vI (-9))) (sc, ar)))))) :
  Ev 6 M_Dt_leastAt (0, [some (vO 0), some (vI x1)], [], (sc, ar)) Q :=
  wq_ok 200 _ _ [(30, 2), (34, 2)] _ _ _ _ _ (show (inR x1) ∧ (x1 < 0 → (Q (some (vI (-9))) (sc, ar))) ∧ (¬ (x1 < 0) → ((cO 0 = 8) ∧ ((inR x1 ∧ inR (sc 10)) ∧ (x1 < (sc 10) → ((cO 0 = 8) ∧ ((cO 0 = 8) ∧ ((cO 0 = 8) ∧ ((cO 5 = mK M_Least_find) ∧ (Ev 5 M_Least_find (0, [some (vO 5), some (vI (sc 10)), some (vO 1), none, none, none], [], (sc, ar)) (fun r1 h1 => Ev 6 M_Dt_leastAt (30, [some (vO 0), some (vI x1)], mPush r1 [], h1) Q))))))) ∧ (¬ (x1 < (sc 10)) → (Q (some (vI (-9))) (sc, ar)))))) from ⟨k.1, fun c1 => (k.2.1 c1), fun c1 => ⟨(by decide), ⟨⟨(k.2.2 c1).1, (k.2.2 c1).2.1⟩, fun c2 => ⟨(by decide), ⟨(by decide), ⟨(by decide), ⟨(by decide), ((k.2.2 c1).2.2.1 c2)⟩⟩⟩⟩, fun c2 => ((k.2.2 c1).2.2.2 c2)⟩⟩⟩)
theorem sg_Dt_leastAt_30 {sc : Nat → Int} {ar : Nat → Nat → Int} {x1 : Int} {Q : Option mV → mH → Prop} (k : Ev 5 M_Order_taskAt (0, [some (vO 6), some (vI x1)], [], (sc, ar)) (fun r1 h1 => Ev 6 M_Dt_leastAt (34, [some (vO 0), some (vI x1)], mPush r1 [], h1) Q)) :
  Ev 6 M_Dt_leastAt (30, [some (vO 0), some (vI x1)], [vO 6], (sc, ar)) Q :=
  wq_ok 200 _ _ [(30, 2), (34, 2)] _ _ _ _ _ (show (cO 6 = mK M_Order_taskAt) ∧ (Ev 5 M_Order_taskAt (0, [some (vO 6), some (vI x1)], [], (sc, ar)) (fun r1 h1 => Ev 6 M_Dt_leastAt (34, [some (vO 0), some (vI x1)], mPush r1 [], h1) Q)) from ⟨(by decide), k⟩)
theorem sg_Dt_leastAt_34 {sc : Nat → Int} {ar : Nat → Nat → Int} {x1 s0 : Int} {Q : Option mV → mH → Prop} (k : Q (some (vI s0)) (sc, ar)) :
  Ev 6 M_Dt_leastAt (34, [some (vO 0), some (vI x1)], [vI s0], (sc, ar)) Q :=
  wq_ok 200 _ _ [(30, 2), (34, 2)] _ _ _ _ _ (show Q (some (vI s0)) (sc, ar) from k)
theorem sg_Dt_saved_0 {sc : Nat → Int} {ar : Nat → Nat → Int} {x1 x2 : Int} {Q : Option mV → mH → Prop} (k : Ev 4 M_Dt_isTask (0, [some (vO 0), some (vI x1)], [], (sc, ar)) (fun r1 h1 => Ev 5 M_Dt_saved (5, [some (vO 0), some (vI x1), some (vI x2), none, none, none], mPush r1 [], h1) Q)) :
  Ev 5 M_Dt_saved (0, [some (vO 0), some (vI x1), some (vI x2), none, none, none], [], (sc, ar)) Q :=
  wq_ok 200 _ _ [(5, 3), (13, 3), (33, 3), (44, 4), (61, 5), (74, 6)] _ _ _ _ _ (show (cO 0 = mK M_Dt_isTask) ∧ (Ev 4 M_Dt_isTask (0, [some (vO 0), some (vI x1)], [], (sc, ar)) (fun r1 h1 => Ev 5 M_Dt_saved (5, [some (vO 0), some (vI x1), some (vI x2), none, none, none], mPush r1 [], h1) Q)) from ⟨(by decide), k⟩)
theorem sg_Dt_saved_5 {sc : Nat → Int} {ar : Nat → Nat → Int} {x1 x2 s0 : Int} {Q : Option mV → mH → Prop} (k : inR s0 ∧ 
  (s0 = 0 → (Q (some (vI (-1))) (sc, ar))) ∧ 
  (¬ (s0 = 0) → (Ev 4 M_Dt_isTask (0, [some (vO 0), some (vI x2)], [], (sc, ar)) (fun r1 h1 => Ev 5 M_Dt_saved (13, [some (vO 0), some (vI x1), some (vI x2), none, none, none], mPush r1 [], h1) Q)))) :
  Ev 5 M_Dt_saved (5, [some (vO 0), some (vI x1), some (vI x2), none, none, none], [vI s0], (sc, ar)) Q :=
  wq_ok 200 _ _ [(5, 3), (13, 3), (33, 3), (44, 4), (61, 5), (74, 6)] _ _ _ _ _ (show (inR s0) ∧ (s0 = 0 → (Q (some (vI (-1))) (sc, ar))) ∧ (¬ (s0 = 0) → ((cO 0 = mK M_Dt_isTask) ∧ (Ev 4 M_Dt_isTask (0, [some (vO 0), some (vI x2)], [], (sc, ar)) (fun r1 h1 => Ev 5 M_Dt_saved (13, [some (vO 0), some (vI x1), some (vI x2), none, none, none], mPush r1 [], h1) Q)))) from ⟨k.1, fun c1 => (k.2.1 c1), fun c1 => ⟨(by decide), (k.2.2 c1)⟩⟩)
theorem sg_Dt_saved_13 {sc : Nat → Int} {ar : Nat → Nat → Int} {x1 x2 s0 : Int} {Q : Option mV → mH → Prop} (k : inR s0 ∧ 
  (s0 ≠ 0 → (Ev 4 M_Least_leastGuess (0, [some (vO 5), some (vI (sc 10)), some (vO 1), none, none], [], (sc, ar)) (fun r1 h1 => Ev 5 M_Dt_saved (33, [some (vO 0), some (vI x1), some (vI x2), none, none, none], mPush r1 [], h1) Q))) ∧ 
  (¬ (s0 ≠ 0) → (Q (some (vI (-1))) (sc, ar)))) :
  Ev 5 M_Dt_saved (13, [some (vO 0), some (vI x1), some (vI x2), none, none, none], [vI s0], (sc, ar)) Q :=
  wq_ok 200 _ _ [(5, 3), (13, 3), (33, 3), (44, 4), (61, 5), (74, 6)] _ _ _ _ _ (show (inR s0) ∧ (s0 ≠ 0 → ((cO 0 = 8) ∧ ((cO 0 = 8) ∧ ((cO 0 = 8) ∧ ((cO 5 = mK M_Least_leastGuess) ∧ (Ev 4 M_Least_leastGuess (0, [some (vO 5), some (vI (sc 10)), some (vO 1), none, none], [], (sc, ar)) (fun r1 h1 => Ev 5 M_Dt_saved (33, [some (vO 0), some (vI x1), some (vI x2), none, none, none], mPush r1 [], h1) Q))))))) ∧ (¬ (s0 ≠ 0) → (Q (some (vI (-1))) (sc, ar))) from ⟨k.1, fun c1 => ⟨(by decide), ⟨(by decide), ⟨(by decide), ⟨(by decide), (k.2.1 c1)⟩⟩⟩⟩, fun c1 => (k.2.2 c1)⟩)
theorem sg_Dt_saved_33 {sc : Nat → Int} {ar : Nat → Nat → Int} {x1 x2 s0 : Int} {Q : Option mV → mH → Prop} (k : Ev 4 M_Table_put (0, [some (vO 1), some (vI x1), some (vI x2), some (vI 0), none, none], [], (sc, ar)) (fun r1 h1 => Ev 5 M_Dt_saved (44, [some (vO 0), some (vI x1), some (vI x2), some (vI s0), none, none], mPush r1 [], h1) Q)) :
  Ev 5 M_Dt_saved (33, [some (vO 0), some (vI x1), some (vI x2), none, none, none], [vI s0], (sc, ar)) Q :=
  wq_ok 200 _ _ [(5, 3), (13, 3), (33, 3), (44, 4), (61, 5), (74, 6)] _ _ _ _ _ (show (cO 0 = 8) ∧ ((cO 1 = mK M_Table_put) ∧ (Ev 4 M_Table_put (0, [some (vO 1), some (vI x1), some (vI x2), some (vI 0), none, none], [], (sc, ar)) (fun r1 h1 => Ev 5 M_Dt_saved (44, [some (vO 0), some (vI x1), some (vI x2), some (vI s0), none, none], mPush r1 [], h1) Q))) from ⟨(by decide), ⟨(by decide), k⟩⟩)
theorem sg_Dt_saved_44 {sc : Nat → Int} {ar : Nat → Nat → Int} {x1 x2 x3 s0 : Int} {Q : Option mV → mH → Prop} (k : Ev 4 M_Least_leastGuess (0, [some (vO 5), some (vI (sc 10)), some (vO 1), none, none], [], (sc, ar)) (fun r1 h1 => Ev 5 M_Dt_saved (61, [some (vO 0), some (vI x1), some (vI x2), some (vI x3), some (vI s0), none], mPush r1 [], h1) Q)) :
  Ev 5 M_Dt_saved (44, [some (vO 0), some (vI x1), some (vI x2), some (vI x3), none, none], [vI s0], (sc, ar)) Q :=
  wq_ok 200 _ _ [(5, 3), (13, 3), (33, 3), (44, 4), (61, 5), (74, 6)] _ _ _ _ _ (show (cO 0 = 8) ∧ ((cO 0 = 8) ∧ ((cO 0 = 8) ∧ ((cO 5 = mK M_Least_leastGuess) ∧ (Ev 4 M_Least_leastGuess (0, [some (vO 5), some (vI (sc 10)), some (vO 1), none, none], [], (sc, ar)) (fun r1 h1 => Ev 5 M_Dt_saved (61, [some (vO 0), some (vI x1), some (vI x2), some (vI x3), some (vI s0), none], mPush r1 [], h1) Q))))) from ⟨(by decide), ⟨(by decide), ⟨(by decide), ⟨(by decide), k⟩⟩⟩⟩)
theorem sg_Dt_saved_61 {sc : Nat → Int} {ar : Nat → Nat → Int} {x1 x2 x3 x4 s0 : Int} {Q : Option mV → mH → Prop} (k : Ev 4 M_Table_put (0, [some (vO 1), some (vI x1), some (vI x2), some (vI x4), none, none], [], (sc, ar)) (fun r1 h1 => Ev 5 M_Dt_saved (74, [some (vO 0), some (vI x1), some (vI x2), some (vI x3), some (vI x4), some (vI s0)], mPush r1 [], h1) Q)) :
  Ev 5 M_Dt_saved (61, [some (vO 0), some (vI x1), some (vI x2), some (vI x3), some (vI x4), none], [vI s0], (sc, ar)) Q :=
  wq_ok 200 _ _ [(5, 3), (13, 3), (33, 3), (44, 4), (61, 5), (74, 6)] _ _ _ _ _ (show (cO 0 = 8) ∧ ((cO 1 = mK M_Table_put) ∧ (Ev 4 M_Table_put (0, [some (vO 1), some (vI x1), some (vI x2), some (vI x4), none, none], [], (sc, ar)) (fun r1 h1 => Ev 5 M_Dt_saved (74, [some (vO 0), some (vI x1), some (vI x2), some (vI x3), some (vI x4), some (vI s0)], mPush r1 [], h1) Q))) from ⟨(by decide), ⟨(by decide), k⟩⟩)
theorem sg_Dt_saved_74 {sc : Nat → Int} {ar : Nat → Nat → Int} {x1 x2 x3 x4 x5 s0 : Int} {Q : Option mV → mH → Prop} (k : Q (some (vI (x3 - x5))) (sc, ar)) :
  Ev 5 M_Dt_saved (74, [some (vO 0), some (vI x1), some (vI x2), some (vI x3), some (vI x4), some (vI x5)], [vI s0], (sc, ar)) Q :=
  wq_ok 200 _ _ [(5, 3), (13, 3), (33, 3), (44, 4), (61, 5), (74, 6)] _ _ _ _ _ (show Q (some (vI (x3 - x5))) (sc, ar) from k)
theorem sg_Dt_at_0 {sc : Nat → Int} {ar : Nat → Nat → Int} {x1 : Int} {Q : Option mV → mH → Prop} (k : Ev 1 M_Order_taskAt (0, [some (vO 3), some (vI x1)], [], (sc, ar)) (fun r1 h1 => Ev 2 M_Dt_at (8, [some (vO 0), some (vI x1)], mPush r1 [], h1) Q)) :
  Ev 2 M_Dt_at (0, [some (vO 0), some (vI x1)], [], (sc, ar)) Q :=
  wq_ok 200 _ _ [(8, 2)] _ _ _ _ _ (show (cO 0 = 8) ∧ ((cO 3 = mK M_Order_taskAt) ∧ (Ev 1 M_Order_taskAt (0, [some (vO 3), some (vI x1)], [], (sc, ar)) (fun r1 h1 => Ev 2 M_Dt_at (8, [some (vO 0), some (vI x1)], mPush r1 [], h1) Q))) from ⟨(by decide), ⟨(by decide), k⟩⟩)
theorem sg_Dt_at_8 {sc : Nat → Int} {ar : Nat → Nat → Int} {x1 s0 : Int} {Q : Option mV → mH → Prop} (k : Q (some (vI s0)) (sc, ar)) :
  Ev 2 M_Dt_at (8, [some (vO 0), some (vI x1)], [vI s0], (sc, ar)) Q :=
  wq_ok 200 _ _ [(8, 2)] _ _ _ _ _ (show Q (some (vI s0)) (sc, ar) from k)
theorem sg_Dt_swap_0 {sc : Nat → Int} {ar : Nat → Nat → Int} {x1 x2 : Int} {Q : Option mV → mH → Prop} (k : Ev 2 M_Order_hasPlace (0, [some (vO 3), some (vI x1)], [], (sc, ar)) (fun r1 h1 => Ev 3 M_Dt_swap (8, [some (vO 0), some (vI x1), some (vI x2)], mPush r1 [], h1) Q)) :
  Ev 3 M_Dt_swap (0, [some (vO 0), some (vI x1), some (vI x2)], [], (sc, ar)) Q :=
  wq_ok 200 _ _ [(8, 3), (19, 3), (34, 3), (45, 3)] _ _ _ _ _ (show (cO 0 = 8) ∧ ((cO 3 = mK M_Order_hasPlace) ∧ (Ev 2 M_Order_hasPlace (0, [some (vO 3), some (vI x1)], [], (sc, ar)) (fun r1 h1 => Ev 3 M_Dt_swap (8, [some (vO 0), some (vI x1), some (vI x2)], mPush r1 [], h1) Q))) from ⟨(by decide), ⟨(by decide), k⟩⟩)
theorem sg_Dt_swap_8 {sc : Nat → Int} {ar : Nat → Nat → Int} {x1 x2 s0 : Int} {Q : Option mV → mH → Prop} (k : inR s0 ∧ 
  (s0 = 0 → (Q (some (vI (-2))) (sc, ar))) ∧ 
  (¬ (s0 = 0) → (Ev 2 M_Order_hasPlace (0, [some (vO 3), some (vI x2)], [], (sc, ar)) (fun r1 h1 => Ev 3 M_Dt_swap (19, [some (vO 0), some (vI x1), some (vI x2)], mPush r1 [], h1) Q)))) :
  Ev 3 M_Dt_swap (8, [some (vO 0), some (vI x1), some (vI x2)], [vI s0], (sc, ar)) Q :=
  wq_ok 200 _ _ [(8, 3), (19, 3), (34, 3), (45, 3)] _ _ _ _ _ (show (inR s0) ∧ (s0 = 0 → (Q (some (vI (-2))) (sc, ar))) ∧ (¬ (s0 = 0) → ((cO 0 = 8) ∧ ((cO 3 = mK M_Order_hasPlace) ∧ (Ev 2 M_Order_hasPlace (0, [some (vO 3), some (vI x2)], [], (sc, ar)) (fun r1 h1 => Ev 3 M_Dt_swap (19, [some (vO 0), some (vI x1), some (vI x2)], mPush r1 [], h1) Q))))) from ⟨k.1, fun c1 => (k.2.1 c1), fun c1 => ⟨(by decide), ⟨(by decide), (k.2.2 c1)⟩⟩⟩)
theorem sg_Dt_swap_19 {sc : Nat → Int} {ar : Nat → Nat → Int} {x1 x2 s0 : Int} {Q : Option mV → mH → Prop} (k : inR s0 ∧ 
  (s0 ≠ 0 → (Ev 2 M_Order_exchange (0, [some (vO 3), some (vI x1), some (vI x2), none], [], (sc, ar)) (fun r1 h1 => Ev 3 M_Dt_swap (34, [some (vO 0), some (vI x1), some (vI x2)], mPush r1 [], h1) Q))) ∧ 
  (¬ (s0 ≠ 0) → (Q (some (vI (-2))) (sc, ar)))) :
  Ev 3 M_Dt_swap (19, [some (vO 0), some (vI x1), some (vI x2)], [vI s0], (sc, ar)) Q :=
  wq_ok 200 _ _ [(8, 3), (19, 3), (34, 3), (45, 3)] _ _ _ _ _ (show (inR s0) ∧ (s0 ≠ 0 → ((cO 0 = 8) ∧ ((cO 3 = mK M_Order_exchange) ∧ (Ev 2 M_Order_exchange (0, [some (vO 3), some (vI x1), some (vI x2), none], [], (sc, ar)) (fun r1 h1 => Ev 3 M_Dt_swap (34, [some (vO 0), some (vI x1), some (vI x2)], mPush r1 [], h1) Q))))) ∧ (¬ (s0 ≠ 0) → (Q (some (vI (-2))) (sc, ar))) from ⟨k.1, fun c1 => ⟨(by decide), ⟨(by decide), (k.2.1 c1)⟩⟩, fun c1 => (k.2.2 c1)⟩)
theorem sg_Dt_swap_34 {sc : Nat → Int} {ar : Nat → Nat → Int} {x1 x2 : Int} {Q : Option mV → mH → Prop} (k : Ev 2 M_Order_guessOf (0, [some (vO 3), some (vO 1), none, none, none], [], (sc, ar)) (fun r1 h1 => Ev 3 M_Dt_swap (45, [some (vO 0), some (vI x1), some (vI x2)], mPush r1 [], h1) Q)) :
  Ev 3 M_Dt_swap (34, [some (vO 0), some (vI x1), some (vI x2)], [], (sc, ar)) Q :=
  wq_ok 200 _ _ [(8, 3), (19, 3), (34, 3), (45, 3)] _ _ _ _ _ (show (cO 0 = 8) ∧ ((cO 0 = 8) ∧ ((cO 3 = mK M_Order_guessOf) ∧ (Ev 2 M_Order_guessOf (0, [some (vO 3), some (vO 1), none, none, none], [], (sc, ar)) (fun r1 h1 => Ev 3 M_Dt_swap (45, [some (vO 0), some (vI x1), some (vI x2)], mPush r1 [], h1) Q)))) from ⟨(by decide), ⟨(by decide), ⟨(by decide), k⟩⟩⟩)
theorem sg_Dt_swap_45 {sc : Nat → Int} {ar : Nat → Nat → Int} {x1 x2 s0 : Int} {Q : Option mV → mH → Prop} (k : Q (some (vI s0)) (sc, ar)) :
  Ev 3 M_Dt_swap (45, [some (vO 0), some (vI x1), some (vI x2)], [vI s0], (sc, ar)) Q :=
  wq_ok 200 _ _ [(8, 3), (19, 3), (34, 3), (45, 3)] _ _ _ _ _ (show Q (some (vI s0)) (sc, ar) from k)
theorem sg_Dt_take_0 {sc : Nat → Int} {ar : Nat → Nat → Int} {Q : Option mV → mH → Prop} (k : Ev 5 M_Least_find (0, [some (vO 5), some (vI (sc 10)), some (vO 1), none, none, none], [], (sc, ar)) (fun r1 h1 => Ev 6 M_Dt_take (19, [some (vO 0)], mPush r1 [vO 3], h1) Q)) :
  Ev 6 M_Dt_take (0, [some (vO 0)], [], (sc, ar)) Q :=
  wq_ok 200 _ _ [(19, 1), (22, 1), (33, 1)] _ _ _ _ _ (show (cO 0 = 8) ∧ ((cO 0 = 8) ∧ ((cO 0 = 8) ∧ ((cO 0 = 8) ∧ ((cO 5 = mK M_Least_find) ∧ (Ev 5 M_Least_find (0, [some (vO 5), some (vI (sc 10)), some (vO 1), none, none, none], [], (sc, ar)) (fun r1 h1 => Ev 6 M_Dt_take (19, [some (vO 0)], mPush r1 [vO 3], h1) Q)))))) from ⟨(by decide), ⟨(by decide), ⟨(by decide), ⟨(by decide), ⟨(by decide), k⟩⟩⟩⟩⟩)
theorem sg_Dt_take_19 {sc : Nat → Int} {ar : Nat → Nat → Int} {Q : Option mV → mH → Prop} (k : Ev 5 M_Order_become (0, [some (vO 3), some (vO 6), none], [], (sc, ar)) (fun r1 h1 => Ev 6 M_Dt_take (22, [some (vO 0)], mPush r1 [], h1) Q)) :
  Ev 6 M_Dt_take (19, [some (vO 0)], [vO 6, vO 3], (sc, ar)) Q :=
  wq_ok 200 _ _ [(19, 1), (22, 1), (33, 1)] _ _ _ _ _ (show (cO 3 = mK M_Order_become) ∧ (Ev 5 M_Order_become (0, [some (vO 3), some (vO 6), none], [], (sc, ar)) (fun r1 h1 => Ev 6 M_Dt_take (22, [some (vO 0)], mPush r1 [], h1) Q)) from ⟨(by decide), k⟩)
theorem sg_Dt_take_22 {sc : Nat → Int} {ar : Nat → Nat → Int} {Q : Option mV → mH → Prop} (k : Ev 5 M_Order_guessOf (0, [some (vO 3), some (vO 1), none, none, none], [], (sc, ar)) (fun r1 h1 => Ev 6 M_Dt_take (33, [some (vO 0)], mPush r1 [], h1) Q)) :
  Ev 6 M_Dt_take (22, [some (vO 0)], [], (sc, ar)) Q :=
  wq_ok 200 _ _ [(19, 1), (22, 1), (33, 1)] _ _ _ _ _ (show (cO 0 = 8) ∧ ((cO 0 = 8) ∧ ((cO 3 = mK M_Order_guessOf) ∧ (Ev 5 M_Order_guessOf (0, [some (vO 3), some (vO 1), none, none, none], [], (sc, ar)) (fun r1 h1 => Ev 6 M_Dt_take (33, [some (vO 0)], mPush r1 [], h1) Q)))) from ⟨(by decide), ⟨(by decide), ⟨(by decide), k⟩⟩⟩)
theorem sg_Dt_take_33 {sc : Nat → Int} {ar : Nat → Nat → Int} {s0 : Int} {Q : Option mV → mH → Prop} (k : Q (some (vI s0)) (sc, ar)) :
  Ev 6 M_Dt_take (33, [some (vO 0)], [vI s0], (sc, ar)) Q :=
  wq_ok 200 _ _ [(19, 1), (22, 1), (33, 1)] _ _ _ _ _ (show Q (some (vI s0)) (sc, ar) from k)
theorem sg_Dt_guess_0 {sc : Nat → Int} {ar : Nat → Nat → Int} {Q : Option mV → mH → Prop} (k : Ev 2 M_Order_guessOf (0, [some (vO 3), some (vO 1), none, none, none], [], (sc, ar)) (fun r1 h1 => Ev 3 M_Dt_guess (11, [some (vO 0)], mPush r1 [], h1) Q)) :
  Ev 3 M_Dt_guess (0, [some (vO 0)], [], (sc, ar)) Q :=
  wq_ok 200 _ _ [(11, 1)] _ _ _ _ _ (show (cO 0 = 8) ∧ ((cO 0 = 8) ∧ ((cO 3 = mK M_Order_guessOf) ∧ (Ev 2 M_Order_guessOf (0, [some (vO 3), some (vO 1), none, none, none], [], (sc, ar)) (fun r1 h1 => Ev 3 M_Dt_guess (11, [some (vO 0)], mPush r1 [], h1) Q)))) from ⟨(by decide), ⟨(by decide), ⟨(by decide), k⟩⟩⟩)
theorem sg_Dt_guess_11 {sc : Nat → Int} {ar : Nat → Nat → Int} {s0 : Int} {Q : Option mV → mH → Prop} (k : Q (some (vI s0)) (sc, ar)) :
  Ev 3 M_Dt_guess (11, [some (vO 0)], [vI s0], (sc, ar)) Q :=
  wq_ok 200 _ _ [(11, 1)] _ _ _ _ _ (show Q (some (vI s0)) (sc, ar) from k)
theorem sg_Dt_torn_0 {sc : Nat → Int} {ar : Nat → Nat → Int} {x1 x2 : Int} {Q : Option mV → mH → Prop} (k : Ev 1 M_Dt_isTask (0, [some (vO 0), some (vI x1)], [], (sc, ar)) (fun r1 h1 => Ev 2 M_Dt_torn (5, [some (vO 0), some (vI x1), some (vI x2)], mPush r1 [], h1) Q)) :
  Ev 2 M_Dt_torn (0, [some (vO 0), some (vI x1), some (vI x2)], [], (sc, ar)) Q :=
  wq_ok 200 _ _ [(5, 3), (13, 3), (27, 3), (38, 3), (46, 3)] _ _ _ _ _ (show (cO 0 = mK M_Dt_isTask) ∧ (Ev 1 M_Dt_isTask (0, [some (vO 0), some (vI x1)], [], (sc, ar)) (fun r1 h1 => Ev 2 M_Dt_torn (5, [some (vO 0), some (vI x1), some (vI x2)], mPush r1 [], h1) Q)) from ⟨(by decide), k⟩)
theorem sg_Dt_torn_5 {sc : Nat → Int} {ar : Nat → Nat → Int} {x1 x2 s0 : Int} {Q : Option mV → mH → Prop} (k : inR s0 ∧ 
  (s0 = 0 → (Q (some (vI (-1))) (sc, ar))) ∧ 
  (¬ (s0 = 0) → (Ev 1 M_Dt_isTask (0, [some (vO 0), some (vI x2)], [], (sc, ar)) (fun r1 h1 => Ev 2 M_Dt_torn (13, [some (vO 0), some (vI x1), some (vI x2)], mPush r1 [], h1) Q)))) :
  Ev 2 M_Dt_torn (5, [some (vO 0), some (vI x1), some (vI x2)], [vI s0], (sc, ar)) Q :=
  wq_ok 200 _ _ [(5, 3), (13, 3), (27, 3), (38, 3), (46, 3)] _ _ _ _ _ (show (inR s0) ∧ (s0 = 0 → (Q (some (vI (-1))) (sc, ar))) ∧ (¬ (s0 = 0) → ((cO 0 = mK M_Dt_isTask) ∧ (Ev 1 M_Dt_isTask (0, [some (vO 0), some (vI x2)], [], (sc, ar)) (fun r1 h1 => Ev 2 M_Dt_torn (13, [some (vO 0), some (vI x1), some (vI x2)], mPush r1 [], h1) Q)))) from ⟨k.1, fun c1 => (k.2.1 c1), fun c1 => ⟨(by decide), (k.2.2 c1)⟩⟩)
theorem sg_Dt_torn_13 {sc : Nat → Int} {ar : Nat → Nat → Int} {x1 x2 s0 : Int} {Q : Option mV → mH → Prop} (k : inR s0 ∧ 
  (s0 ≠ 0 → (Ev 1 M_Table_get (0, [some (vO 1), some (vI x1), some (vI x2)], [], (sc, ar)) (fun r1 h1 => Ev 2 M_Dt_torn (27, [some (vO 0), some (vI x1), some (vI x2)], mPush r1 [], h1) Q))) ∧ 
  (¬ (s0 ≠ 0) → (Q (some (vI (-1))) (sc, ar)))) :
  Ev 2 M_Dt_torn (13, [some (vO 0), some (vI x1), some (vI x2)], [vI s0], (sc, ar)) Q :=
  wq_ok 200 _ _ [(5, 3), (13, 3), (27, 3), (38, 3), (46, 3)] _ _ _ _ _ (show (inR s0) ∧ (s0 ≠ 0 → ((cO 0 = 8) ∧ ((cO 1 = mK M_Table_get) ∧ (Ev 1 M_Table_get (0, [some (vO 1), some (vI x1), some (vI x2)], [], (sc, ar)) (fun r1 h1 => Ev 2 M_Dt_torn (27, [some (vO 0), some (vI x1), some (vI x2)], mPush r1 [], h1) Q))))) ∧ (¬ (s0 ≠ 0) → (Q (some (vI (-1))) (sc, ar))) from ⟨k.1, fun c1 => ⟨(by decide), ⟨(by decide), (k.2.1 c1)⟩⟩, fun c1 => (k.2.2 c1)⟩)
theorem sg_Dt_torn_27 {sc : Nat → Int} {ar : Nat → Nat → Int} {x1 x2 s0 : Int} {Q : Option mV → mH → Prop} (k : inR s0 ∧ 
  (s0 ≤ 0 → (Q (some (vI 0)) (sc, ar))) ∧ 
  (¬ (s0 ≤ 0) → (Ev 1 M_Order_placeOf (0, [some (vO 3), some (vI x2), none], [], (sc, ar)) (fun r1 h1 => Ev 2 M_Dt_torn (38, [some (vO 0), some (vI x1), some (vI x2)], mPush r1 [], h1) Q)))) :
  Ev 2 M_Dt_torn (27, [some (vO 0), some (vI x1), some (vI x2)], [vI s0], (sc, ar)) Q :=
  wq_ok 200 _ _ [(5, 3), (13, 3), (27, 3), (38, 3), (46, 3)] _ _ _ _ _ (show (inR s0) ∧ (s0 ≤ 0 → (Q (some (vI 0)) (sc, ar))) ∧ (¬ (s0 ≤ 0) → ((cO 0 = 8) ∧ ((cO 3 = mK M_Order_placeOf) ∧ (Ev 1 M_Order_placeOf (0, [some (vO 3), some (vI x2), none], [], (sc, ar)) (fun r1 h1 => Ev 2 M_Dt_torn (38, [some (vO 0), some (vI x1), some (vI x2)], mPush r1 [], h1) Q))))) from ⟨k.1, fun c1 => (k.2.1 c1), fun c1 => ⟨(by decide), ⟨(by decide), (k.2.2 c1)⟩⟩⟩)
theorem sg_Dt_torn_38 {sc : Nat → Int} {ar : Nat → Nat → Int} {x1 x2 s0 : Int} {Q : Option mV → mH → Prop} (k : Ev 1 M_Order_placeOf (0, [some (vO 3), some (vI x1), none], [], (sc, ar)) (fun r1 h1 => Ev 2 M_Dt_torn (46, [some (vO 0), some (vI x1), some (vI x2)], mPush r1 [vI s0], h1) Q)) :
  Ev 2 M_Dt_torn (38, [some (vO 0), some (vI x1), some (vI x2)], [vI s0], (sc, ar)) Q :=
  wq_ok 200 _ _ [(5, 3), (13, 3), (27, 3), (38, 3), (46, 3)] _ _ _ _ _ (show (cO 0 = 8) ∧ ((cO 3 = mK M_Order_placeOf) ∧ (Ev 1 M_Order_placeOf (0, [some (vO 3), some (vI x1), none], [], (sc, ar)) (fun r1 h1 => Ev 2 M_Dt_torn (46, [some (vO 0), some (vI x1), some (vI x2)], mPush r1 [vI s0], h1) Q))) from ⟨(by decide), ⟨(by decide), k⟩⟩)
theorem sg_Dt_torn_46 {sc : Nat → Int} {ar : Nat → Nat → Int} {x1 x2 s0 s1 : Int} {Q : Option mV → mH → Prop} (k : inR s1 ∧ inR s0 ∧ 
  (s1 ≤ s0 → (Q (some (vI 0)) (sc, ar))) ∧ 
  (¬ (s1 ≤ s0) → (Q (some (vI 1)) (sc, ar)))) :
  Ev 2 M_Dt_torn (46, [some (vO 0), some (vI x1), some (vI x2)], [vI s0, vI s1], (sc, ar)) Q :=
  wq_ok 200 _ _ [(5, 3), (13, 3), (27, 3), (38, 3), (46, 3)] _ _ _ _ _ (show (inR s1 ∧ inR s0) ∧ (s1 ≤ s0 → (Q (some (vI 0)) (sc, ar))) ∧ (¬ (s1 ≤ s0) → (Q (some (vI 1)) (sc, ar))) from ⟨⟨k.1, k.2.1⟩, fun c1 => (k.2.2.1 c1), fun c1 => (k.2.2.2 c1)⟩)
theorem sg_Dt_chance_0 {sc : Nat → Int} {ar : Nat → Nat → Int} {x1 x2 x3 : Int} {Q : Option mV → mH → Prop} (k : Ev 2 M_Dt_isTask (0, [some (vO 0), some (vI x1)], [], (sc, ar)) (fun r1 h1 => Ev 3 M_Dt_chance (5, [some (vO 0), some (vI x1), some (vI x2), some (vI x3)], mPush r1 [], h1) Q)) :
  Ev 3 M_Dt_chance (0, [some (vO 0), some (vI x1), some (vI x2), some (vI x3)], [], (sc, ar)) Q :=
  wq_ok 200 _ _ [(5, 4), (13, 4), (44, 4), (53, 4), (74, 4)] _ _ _ _ _ (show (cO 0 = mK M_Dt_isTask) ∧ (Ev 2 M_Dt_isTask (0, [some (vO 0), some (vI x1)], [], (sc, ar)) (fun r1 h1 => Ev 3 M_Dt_chance (5, [some (vO 0), some (vI x1), some (vI x2), some (vI x3)], mPush r1 [], h1) Q)) from ⟨(by decide), k⟩)
theorem sg_Dt_chance_5 {sc : Nat → Int} {ar : Nat → Nat → Int} {x1 x2 x3 s0 : Int} {Q : Option mV → mH → Prop} (k : inR s0 ∧ 
  (s0 = 0 → (Q (some (vI (-1))) (sc, ar))) ∧ 
  (¬ (s0 = 0) → (Ev 2 M_Dt_isTask (0, [some (vO 0), some (vI x2)], [], (sc, ar)) (fun r1 h1 => Ev 3 M_Dt_chance (13, [some (vO 0), some (vI x1), some (vI x2), some (vI x3)], mPush r1 [], h1) Q)))) :
  Ev 3 M_Dt_chance (5, [some (vO 0), some (vI x1), some (vI x2), some (vI x3)], [vI s0], (sc, ar)) Q :=
  wq_ok 200 _ _ [(5, 4), (13, 4), (44, 4), (53, 4), (74, 4)] _ _ _ _ _ (show (inR s0) ∧ (s0 = 0 → (Q (some (vI (-1))) (sc, ar))) ∧ (¬ (s0 = 0) → ((cO 0 = mK M_Dt_isTask) ∧ (Ev 2 M_Dt_isTask (0, [some (vO 0), some (vI x2)], [], (sc, ar)) (fun r1 h1 => Ev 3 M_Dt_chance (13, [some (vO 0), some (vI x1), some (vI x2), some (vI x3)], mPush r1 [], h1) Q)))) from ⟨k.1, fun c1 => (k.2.1 c1), fun c1 => ⟨(by decide), (k.2.2 c1)⟩⟩)
theorem sg_Dt_chance_13 {sc : Nat → Int} {ar : Nat → Nat → Int} {x1 x2 x3 s0 : Int} {Q : Option mV → mH → Prop} (k : inR s0 ∧ 
  (s0 ≠ 0 → (inR x3 ∧ 
    (x3 < 0 → (Q (some (vI (-2))) (sc, ar))) ∧ 
    (¬ (x3 < 0) → (inR x3 ∧ 
      (x3 ≤ 8 → (inR x1 ∧ inR x2 ∧ 
        (x1 = x2 → (Q (some (vI (-3))) (sc, ar))) ∧ 
        (¬ (x1 = x2) → (Ev 2 M_Table_sumOfRow (0, [some (vO 2), some (vI x1), none, none], [], (sc, ar)) (fun r1 h1 => Ev 3 M_Dt_chance (44, [some (vO 0), some (vI x1), some (vI x2), some (vI x3)], mPush r1 [], h1) Q))))) ∧ 
      (¬ (x3 ≤ 8) → (Q (some (vI (-2))) (sc, ar))))))) ∧ 
  (¬ (s0 ≠ 0) → (Q (some (vI (-1))) (sc, ar)))) :
  Ev 3 M_Dt_chance (13, [some (vO 0), some (vI x1), some (vI x2), some (vI x3)], [vI s0], (sc, ar)) Q :=
  wq_ok 200 _ _ [(5, 4), (13, 4), (44, 4), (53, 4), (74, 4)] _ _ _ _ _ (show (inR s0) ∧ (s0 ≠ 0 → ((inR x3) ∧ (x3 < 0 → (Q (some (vI (-2))) (sc, ar))) ∧ (¬ (x3 < 0) → ((inR x3 ∧ inR 8) ∧ (x3 ≤ 8 → ((inR x1 ∧ inR x2) ∧ (x1 = x2 → (Q (some (vI (-3))) (sc, ar))) ∧ (¬ (x1 = x2) → ((cO 0 = 8) ∧ ((cO 2 = mK M_Table_sumOfRow) ∧ (Ev 2 M_Table_sumOfRow (0, [some (vO 2), some (vI x1), none, none], [], (sc, ar)) (fun r1 h1 => Ev 3 M_Dt_chance (44, [some (vO 0), some (vI x1), some (vI x2), some (vI x3)], mPush r1 [], h1) Q))))))) ∧ (¬ (x3 ≤ 8) → (Q (some (vI (-2))) (sc, ar))))))) ∧ (¬ (s0 ≠ 0) → (Q (some (vI (-1))) (sc, ar))) from ⟨k.1, fun c1 => ⟨(k.2.1 c1).1, fun c2 => ((k.2.1 c1).2.1 c2), fun c2 => ⟨⟨((k.2.1 c1).2.2 c2).1, (by decide)⟩, fun c3 => ⟨⟨(((k.2.1 c1).2.2 c2).2.1 c3).1, (((k.2.1 c1).2.2 c2).2.1 c3).2.1⟩, fun c4 => ((((k.2.1 c1).2.2 c2).2.1 c3).2.2.1 c4), fun c4 => ⟨(by decide), ⟨(by decide), ((((k.2.1 c1).2.2 c2).2.1 c3).2.2.2 c4)⟩⟩⟩, fun c3 => (((k.2.1 c1).2.2 c2).2.2 c3)⟩⟩, fun c1 => (k.2.2 c1)⟩)
theorem sg_Dt_chance_44 {sc : Nat → Int} {ar : Nat → Nat → Int} {x1 x2 x3 s0 : Int} {Q : Option mV → mH → Prop} (k : Ev 2 M_Table_get (0, [some (vO 2), some (vI x1), some (vI x2)], [], (sc, ar)) (fun r1 h1 => Ev 3 M_Dt_chance (53, [some (vO 0), some (vI x1), some (vI x2), some (vI x3)], mPush r1 [vI s0], h1) Q)) :
  Ev 3 M_Dt_chance (44, [some (vO 0), some (vI x1), some (vI x2), some (vI x3)], [vI s0], (sc, ar)) Q :=
  wq_ok 200 _ _ [(5, 4), (13, 4), (44, 4), (53, 4), (74, 4)] _ _ _ _ _ (show (cO 0 = 8) ∧ ((cO 2 = mK M_Table_get) ∧ (Ev 2 M_Table_get (0, [some (vO 2), some (vI x1), some (vI x2)], [], (sc, ar)) (fun r1 h1 => Ev 3 M_Dt_chance (53, [some (vO 0), some (vI x1), some (vI x2), some (vI x3)], mPush r1 [vI s0], h1) Q))) from ⟨(by decide), ⟨(by decide), k⟩⟩)
theorem sg_Dt_chance_53 {sc : Nat → Int} {ar : Nat → Nat → Int} {x1 x2 x3 s0 s1 : Int} {Q : Option mV → mH → Prop} (k : inR ((s1 - s0) + x3) ∧ 
  (((s1 - s0) + x3) ≤ 8 → (Ev 2 M_Table_put (0, [some (vO 2), some (vI x1), some (vI x2), some (vI x3), none, none], [], (sc, ar)) (fun r1 h1 => Ev 3 M_Dt_chance (74, [some (vO 0), some (vI x1), some (vI x2), some (vI x3)], mPush r1 [], h1) Q))) ∧ 
  (¬ (((s1 - s0) + x3) ≤ 8) → (Q (some (vI (-3))) (sc, ar)))) :
  Ev 3 M_Dt_chance (53, [some (vO 0), some (vI x1), some (vI x2), some (vI x3)], [vI s0, vI s1], (sc, ar)) Q :=
  wq_ok 200 _ _ [(5, 4), (13, 4), (44, 4), (53, 4), (74, 4)] _ _ _ _ _ (show (inR ((s1 - s0) + x3) ∧ inR 8) ∧ (((s1 - s0) + x3) ≤ 8 → ((cO 0 = 8) ∧ ((cO 2 = mK M_Table_put) ∧ (Ev 2 M_Table_put (0, [some (vO 2), some (vI x1), some (vI x2), some (vI x3), none, none], [], (sc, ar)) (fun r1 h1 => Ev 3 M_Dt_chance (74, [some (vO 0), some (vI x1), some (vI x2), some (vI x3)], mPush r1 [], h1) Q))))) ∧ (¬ (((s1 - s0) + x3) ≤ 8) → (Q (some (vI (-3))) (sc, ar))) from ⟨⟨k.1, (by decide)⟩, fun c1 => ⟨(by decide), ⟨(by decide), (k.2.1 c1)⟩⟩, fun c1 => (k.2.2 c1)⟩)
theorem sg_Dt_chance_74 {sc : Nat → Int} {ar : Nat → Nat → Int} {x1 x2 x3 s0 : Int} {Q : Option mV → mH → Prop} (k : Q (some (vI s0)) (sc, ar)) :
  Ev 3 M_Dt_chance (74, [some (vO 0), some (vI x1), some (vI x2), some (vI x3)], [vI s0], (sc, ar)) Q :=
  wq_ok 200 _ _ [(5, 4), (13, 4), (44, 4), (53, 4), (74, 4)] _ _ _ _ _ (show Q (some (vI s0)) (sc, ar) from k)
theorem sg_Dt_mean_0 {sc : Nat → Int} {ar : Nat → Nat → Int} {x1 : Int} {Q : Option mV → mH → Prop} (k : Ev 2 M_Returns_reckon (0, [some (vO 7), some (vO 3), some (vO 2), some (vA 0), none, none, none, none, none, none, none], [], (sc, ar)) (fun r1 h1 => Ev 3 M_Dt_mean (19, [some (vO 0), some (vI x1)], mPush r1 [], h1) Q)) :
  Ev 3 M_Dt_mean (0, [some (vO 0), some (vI x1)], [], (sc, ar)) Q :=
  wq_ok 200 _ _ [(19, 2), (26, 2), (33, 2), (37, 2)] _ _ _ _ _ (show (cO 0 = 8) ∧ ((cO 0 = 8) ∧ ((cO 0 = 8) ∧ ((cO 0 = 8) ∧ ((cO 7 = mK M_Returns_reckon) ∧ (Ev 2 M_Returns_reckon (0, [some (vO 7), some (vO 3), some (vO 2), some (vA 0), none, none, none, none, none, none, none], [], (sc, ar)) (fun r1 h1 => Ev 3 M_Dt_mean (19, [some (vO 0), some (vI x1)], mPush r1 [], h1) Q)))))) from ⟨(by decide), ⟨(by decide), ⟨(by decide), ⟨(by decide), ⟨(by decide), k⟩⟩⟩⟩⟩)
theorem sg_Dt_mean_19 {sc : Nat → Int} {ar : Nat → Nat → Int} {x1 : Int} {Q : Option mV → mH → Prop} (k : Ev 2 M_Returns_above (0, [some (vO 7), none, none, none, none, none, none, none], [], (sc, ar)) (fun r1 h1 => Ev 3 M_Dt_mean (26, [some (vO 0), some (vI x1)], mPush r1 [], h1) Q)) :
  Ev 3 M_Dt_mean (19, [some (vO 0), some (vI x1)], [], (sc, ar)) Q :=
  wq_ok 200 _ _ [(19, 2), (26, 2), (33, 2), (37, 2)] _ _ _ _ _ (show (cO 0 = 8) ∧ ((cO 7 = mK M_Returns_above) ∧ (Ev 2 M_Returns_above (0, [some (vO 7), none, none, none, none, none, none, none], [], (sc, ar)) (fun r1 h1 => Ev 3 M_Dt_mean (26, [some (vO 0), some (vI x1)], mPush r1 [], h1) Q))) from ⟨(by decide), ⟨(by decide), k⟩⟩)
theorem sg_Dt_mean_26 {sc : Nat → Int} {ar : Nat → Nat → Int} {x1 s0 : Int} {Q : Option mV → mH → Prop} (k : Ev 2 M_Returns_below (0, [some (vO 7)], [], (sc, ar)) (fun r1 h1 => Ev 3 M_Dt_mean (33, [some (vO 0), some (vI x1)], mPush r1 [vL s0], h1) Q)) :
  Ev 3 M_Dt_mean (26, [some (vO 0), some (vI x1)], [vL s0], (sc, ar)) Q :=
  wq_ok 200 _ _ [(19, 2), (26, 2), (33, 2), (37, 2)] _ _ _ _ _ (show (cO 0 = 8) ∧ ((cO 7 = mK M_Returns_below) ∧ (Ev 2 M_Returns_below (0, [some (vO 7)], [], (sc, ar)) (fun r1 h1 => Ev 3 M_Dt_mean (33, [some (vO 0), some (vI x1)], mPush r1 [vL s0], h1) Q))) from ⟨(by decide), ⟨(by decide), k⟩⟩)
theorem sg_Dt_mean_33 {sc : Nat → Int} {ar : Nat → Nat → Int} {x1 s0 s1 : Int} {Q : Option mV → mH → Prop} (k : Ev 2 M_Dt_inLeastTerms (0, [some (vL s1), none, some (vL s0), none, some (vI x1), none, none], [], (sc, ar)) (fun r1 h1 => Ev 3 M_Dt_mean (37, [some (vO 0), some (vI x1)], mPush r1 [], h1) Q)) :
  Ev 3 M_Dt_mean (33, [some (vO 0), some (vI x1)], [vL s0, vL s1], (sc, ar)) Q :=
  wq_ok 200 _ _ [(19, 2), (26, 2), (33, 2), (37, 2)] _ _ _ _ _ (show Ev 2 M_Dt_inLeastTerms (0, [some (vL s1), none, some (vL s0), none, some (vI x1), none, none], [], (sc, ar)) (fun r1 h1 => Ev 3 M_Dt_mean (37, [some (vO 0), some (vI x1)], mPush r1 [], h1) Q) from k)
theorem sg_Dt_mean_37 {sc : Nat → Int} {ar : Nat → Nat → Int} {x1 s0 : Int} {Q : Option mV → mH → Prop} (k : Q (some (vL s0)) (sc, ar)) :
  Ev 3 M_Dt_mean (37, [some (vO 0), some (vI x1)], [vL s0], (sc, ar)) Q :=
  wq_ok 200 _ _ [(19, 2), (26, 2), (33, 2), (37, 2)] _ _ _ _ _ (show Q (some (vL s0)) (sc, ar) from k)
theorem sg_Dt_often_0 {sc : Nat → Int} {ar : Nat → Nat → Int} {x1 x2 : Int} {Q : Option mV → mH → Prop} (k : Ev 3 M_Dt_isTask (0, [some (vO 0), some (vI x1)], [], (sc, ar)) (fun r1 h1 => Ev 4 M_Dt_often (5, [some (vO 0), some (vI x1), some (vI x2)], mPush r1 [], h1) Q)) :
  Ev 4 M_Dt_often (0, [some (vO 0), some (vI x1), some (vI x2)], [], (sc, ar)) Q :=
  wq_ok 200 _ _ [(5, 3), (28, 3), (35, 3), (42, 3), (46, 3)] _ _ _ _ _ (show (cO 0 = mK M_Dt_isTask) ∧ (Ev 3 M_Dt_isTask (0, [some (vO 0), some (vI x1)], [], (sc, ar)) (fun r1 h1 => Ev 4 M_Dt_often (5, [some (vO 0), some (vI x1), some (vI x2)], mPush r1 [], h1) Q)) from ⟨(by decide), k⟩)
theorem sg_Dt_often_5 {sc : Nat → Int} {ar : Nat → Nat → Int} {x1 x2 s0 : Int} {Q : Option mV → mH → Prop} (k : inR s0 ∧ 
  (s0 ≠ 0 → (Ev 3 M_Returns_reckonOne (0, [some (vO 7), some (vO 3), some (vO 2), some (vI x1), none], [], (sc, ar)) (fun r1 h1 => Ev 4 M_Dt_often (28, [some (vO 0), some (vI x1), some (vI x2)], mPush r1 [], h1) Q))) ∧ 
  (¬ (s0 ≠ 0) → (Q (some (vL (-1))) (sc, ar)))) :
  Ev 4 M_Dt_often (5, [some (vO 0), some (vI x1), some (vI x2)], [vI s0], (sc, ar)) Q :=
  wq_ok 200 _ _ [(5, 3), (28, 3), (35, 3), (42, 3), (46, 3)] _ _ _ _ _ (show (inR s0) ∧ (s0 ≠ 0 → ((cO 0 = 8) ∧ ((cO 0 = 8) ∧ ((cO 0 = 8) ∧ ((cO 7 = mK M_Returns_reckonOne) ∧ (Ev 3 M_Returns_reckonOne (0, [some (vO 7), some (vO 3), some (vO 2), some (vI x1), none], [], (sc, ar)) (fun r1 h1 => Ev 4 M_Dt_often (28, [some (vO 0), some (vI x1), some (vI x2)], mPush r1 [], h1) Q))))))) ∧ (¬ (s0 ≠ 0) → (Q (some (vL (-1))) (sc, ar))) from ⟨k.1, fun c1 => ⟨(by decide), ⟨(by decide), ⟨(by decide), ⟨(by decide), (k.2.1 c1)⟩⟩⟩⟩, fun c1 => (k.2.2 c1)⟩)
theorem sg_Dt_often_28 {sc : Nat → Int} {ar : Nat → Nat → Int} {x1 x2 : Int} {Q : Option mV → mH → Prop} (k : Ev 3 M_Returns_above (0, [some (vO 7), none, none, none, none, none, none, none], [], (sc, ar)) (fun r1 h1 => Ev 4 M_Dt_often (35, [some (vO 0), some (vI x1), some (vI x2)], mPush r1 [], h1) Q)) :
  Ev 4 M_Dt_often (28, [some (vO 0), some (vI x1), some (vI x2)], [], (sc, ar)) Q :=
  wq_ok 200 _ _ [(5, 3), (28, 3), (35, 3), (42, 3), (46, 3)] _ _ _ _ _ (show (cO 0 = 8) ∧ ((cO 7 = mK M_Returns_above) ∧ (Ev 3 M_Returns_above (0, [some (vO 7), none, none, none, none, none, none, none], [], (sc, ar)) (fun r1 h1 => Ev 4 M_Dt_often (35, [some (vO 0), some (vI x1), some (vI x2)], mPush r1 [], h1) Q))) from ⟨(by decide), ⟨(by decide), k⟩⟩)
theorem sg_Dt_often_35 {sc : Nat → Int} {ar : Nat → Nat → Int} {x1 x2 s0 : Int} {Q : Option mV → mH → Prop} (k : Ev 3 M_Returns_below (0, [some (vO 7)], [], (sc, ar)) (fun r1 h1 => Ev 4 M_Dt_often (42, [some (vO 0), some (vI x1), some (vI x2)], mPush r1 [vL s0], h1) Q)) :
  Ev 4 M_Dt_often (35, [some (vO 0), some (vI x1), some (vI x2)], [vL s0], (sc, ar)) Q :=
  wq_ok 200 _ _ [(5, 3), (28, 3), (35, 3), (42, 3), (46, 3)] _ _ _ _ _ (show (cO 0 = 8) ∧ ((cO 7 = mK M_Returns_below) ∧ (Ev 3 M_Returns_below (0, [some (vO 7)], [], (sc, ar)) (fun r1 h1 => Ev 4 M_Dt_often (42, [some (vO 0), some (vI x1), some (vI x2)], mPush r1 [vL s0], h1) Q))) from ⟨(by decide), ⟨(by decide), k⟩⟩)
theorem sg_Dt_often_42 {sc : Nat → Int} {ar : Nat → Nat → Int} {x1 x2 s0 s1 : Int} {Q : Option mV → mH → Prop} (k : Ev 3 M_Dt_inLeastTerms (0, [some (vL s1), none, some (vL s0), none, some (vI x2), none, none], [], (sc, ar)) (fun r1 h1 => Ev 4 M_Dt_often (46, [some (vO 0), some (vI x1), some (vI x2)], mPush r1 [], h1) Q)) :
  Ev 4 M_Dt_often (42, [some (vO 0), some (vI x1), some (vI x2)], [vL s0, vL s1], (sc, ar)) Q :=
  wq_ok 200 _ _ [(5, 3), (28, 3), (35, 3), (42, 3), (46, 3)] _ _ _ _ _ (show Ev 3 M_Dt_inLeastTerms (0, [some (vL s1), none, some (vL s0), none, some (vI x2), none, none], [], (sc, ar)) (fun r1 h1 => Ev 4 M_Dt_often (46, [some (vO 0), some (vI x1), some (vI x2)], mPush r1 [], h1) Q) from k)
theorem sg_Dt_often_46 {sc : Nat → Int} {ar : Nat → Nat → Int} {x1 x2 s0 : Int} {Q : Option mV → mH → Prop} (k : Q (some (vL s0)) (sc, ar)) :
  Ev 4 M_Dt_often (46, [some (vO 0), some (vI x1), some (vI x2)], [vL s0], (sc, ar)) Q :=
  wq_ok 200 _ _ [(5, 3), (28, 3), (35, 3), (42, 3), (46, 3)] _ _ _ _ _ (show Q (some (vL s0)) (sc, ar) from k)
theorem sg_Dt_ends_0 {sc : Nat → Int} {ar : Nat → Nat → Int} {x1 : Int} {Q : Option mV → mH → Prop} (k : Ev 2 M_Dt_isTask (0, [some (vO 0), some (vI x1)], [], (sc, ar)) (fun r1 h1 => Ev 3 M_Dt_ends (5, [some (vO 0), some (vI x1)], mPush r1 [], h1) Q)) :
  Ev 3 M_Dt_ends (0, [some (vO 0), some (vI x1)], [], (sc, ar)) Q :=
  wq_ok 200 _ _ [(5, 2), (29, 2), (41, 2), (44, 2)] _ _ _ _ _ (show (cO 0 = mK M_Dt_isTask) ∧ (Ev 2 M_Dt_isTask (0, [some (vO 0), some (vI x1)], [], (sc, ar)) (fun r1 h1 => Ev 3 M_Dt_ends (5, [some (vO 0), some (vI x1)], mPush r1 [], h1) Q)) from ⟨(by decide), k⟩)
theorem sg_Dt_ends_5 {sc : Nat → Int} {ar : Nat → Nat → Int} {x1 s0 : Int} {Q : Option mV → mH → Prop} (k : inR s0 ∧ 
  (s0 ≠ 0 → (Ev 2 M_Beside_reckon (0, [some (vO 8), some (vO 3), some (vO 1), some (vA 0), none, none, none, none], [], (sc, ar)) (fun r1 h1 => Ev 3 M_Dt_ends (29, [some (vO 0), some (vI x1)], mPush r1 [], h1) Q))) ∧ 
  (¬ (s0 ≠ 0) → (Q (some (vI (-1))) (sc, ar)))) :
  Ev 3 M_Dt_ends (5, [some (vO 0), some (vI x1)], [vI s0], (sc, ar)) Q :=
  wq_ok 200 _ _ [(5, 2), (29, 2), (41, 2), (44, 2)] _ _ _ _ _ (show (inR s0) ∧ (s0 ≠ 0 → ((cO 0 = 8) ∧ ((cO 0 = 8) ∧ ((cO 0 = 8) ∧ ((cO 0 = 8) ∧ ((cO 8 = mK M_Beside_reckon) ∧ (Ev 2 M_Beside_reckon (0, [some (vO 8), some (vO 3), some (vO 1), some (vA 0), none, none, none, none], [], (sc, ar)) (fun r1 h1 => Ev 3 M_Dt_ends (29, [some (vO 0), some (vI x1)], mPush r1 [], h1) Q)))))))) ∧ (¬ (s0 ≠ 0) → (Q (some (vI (-1))) (sc, ar))) from ⟨k.1, fun c1 => ⟨(by decide), ⟨(by decide), ⟨(by decide), ⟨(by decide), ⟨(by decide), (k.2.1 c1)⟩⟩⟩⟩⟩, fun c1 => (k.2.2 c1)⟩)
theorem sg_Dt_ends_29 {sc : Nat → Int} {ar : Nat → Nat → Int} {x1 : Int} {Q : Option mV → mH → Prop} (k : Ev 2 M_Order_placeOf (0, [some (vO 3), some (vI x1), none], [], (sc, ar)) (fun r1 h1 => Ev 3 M_Dt_ends (41, [some (vO 0), some (vI x1)], mPush r1 [vO 8], h1) Q)) :
  Ev 3 M_Dt_ends (29, [some (vO 0), some (vI x1)], [], (sc, ar)) Q :=
  wq_ok 200 _ _ [(5, 2), (29, 2), (41, 2), (44, 2)] _ _ _ _ _ (show (cO 0 = 8) ∧ ((cO 0 = 8) ∧ ((cO 3 = mK M_Order_placeOf) ∧ (Ev 2 M_Order_placeOf (0, [some (vO 3), some (vI x1), none], [], (sc, ar)) (fun r1 h1 => Ev 3 M_Dt_ends (41, [some (vO 0), some (vI x1)], mPush r1 [vO 8], h1) Q)))) from ⟨(by decide), ⟨(by decide), ⟨(by decide), k⟩⟩⟩)
theorem sg_Dt_ends_41 {sc : Nat → Int} {ar : Nat → Nat → Int} {x1 s0 : Int} {Q : Option mV → mH → Prop} (k : Ev 2 M_Beside_endAt (0, [some (vO 8), some (vI s0)], [], (sc, ar)) (fun r1 h1 => Ev 3 M_Dt_ends (44, [some (vO 0), some (vI x1)], mPush r1 [], h1) Q)) :
  Ev 3 M_Dt_ends (41, [some (vO 0), some (vI x1)], [vI s0, vO 8], (sc, ar)) Q :=
  wq_ok 200 _ _ [(5, 2), (29, 2), (41, 2), (44, 2)] _ _ _ _ _ (show (cO 8 = mK M_Beside_endAt) ∧ (Ev 2 M_Beside_endAt (0, [some (vO 8), some (vI s0)], [], (sc, ar)) (fun r1 h1 => Ev 3 M_Dt_ends (44, [some (vO 0), some (vI x1)], mPush r1 [], h1) Q)) from ⟨(by decide), k⟩)
theorem sg_Dt_ends_44 {sc : Nat → Int} {ar : Nat → Nat → Int} {x1 s0 : Int} {Q : Option mV → mH → Prop} (k : Q (some (vI s0)) (sc, ar)) :
  Ev 3 M_Dt_ends (44, [some (vO 0), some (vI x1)], [vI s0], (sc, ar)) Q :=
  wq_ok 200 _ _ [(5, 2), (29, 2), (41, 2), (44, 2)] _ _ _ _ _ (show Q (some (vI s0)) (sc, ar) from k)
theorem sg_Dt_span_0 {sc : Nat → Int} {ar : Nat → Nat → Int} {Q : Option mV → mH → Prop} (k : Ev 2 M_Beside_reckon (0, [some (vO 8), some (vO 3), some (vO 1), some (vA 0), none, none, none, none], [], (sc, ar)) (fun r1 h1 => Ev 3 M_Dt_span (19, [some (vO 0)], mPush r1 [], h1) Q)) :
  Ev 3 M_Dt_span (0, [some (vO 0)], [], (sc, ar)) Q :=
  wq_ok 200 _ _ [(19, 1), (26, 1)] _ _ _ _ _ (show (cO 0 = 8) ∧ ((cO 0 = 8) ∧ ((cO 0 = 8) ∧ ((cO 0 = 8) ∧ ((cO 8 = mK M_Beside_reckon) ∧ (Ev 2 M_Beside_reckon (0, [some (vO 8), some (vO 3), some (vO 1), some (vA 0), none, none, none, none], [], (sc, ar)) (fun r1 h1 => Ev 3 M_Dt_span (19, [some (vO 0)], mPush r1 [], h1) Q)))))) from ⟨(by decide), ⟨(by decide), ⟨(by decide), ⟨(by decide), ⟨(by decide), k⟩⟩⟩⟩⟩)
theorem sg_Dt_span_19 {sc : Nat → Int} {ar : Nat → Nat → Int} {Q : Option mV → mH → Prop} (k : Ev 2 M_Beside_latest (0, [some (vO 8), none, none, none, none, none], [], (sc, ar)) (fun r1 h1 => Ev 3 M_Dt_span (26, [some (vO 0)], mPush r1 [], h1) Q)) :
  Ev 3 M_Dt_span (19, [some (vO 0)], [], (sc, ar)) Q :=
  wq_ok 200 _ _ [(19, 1), (26, 1)] _ _ _ _ _ (show (cO 0 = 8) ∧ ((cO 8 = mK M_Beside_latest) ∧ (Ev 2 M_Beside_latest (0, [some (vO 8), none, none, none, none, none], [], (sc, ar)) (fun r1 h1 => Ev 3 M_Dt_span (26, [some (vO 0)], mPush r1 [], h1) Q))) from ⟨(by decide), ⟨(by decide), k⟩⟩)
theorem sg_Dt_span_26 {sc : Nat → Int} {ar : Nat → Nat → Int} {s0 : Int} {Q : Option mV → mH → Prop} (k : Q (some (vI s0)) (sc, ar)) :
  Ev 3 M_Dt_span (26, [some (vO 0)], [vI s0], (sc, ar)) Q :=
  wq_ok 200 _ _ [(19, 1), (26, 1)] _ _ _ _ _ (show Q (some (vI s0)) (sc, ar) from k)
theorem sg_Dt_between_0 {sc : Nat → Int} {ar : Nat → Nat → Int} {x1 : Int} {Q : Option mV → mH → Prop} (k : Ev 5 M_Dt_isTeamSize (0, [some (vI x1)], [], (sc, ar)) (fun r1 h1 => Ev 6 M_Dt_between (4, [some (vO 0), some (vI x1)], mPush r1 [], h1) Q)) :
  Ev 6 M_Dt_between (0, [some (vO 0), some (vI x1)], [], (sc, ar)) Q :=
  wq_ok 200 _ _ [(4, 2), (26, 2), (33, 2)] _ _ _ _ _ (show Ev 5 M_Dt_isTeamSize (0, [some (vI x1)], [], (sc, ar)) (fun r1 h1 => Ev 6 M_Dt_between (4, [some (vO 0), some (vI x1)], mPush r1 [], h1) Q) from k)
theorem sg_Dt_between_4 {sc : Nat → Int} {ar : Nat → Nat → Int} {x1 s0 : Int} {Q : Option mV → mH → Prop} (k : inR s0 ∧ 
  (s0 ≠ 0 → (Ev 5 M_Team_find (0, [some (vO 9), some (vI (sc 10)), some (vO 1), some (vI x1)], [], (sc, ar)) (fun r1 h1 => Ev 6 M_Dt_between (26, [some (vO 0), some (vI x1)], mPush r1 [], h1) Q))) ∧ 
  (¬ (s0 ≠ 0) → (Q (some (vI (-2))) (sc, ar)))) :
  Ev 6 M_Dt_between (4, [some (vO 0), some (vI x1)], [vI s0], (sc, ar)) Q :=
  wq_ok 200 _ _ [(4, 2), (26, 2), (33, 2)] _ _ _ _ _ (show (inR s0) ∧ (s0 ≠ 0 → ((cO 0 = 8) ∧ ((cO 0 = 8) ∧ ((cO 0 = 8) ∧ ((cO 9 = mK M_Team_find) ∧ (Ev 5 M_Team_find (0, [some (vO 9), some (vI (sc 10)), some (vO 1), some (vI x1)], [], (sc, ar)) (fun r1 h1 => Ev 6 M_Dt_between (26, [some (vO 0), some (vI x1)], mPush r1 [], h1) Q))))))) ∧ (¬ (s0 ≠ 0) → (Q (some (vI (-2))) (sc, ar))) from ⟨k.1, fun c1 => ⟨(by decide), ⟨(by decide), ⟨(by decide), ⟨(by decide), (k.2.1 c1)⟩⟩⟩⟩, fun c1 => (k.2.2 c1)⟩)
theorem sg_Dt_between_26 {sc : Nat → Int} {ar : Nat → Nat → Int} {x1 : Int} {Q : Option mV → mH → Prop} (k : Ev 5 M_Team_leastBetween (0, [some (vO 9)], [], (sc, ar)) (fun r1 h1 => Ev 6 M_Dt_between (33, [some (vO 0), some (vI x1)], mPush r1 [], h1) Q)) :
  Ev 6 M_Dt_between (26, [some (vO 0), some (vI x1)], [], (sc, ar)) Q :=
  wq_ok 200 _ _ [(4, 2), (26, 2), (33, 2)] _ _ _ _ _ (show (cO 0 = 8) ∧ ((cO 9 = mK M_Team_leastBetween) ∧ (Ev 5 M_Team_leastBetween (0, [some (vO 9)], [], (sc, ar)) (fun r1 h1 => Ev 6 M_Dt_between (33, [some (vO 0), some (vI x1)], mPush r1 [], h1) Q))) from ⟨(by decide), ⟨(by decide), k⟩⟩)
theorem sg_Dt_between_33 {sc : Nat → Int} {ar : Nat → Nat → Int} {x1 s0 : Int} {Q : Option mV → mH → Prop} (k : Q (some (vI s0)) (sc, ar)) :
  Ev 6 M_Dt_between (33, [some (vO 0), some (vI x1)], [vI s0], (sc, ar)) Q :=
  wq_ok 200 _ _ [(4, 2), (26, 2), (33, 2)] _ _ _ _ _ (show Q (some (vI s0)) (sc, ar) from k)
theorem sg_Dt_team_0 {sc : Nat → Int} {ar : Nat → Nat → Int} {x1 x2 : Int} {Q : Option mV → mH → Prop} (k : Ev 5 M_Dt_isTask (0, [some (vO 0), some (vI x2)], [], (sc, ar)) (fun r1 h1 => Ev 6 M_Dt_team (5, [some (vO 0), some (vI x1), some (vI x2)], mPush r1 [], h1) Q)) :
  Ev 6 M_Dt_team (0, [some (vO 0), some (vI x1), some (vI x2)], [], (sc, ar)) Q :=
  wq_ok 200 _ _ [(5, 3), (14, 3), (36, 3), (44, 3)] _ _ _ _ _ (show (cO 0 = mK M_Dt_isTask) ∧ (Ev 5 M_Dt_isTask (0, [some (vO 0), some (vI x2)], [], (sc, ar)) (fun r1 h1 => Ev 6 M_Dt_team (5, [some (vO 0), some (vI x1), some (vI x2)], mPush r1 [], h1) Q)) from ⟨(by decide), k⟩)
theorem sg_Dt_team_5 {sc : Nat → Int} {ar : Nat → Nat → Int} {x1 x2 s0 : Int} {Q : Option mV → mH → Prop} (k : inR s0 ∧ 
  (s0 ≠ 0 → (Ev 5 M_Dt_isTeamSize (0, [some (vI x1)], [], (sc, ar)) (fun r1 h1 => Ev 6 M_Dt_team (14, [some (vO 0), some (vI x1), some (vI x2)], mPush r1 [], h1) Q))) ∧ 
  (¬ (s0 ≠ 0) → (Q (some (vI (-1))) (sc, ar)))) :
  Ev 6 M_Dt_team (5, [some (vO 0), some (vI x1), some (vI x2)], [vI s0], (sc, ar)) Q :=
  wq_ok 200 _ _ [(5, 3), (14, 3), (36, 3), (44, 3)] _ _ _ _ _ (show (inR s0) ∧ (s0 ≠ 0 → (Ev 5 M_Dt_isTeamSize (0, [some (vI x1)], [], (sc, ar)) (fun r1 h1 => Ev 6 M_Dt_team (14, [some (vO 0), some (vI x1), some (vI x2)], mPush r1 [], h1) Q))) ∧ (¬ (s0 ≠ 0) → (Q (some (vI (-1))) (sc, ar))) from ⟨k.1, fun c1 => (k.2.1 c1), fun c1 => (k.2.2 c1)⟩)
theorem sg_Dt_team_14 {sc : Nat → Int} {ar : Nat → Nat → Int} {x1 x2 s0 : Int} {Q : Option mV → mH → Prop} (k : inR s0 ∧ 
  (s0 ≠ 0 → (Ev 5 M_Team_find (0, [some (vO 9), some (vI (sc 10)), some (vO 1), some (vI x1)], [], (sc, ar)) (fun r1 h1 => Ev 6 M_Dt_team (36, [some (vO 0), some (vI x1), some (vI x2)], mPush r1 [], h1) Q))) ∧ 
  (¬ (s0 ≠ 0) → (Q (some (vI (-2))) (sc, ar)))) :
  Ev 6 M_Dt_team (14, [some (vO 0), some (vI x1), some (vI x2)], [vI s0], (sc, ar)) Q :=
  wq_ok 200 _ _ [(5, 3), (14, 3), (36, 3), (44, 3)] _ _ _ _ _ (show (inR s0) ∧ (s0 ≠ 0 → ((cO 0 = 8) ∧ ((cO 0 = 8) ∧ ((cO 0 = 8) ∧ ((cO 9 = mK M_Team_find) ∧ (Ev 5 M_Team_find (0, [some (vO 9), some (vI (sc 10)), some (vO 1), some (vI x1)], [], (sc, ar)) (fun r1 h1 => Ev 6 M_Dt_team (36, [some (vO 0), some (vI x1), some (vI x2)], mPush r1 [], h1) Q))))))) ∧ (¬ (s0 ≠ 0) → (Q (some (vI (-2))) (sc, ar))) from ⟨k.1, fun c1 => ⟨(by decide), ⟨(by decide), ⟨(by decide), ⟨(by decide), (k.2.1 c1)⟩⟩⟩⟩, fun c1 => (k.2.2 c1)⟩)
theorem sg_Dt_team_36 {sc : Nat → Int} {ar : Nat → Nat → Int} {x1 x2 : Int} {Q : Option mV → mH → Prop} (k : Ev 5 M_Team_teamOf (0, [some (vO 9), some (vI x2)], [], (sc, ar)) (fun r1 h1 => Ev 6 M_Dt_team (44, [some (vO 0), some (vI x1), some (vI x2)], mPush r1 [], h1) Q)) :
  Ev 6 M_Dt_team (36, [some (vO 0), some (vI x1), some (vI x2)], [], (sc, ar)) Q :=
  wq_ok 200 _ _ [(5, 3), (14, 3), (36, 3), (44, 3)] _ _ _ _ _ (show (cO 0 = 8) ∧ ((cO 9 = mK M_Team_teamOf) ∧ (Ev 5 M_Team_teamOf (0, [some (vO 9), some (vI x2)], [], (sc, ar)) (fun r1 h1 => Ev 6 M_Dt_team (44, [some (vO 0), some (vI x1), some (vI x2)], mPush r1 [], h1) Q))) from ⟨(by decide), ⟨(by decide), k⟩⟩)
theorem sg_Dt_team_44 {sc : Nat → Int} {ar : Nat → Nat → Int} {x1 x2 s0 : Int} {Q : Option mV → mH → Prop} (k : Q (some (vI s0)) (sc, ar)) :
  Ev 6 M_Dt_team (44, [some (vO 0), some (vI x1), some (vI x2)], [vI s0], (sc, ar)) Q :=
  wq_ok 200 _ _ [(5, 3), (14, 3), (36, 3), (44, 3)] _ _ _ _ _ (show Q (some (vI s0)) (sc, ar) from k)
theorem sg_Dt_force_0 {sc : Nat → Int} {ar : Nat → Nat → Int} {x1 x2 x3 : Int} {Q : Option mV → mH → Prop} (k : Ev 3 M_Dt_isTask (0, [some (vO 0), some (vI x1)], [], (sc, ar)) (fun r1 h1 => Ev 4 M_Dt_force (5, [some (vO 0), some (vI x1), some (vI x2), some (vI x3)], mPush r1 [], h1) Q)) :
  Ev 4 M_Dt_force (0, [some (vO 0), some (vI x1), some (vI x2), some (vI x3)], [], (sc, ar)) Q :=
  wq_ok 200 _ _ [(5, 4), (13, 4), (36, 4), (44, 4), (52, 4)] _ _ _ _ _ (show (cO 0 = mK M_Dt_isTask) ∧ (Ev 3 M_Dt_isTask (0, [some (vO 0), some (vI x1)], [], (sc, ar)) (fun r1 h1 => Ev 4 M_Dt_force (5, [some (vO 0), some (vI x1), some (vI x2), some (vI x3)], mPush r1 [], h1) Q)) from ⟨(by decide), k⟩)
theorem sg_Dt_force_5 {sc : Nat → Int} {ar : Nat → Nat → Int} {x1 x2 x3 s0 : Int} {Q : Option mV → mH → Prop} (k : inR s0 ∧ 
  (s0 = 0 → (Q (some (vL (-1))) (sc, ar))) ∧ 
  (¬ (s0 = 0) → (Ev 3 M_Dt_isTask (0, [some (vO 0), some (vI x2)], [], (sc, ar)) (fun r1 h1 => Ev 4 M_Dt_force (13, [some (vO 0), some (vI x1), some (vI x2), some (vI x3)], mPush r1 [], h1) Q)))) :
  Ev 4 M_Dt_force (5, [some (vO 0), some (vI x1), some (vI x2), some (vI x3)], [vI s0], (sc, ar)) Q :=
  wq_ok 200 _ _ [(5, 4), (13, 4), (36, 4), (44, 4), (52, 4)] _ _ _ _ _ (show (inR s0) ∧ (s0 = 0 → (Q (some (vL (-1))) (sc, ar))) ∧ (¬ (s0 = 0) → ((cO 0 = mK M_Dt_isTask) ∧ (Ev 3 M_Dt_isTask (0, [some (vO 0), some (vI x2)], [], (sc, ar)) (fun r1 h1 => Ev 4 M_Dt_force (13, [some (vO 0), some (vI x1), some (vI x2), some (vI x3)], mPush r1 [], h1) Q)))) from ⟨k.1, fun c1 => (k.2.1 c1), fun c1 => ⟨(by decide), (k.2.2 c1)⟩⟩)
theorem sg_Dt_force_13 {sc : Nat → Int} {ar : Nat → Nat → Int} {x1 x2 x3 s0 : Int} {Q : Option mV → mH → Prop} (k : inR s0 ∧ 
  (s0 ≠ 0 → (Ev 3 M_Spread_from (0, [some (vO 10), some (vI x1), some (vI (sc 10)), some (vO 1), none, none], [], (sc, ar)) (fun r1 h1 => Ev 4 M_Dt_force (36, [some (vO 0), some (vI x1), some (vI x2), some (vI x3)], mPush r1 [], h1) Q))) ∧ 
  (¬ (s0 ≠ 0) → (Q (some (vL (-1))) (sc, ar)))) :
  Ev 4 M_Dt_force (13, [some (vO 0), some (vI x1), some (vI x2), some (vI x3)], [vI s0], (sc, ar)) Q :=
  wq_ok 200 _ _ [(5, 4), (13, 4), (36, 4), (44, 4), (52, 4)] _ _ _ _ _ (show (inR s0) ∧ (s0 ≠ 0 → ((cO 0 = 8) ∧ ((cO 0 = 8) ∧ ((cO 0 = 8) ∧ ((cO 10 = mK M_Spread_from) ∧ (Ev 3 M_Spread_from (0, [some (vO 10), some (vI x1), some (vI (sc 10)), some (vO 1), none, none], [], (sc, ar)) (fun r1 h1 => Ev 4 M_Dt_force (36, [some (vO 0), some (vI x1), some (vI x2), some (vI x3)], mPush r1 [], h1) Q))))))) ∧ (¬ (s0 ≠ 0) → (Q (some (vL (-1))) (sc, ar))) from ⟨k.1, fun c1 => ⟨(by decide), ⟨(by decide), ⟨(by decide), ⟨(by decide), (k.2.1 c1)⟩⟩⟩⟩, fun c1 => (k.2.2 c1)⟩)
theorem sg_Dt_force_36 {sc : Nat → Int} {ar : Nat → Nat → Int} {x1 x2 x3 : Int} {Q : Option mV → mH → Prop} (k : Ev 3 M_Spread_forceAt (0, [some (vO 10), some (vI x2)], [], (sc, ar)) (fun r1 h1 => Ev 4 M_Dt_force (44, [some (vO 0), some (vI x1), some (vI x2), some (vI x3)], mPush r1 [], h1) Q)) :
  Ev 4 M_Dt_force (36, [some (vO 0), some (vI x1), some (vI x2), some (vI x3)], [], (sc, ar)) Q :=
  wq_ok 200 _ _ [(5, 4), (13, 4), (36, 4), (44, 4), (52, 4)] _ _ _ _ _ (show (cO 0 = 8) ∧ ((cO 10 = mK M_Spread_forceAt) ∧ (Ev 3 M_Spread_forceAt (0, [some (vO 10), some (vI x2)], [], (sc, ar)) (fun r1 h1 => Ev 4 M_Dt_force (44, [some (vO 0), some (vI x1), some (vI x2), some (vI x3)], mPush r1 [], h1) Q))) from ⟨(by decide), ⟨(by decide), k⟩⟩)
theorem sg_Dt_force_44 {sc : Nat → Int} {ar : Nat → Nat → Int} {x1 x2 x3 s0 : Int} {Q : Option mV → mH → Prop} (k : inR s0 ∧ 
  (Ev 3 M_Dt_inLeastTerms (0, [some (vL s0), none, some (vL 10000000), none, some (vI x3), none, none], [], (sc, ar)) (fun r1 h1 => Ev 4 M_Dt_force (52, [some (vO 0), some (vI x1), some (vI x2), some (vI x3)], mPush r1 [], h1) Q))) :
  Ev 4 M_Dt_force (44, [some (vO 0), some (vI x1), some (vI x2), some (vI x3)], [vI s0], (sc, ar)) Q :=
  wq_ok 200 _ _ [(5, 4), (13, 4), (36, 4), (44, 4), (52, 4)] _ _ _ _ _ (show (inR s0) ∧ (Ev 3 M_Dt_inLeastTerms (0, [some (vL s0), none, some (vL 10000000), none, some (vI x3), none, none], [], (sc, ar)) (fun r1 h1 => Ev 4 M_Dt_force (52, [some (vO 0), some (vI x1), some (vI x2), some (vI x3)], mPush r1 [], h1) Q)) from ⟨k.1, k.2⟩)
theorem sg_Dt_force_52 {sc : Nat → Int} {ar : Nat → Nat → Int} {x1 x2 x3 s0 : Int} {Q : Option mV → mH → Prop} (k : Q (some (vL s0)) (sc, ar)) :
  Ev 4 M_Dt_force (52, [some (vO 0), some (vI x1), some (vI x2), some (vI x3)], [vL s0], (sc, ar)) Q :=
  wq_ok 200 _ _ [(5, 4), (13, 4), (36, 4), (44, 4), (52, 4)] _ _ _ _ _ (show Q (some (vL s0)) (sc, ar) from k)
theorem sg_Dt_reach_0 {sc : Nat → Int} {ar : Nat → Nat → Int} {x1 x2 : Int} {Q : Option mV → mH → Prop} (k : Ev 3 M_Dt_isTask (0, [some (vO 0), some (vI x1)], [], (sc, ar)) (fun r1 h1 => Ev 4 M_Dt_reach (5, [some (vO 0), some (vI x1), some (vI x2), none], mPush r1 [], h1) Q)) :
  Ev 4 M_Dt_reach (0, [some (vO 0), some (vI x1), some (vI x2), none], [], (sc, ar)) Q :=
  wq_ok 200 _ _ [(5, 3), (41, 3), (55, 4)] _ _ _ _ _ (show (cO 0 = mK M_Dt_isTask) ∧ (Ev 3 M_Dt_isTask (0, [some (vO 0), some (vI x1)], [], (sc, ar)) (fun r1 h1 => Ev 4 M_Dt_reach (5, [some (vO 0), some (vI x1), some (vI x2), none], mPush r1 [], h1) Q)) from ⟨(by decide), k⟩)
theorem sg_Dt_reach_5 {sc : Nat → Int} {ar : Nat → Nat → Int} {x1 x2 s0 : Int} {Q : Option mV → mH → Prop} (k : inR s0 ∧ 
  (s0 ≠ 0 → (inR x2 ∧ 
    (x2 < 1 → (Q (some (vI (-2))) (sc, ar))) ∧ 
    (¬ (x2 < 1) → (inR x2 ∧ 
      (x2 ≤ 1000 → (Ev 3 M_Spread_from (0, [some (vO 10), some (vI x1), some (vI (sc 10)), some (vO 1), none, none], [], (sc, ar)) (fun r1 h1 => Ev 4 M_Dt_reach (41, [some (vO 0), some (vI x1), some (vI x2), none], mPush r1 [], h1) Q))) ∧ 
      (¬ (x2 ≤ 1000) → (Q (some (vI (-2))) (sc, ar))))))) ∧ 
  (¬ (s0 ≠ 0) → (Q (some (vI (-1))) (sc, ar)))) :
  Ev 4 M_Dt_reach (5, [some (vO 0), some (vI x1), some (vI x2), none], [vI s0], (sc, ar)) Q :=
  wq_ok 200 _ _ [(5, 3), (41, 3), (55, 4)] _ _ _ _ _ (show (inR s0) ∧ (s0 ≠ 0 → ((inR x2 ∧ inR 1) ∧ (x2 < 1 → (Q (some (vI (-2))) (sc, ar))) ∧ (¬ (x2 < 1) → ((inR x2 ∧ inR 1000) ∧ (x2 ≤ 1000 → ((cO 0 = 8) ∧ ((cO 0 = 8) ∧ ((cO 0 = 8) ∧ ((cO 10 = mK M_Spread_from) ∧ (Ev 3 M_Spread_from (0, [some (vO 10), some (vI x1), some (vI (sc 10)), some (vO 1), none, none], [], (sc, ar)) (fun r1 h1 => Ev 4 M_Dt_reach (41, [some (vO 0), some (vI x1), some (vI x2), none], mPush r1 [], h1) Q))))))) ∧ (¬ (x2 ≤ 1000) → (Q (some (vI (-2))) (sc, ar))))))) ∧ (¬ (s0 ≠ 0) → (Q (some (vI (-1))) (sc, ar))) from ⟨k.1, fun c1 => ⟨⟨(k.2.1 c1).1, (by decide)⟩, fun c2 => ((k.2.1 c1).2.1 c2), fun c2 => ⟨⟨((k.2.1 c1).2.2 c2).1, (by decide)⟩, fun c3 => ⟨(by decide), ⟨(by decide), ⟨(by decide), ⟨(by decide), (((k.2.1 c1).2.2 c2).2.1 c3)⟩⟩⟩⟩, fun c3 => (((k.2.1 c1).2.2 c2).2.2 c3)⟩⟩, fun c1 => (k.2.2 c1)⟩)
theorem sg_Dt_reach_41 {sc : Nat → Int} {ar : Nat → Nat → Int} {x1 x2 : Int} {Q : Option mV → mH → Prop} (k : Ev 3 M_Spread_howMany (0, [some (vO 10), some (vI (10000 * x2)), none, none, none, none, none], [], (sc, ar)) (fun r1 h1 => Ev 4 M_Dt_reach (55, [some (vO 0), some (vI x1), some (vI x2), some (vI 1)], mPush r1 [], h1) Q)) :
  Ev 4 M_Dt_reach (41, [some (vO 0), some (vI x1), some (vI x2), none], [], (sc, ar)) Q :=
  wq_ok 200 _ _ [(5, 3), (41, 3), (55, 4)] _ _ _ _ _ (show (cO 0 = 8) ∧ ((cO 10 = mK M_Spread_howMany) ∧ (Ev 3 M_Spread_howMany (0, [some (vO 10), some (vI (10000 * x2)), none, none, none, none, none], [], (sc, ar)) (fun r1 h1 => Ev 4 M_Dt_reach (55, [some (vO 0), some (vI x1), some (vI x2), some (vI 1)], mPush r1 [], h1) Q))) from ⟨(by decide), ⟨(by decide), k⟩⟩)
theorem sg_Dt_reach_55 {sc : Nat → Int} {ar : Nat → Nat → Int} {x1 x2 x3 s0 : Int} {Q : Option mV → mH → Prop} (k : Q (some (vI (s0 - x3))) (sc, ar)) :
  Ev 4 M_Dt_reach (55, [some (vO 0), some (vI x1), some (vI x2), some (vI x3)], [vI s0], (sc, ar)) Q :=
  wq_ok 200 _ _ [(5, 3), (41, 3), (55, 4)] _ _ _ _ _ (show Q (some (vI (s0 - x3))) (sc, ar) from k)
theorem sg_Dt_total_0 {sc : Nat → Int} {ar : Nat → Nat → Int} {x1 : Int} {Q : Option mV → mH → Prop} (k : Ev 1 M_Dt_total (1, [some (vO 0), some (vI x1)], [vI x1], (sc, ar)) Q) :
  Ev 1 M_Dt_total (0, [some (vO 0), some (vI x1)], [], (sc, ar)) Q :=
  wq_ok 200 _ _ [(1, 2), (36, 2), (41, 2), (48, 2), (49, 2), (56, 2), (57, 2), (64, 2), (65, 2), (69, 2), (70, 2)] _ _ _ _ _ (show Ev 1 M_Dt_total (1, [some (vO 0), some (vI x1)], [vI x1], (sc, ar)) Q from k)
theorem sg_Dt_total_1 {sc : Nat → Int} {ar : Nat → Nat → Int} {x1 s0 : Int} {Q : Option mV → mH → Prop} (k : inR s0 ∧ (s0 < 0 ∨ 4 < s0 → Ev 1 M_Dt_total (70, [some (vO 0), some (vI x1)], [], (sc, ar)) Q) ∧
  (s0 = 0 → Ev 1 M_Dt_total (36, [some (vO 0), some (vI x1)], [], (sc, ar)) Q) ∧
  (s0 = 1 → Ev 1 M_Dt_total (41, [some (vO 0), some (vI x1)], [], (sc, ar)) Q) ∧
  (s0 = 2 → Ev 1 M_Dt_total (49, [some (vO 0), some (vI x1)], [], (sc, ar)) Q) ∧
  (s0 = 3 → Ev 1 M_Dt_total (57, [some (vO 0), some (vI x1)], [], (sc, ar)) Q) ∧
  (s0 = 4 → Ev 1 M_Dt_total (65, [some (vO 0), some (vI x1)], [], (sc, ar)) Q)) :
  Ev 1 M_Dt_total (1, [some (vO 0), some (vI x1)], [vI s0], (sc, ar)) Q := by
  refine wq_ok 200 _ _ [(1, 2), (36, 2), (41, 2), (48, 2), (49, 2), (56, 2), (57, 2), (64, 2), (65, 2), (69, 2), (70, 2)] _ _ _ _ _ ?_
  refine And.intro ⟨k.1, by decide, by decide⟩ (And.intro (fun c => k.2.1 c) (fun c => ?_))
  have h : s0 = 0 ∨ s0 = 1 ∨ s0 = 2 ∨ s0 = 3 ∨ s0 = 4 := by omega
  rcases h with h | h | h | h | h
  · subst h
    exact k.2.2.1 rfl
  · subst h
    exact k.2.2.2.1 rfl
  · subst h
    exact k.2.2.2.2.1 rfl
  · subst h
    exact k.2.2.2.2.2.1 rfl
  · subst h
    exact k.2.2.2.2.2.2 rfl
theorem sg_Dt_total_36 {sc : Nat → Int} {ar : Nat → Nat → Int} {x1 : Int} {Q : Option mV → mH → Prop} (k : Q (some (vI (sc 10))) (sc, ar)) :
  Ev 1 M_Dt_total (36, [some (vO 0), some (vI x1)], [], (sc, ar)) Q :=
  wq_ok 200 _ _ [(1, 2), (36, 2), (41, 2), (48, 2), (49, 2), (56, 2), (57, 2), (64, 2), (65, 2), (69, 2), (70, 2)] _ _ _ _ _ (show (cO 0 = 8) ∧ (Q (some (vI (sc 10))) (sc, ar)) from ⟨(by decide), k⟩)
theorem sg_Dt_total_41 {sc : Nat → Int} {ar : Nat → Nat → Int} {x1 : Int} {Q : Option mV → mH → Prop} (k : Ev 0 M_Table_howMany (0, [some (vO 1), none, none, none, none, none], [], (sc, ar)) (fun r1 h1 => Ev 1 M_Dt_total (48, [some (vO 0), some (vI x1)], mPush r1 [], h1) Q)) :
  Ev 1 M_Dt_total (41, [some (vO 0), some (vI x1)], [], (sc, ar)) Q :=
  wq_ok 200 _ _ [(1, 2), (36, 2), (41, 2), (48, 2), (49, 2), (56, 2), (57, 2), (64, 2), (65, 2), (69, 2), (70, 2)] _ _ _ _ _ (show (cO 0 = 8) ∧ ((cO 1 = mK M_Table_howMany) ∧ (Ev 0 M_Table_howMany (0, [some (vO 1), none, none, none, none, none], [], (sc, ar)) (fun r1 h1 => Ev 1 M_Dt_total (48, [some (vO 0), some (vI x1)], mPush r1 [], h1) Q))) from ⟨(by decide), ⟨(by decide), k⟩⟩)
theorem sg_Dt_total_48 {sc : Nat → Int} {ar : Nat → Nat → Int} {x1 s0 : Int} {Q : Option mV → mH → Prop} (k : Q (some (vI s0)) (sc, ar)) :
  Ev 1 M_Dt_total (48, [some (vO 0), some (vI x1)], [vI s0], (sc, ar)) Q :=
  wq_ok 200 _ _ [(1, 2), (36, 2), (41, 2), (48, 2), (49, 2), (56, 2), (57, 2), (64, 2), (65, 2), (69, 2), (70, 2)] _ _ _ _ _ (show Q (some (vI s0)) (sc, ar) from k)
theorem sg_Dt_total_49 {sc : Nat → Int} {ar : Nat → Nat → Int} {x1 : Int} {Q : Option mV → mH → Prop} (k : Ev 0 M_Table_sum (0, [some (vO 1), none, none, none, none, none], [], (sc, ar)) (fun r1 h1 => Ev 1 M_Dt_total (56, [some (vO 0), some (vI x1)], mPush r1 [], h1) Q)) :
  Ev 1 M_Dt_total (49, [some (vO 0), some (vI x1)], [], (sc, ar)) Q :=
  wq_ok 200 _ _ [(1, 2), (36, 2), (41, 2), (48, 2), (49, 2), (56, 2), (57, 2), (64, 2), (65, 2), (69, 2), (70, 2)] _ _ _ _ _ (show (cO 0 = 8) ∧ ((cO 1 = mK M_Table_sum) ∧ (Ev 0 M_Table_sum (0, [some (vO 1), none, none, none, none, none], [], (sc, ar)) (fun r1 h1 => Ev 1 M_Dt_total (56, [some (vO 0), some (vI x1)], mPush r1 [], h1) Q))) from ⟨(by decide), ⟨(by decide), k⟩⟩)
theorem sg_Dt_total_56 {sc : Nat → Int} {ar : Nat → Nat → Int} {x1 s0 : Int} {Q : Option mV → mH → Prop} (k : Q (some (vI s0)) (sc, ar)) :
  Ev 1 M_Dt_total (56, [some (vO 0), some (vI x1)], [vI s0], (sc, ar)) Q :=
  wq_ok 200 _ _ [(1, 2), (36, 2), (41, 2), (48, 2), (49, 2), (56, 2), (57, 2), (64, 2), (65, 2), (69, 2), (70, 2)] _ _ _ _ _ (show Q (some (vI s0)) (sc, ar) from k)
theorem sg_Dt_total_57 {sc : Nat → Int} {ar : Nat → Nat → Int} {x1 : Int} {Q : Option mV → mH → Prop} (k : Ev 0 M_Table_howMany (0, [some (vO 2), none, none, none, none, none], [], (sc, ar)) (fun r1 h1 => Ev 1 M_Dt_total (64, [some (vO 0), some (vI x1)], mPush r1 [], h1) Q)) :
  Ev 1 M_Dt_total (57, [some (vO 0), some (vI x1)], [], (sc, ar)) Q :=
  wq_ok 200 _ _ [(1, 2), (36, 2), (41, 2), (48, 2), (49, 2), (56, 2), (57, 2), (64, 2), (65, 2), (69, 2), (70, 2)] _ _ _ _ _ (show (cO 0 = 8) ∧ ((cO 2 = mK M_Table_howMany) ∧ (Ev 0 M_Table_howMany (0, [some (vO 2), none, none, none, none, none], [], (sc, ar)) (fun r1 h1 => Ev 1 M_Dt_total (64, [some (vO 0), some (vI x1)], mPush r1 [], h1) Q))) from ⟨(by decide), ⟨(by decide), k⟩⟩)
theorem sg_Dt_total_64 {sc : Nat → Int} {ar : Nat → Nat → Int} {x1 s0 : Int} {Q : Option mV → mH → Prop} (k : Q (some (vI s0)) (sc, ar)) :
  Ev 1 M_Dt_total (64, [some (vO 0), some (vI x1)], [vI s0], (sc, ar)) Q :=
  wq_ok 200 _ _ [(1, 2), (36, 2), (41, 2), (48, 2), (49, 2), (56, 2), (57, 2), (64, 2), (65, 2), (69, 2), (70, 2)] _ _ _ _ _ (show Q (some (vI s0)) (sc, ar) from k)
theorem sg_Dt_total_65 {sc : Nat → Int} {ar : Nat → Nat → Int} {x1 : Int} {Q : Option mV → mH → Prop} (k : Ev 0 M_Dt_sumOfTimes (0, [some (vO 0), none, none, none, none, none], [], (sc, ar)) (fun r1 h1 => Ev 1 M_Dt_total (69, [some (vO 0), some (vI x1)], mPush r1 [], h1) Q)) :
  Ev 1 M_Dt_total (65, [some (vO 0), some (vI x1)], [], (sc, ar)) Q :=
  wq_ok 200 _ _ [(1, 2), (36, 2), (41, 2), (48, 2), (49, 2), (56, 2), (57, 2), (64, 2), (65, 2), (69, 2), (70, 2)] _ _ _ _ _ (show (cO 0 = mK M_Dt_sumOfTimes) ∧ (Ev 0 M_Dt_sumOfTimes (0, [some (vO 0), none, none, none, none, none], [], (sc, ar)) (fun r1 h1 => Ev 1 M_Dt_total (69, [some (vO 0), some (vI x1)], mPush r1 [], h1) Q)) from ⟨(by decide), k⟩)
theorem sg_Dt_total_69 {sc : Nat → Int} {ar : Nat → Nat → Int} {x1 s0 : Int} {Q : Option mV → mH → Prop} (k : Q (some (vI s0)) (sc, ar)) :
  Ev 1 M_Dt_total (69, [some (vO 0), some (vI x1)], [vI s0], (sc, ar)) Q :=
  wq_ok 200 _ _ [(1, 2), (36, 2), (41, 2), (48, 2), (49, 2), (56, 2), (57, 2), (64, 2), (65, 2), (69, 2), (70, 2)] _ _ _ _ _ (show Q (some (vI s0)) (sc, ar) from k)
theorem sg_Dt_total_70 {sc : Nat → Int} {ar : Nat → Nat → Int} {x1 : Int} {Q : Option mV → mH → Prop} (k : Q (some (vI (-2))) (sc, ar)) :
  Ev 1 M_Dt_total (70, [some (vO 0), some (vI x1)], [], (sc, ar)) Q :=
  wq_ok 200 _ _ [(1, 2), (36, 2), (41, 2), (48, 2), (49, 2), (56, 2), (57, 2), (64, 2), (65, 2), (69, 2), (70, 2)] _ _ _ _ _ (show Q (some (vI (-2))) (sc, ar) from k)
theorem sg_Dt_isTask_0 {sc : Nat → Int} {ar : Nat → Nat → Int} {x1 : Int} {Q : Option mV → mH → Prop} (k : inR x1 ∧ 
  (x1 < 0 → (Q (some (vI 0)) (sc, ar))) ∧ 
  (¬ (x1 < 0) → (inR x1 ∧ inR (sc 10) ∧ 
    ((sc 10) ≤ x1 → (Q (some (vI 0)) (sc, ar))) ∧ 
    (¬ ((sc 10) ≤ x1) → (inR x1 ∧ 
      (8 ≤ x1 → (Q (some (vI 0)) (sc, ar))) ∧ 
      (¬ (8 ≤ x1) → (Q (some (vI 1)) (sc, ar)))))))) :
  Ev 0 M_Dt_isTask (0, [some (vO 0), some (vI x1)], [], (sc, ar)) Q :=
  wq_ok 200 _ _ [] _ _ _ _ _ (show (inR x1) ∧ (x1 < 0 → (((0 : Int) ≤ 0 ∧ (0 : Int) ≤ 1) ∧ (Q (some (vI 0)) (sc, ar)))) ∧ (¬ (x1 < 0) → ((cO 0 = 8) ∧ ((inR x1 ∧ inR (sc 10)) ∧ ((sc 10) ≤ x1 → (((0 : Int) ≤ 0 ∧ (0 : Int) ≤ 1) ∧ (Q (some (vI 0)) (sc, ar)))) ∧ (¬ ((sc 10) ≤ x1) → ((inR x1 ∧ inR 8) ∧ (8 ≤ x1 → (((0 : Int) ≤ 0 ∧ (0 : Int) ≤ 1) ∧ (Q (some (vI 0)) (sc, ar)))) ∧ (¬ (8 ≤ x1) → (((0 : Int) ≤ 1 ∧ (1 : Int) ≤ 1) ∧ (Q (some (vI 1)) (sc, ar))))))))) from ⟨k.1, fun c1 => ⟨⟨(by decide), (by decide)⟩, (k.2.1 c1)⟩, fun c1 => ⟨(by decide), ⟨⟨(k.2.2 c1).1, (k.2.2 c1).2.1⟩, fun c2 => ⟨⟨(by decide), (by decide)⟩, ((k.2.2 c1).2.2.1 c2)⟩, fun c2 => ⟨⟨((k.2.2 c1).2.2.2 c2).1, (by decide)⟩, fun c3 => ⟨⟨(by decide), (by decide)⟩, (((k.2.2 c1).2.2.2 c2).2.1 c3)⟩, fun c3 => ⟨⟨(by decide), (by decide)⟩, (((k.2.2 c1).2.2.2 c2).2.2 c3)⟩⟩⟩⟩⟩)
theorem sg_Dt_isTime_0 {sc : Nat → Int} {ar : Nat → Nat → Int} {x0 : Int} {Q : Option mV → mH → Prop} (k : inR x0 ∧ 
  (x0 < 1 → (Q (some (vI 0)) (sc, ar))) ∧ 
  (¬ (x0 < 1) → (inR x0 ∧ 
    (20 < x0 → (Q (some (vI 0)) (sc, ar))) ∧ 
    (¬ (20 < x0) → (Q (some (vI 1)) (sc, ar)))))) :
  Ev 0 M_Dt_isTime (0, [some (vI x0)], [], (sc, ar)) Q :=
  wq_ok 200 _ _ [] _ _ _ _ _ (show (inR x0 ∧ inR 1) ∧ (x0 < 1 → (((0 : Int) ≤ 0 ∧ (0 : Int) ≤ 1) ∧ (Q (some (vI 0)) (sc, ar)))) ∧ (¬ (x0 < 1) → ((inR x0 ∧ inR 20) ∧ (20 < x0 → (((0 : Int) ≤ 0 ∧ (0 : Int) ≤ 1) ∧ (Q (some (vI 0)) (sc, ar)))) ∧ (¬ (20 < x0) → (((0 : Int) ≤ 1 ∧ (1 : Int) ≤ 1) ∧ (Q (some (vI 1)) (sc, ar)))))) from ⟨⟨k.1, (by decide)⟩, fun c1 => ⟨⟨(by decide), (by decide)⟩, (k.2.1 c1)⟩, fun c1 => ⟨⟨(k.2.2 c1).1, (by decide)⟩, fun c2 => ⟨⟨(by decide), (by decide)⟩, ((k.2.2 c1).2.1 c2)⟩, fun c2 => ⟨⟨(by decide), (by decide)⟩, ((k.2.2 c1).2.2 c2)⟩⟩⟩)
theorem sg_Dt_isTeamSize_0 {sc : Nat → Int} {ar : Nat → Nat → Int} {x0 : Int} {Q : Option mV → mH → Prop} (k : inR x0 ∧ 
  (x0 < 1 → (Q (some (vI 0)) (sc, ar))) ∧ 
  (¬ (x0 < 1) → (inR x0 ∧ 
    (8 < x0 → (Q (some (vI 0)) (sc, ar))) ∧ 
    (¬ (8 < x0) → (Q (some (vI 1)) (sc, ar)))))) :
  Ev 0 M_Dt_isTeamSize (0, [some (vI x0)], [], (sc, ar)) Q :=
  wq_ok 200 _ _ [] _ _ _ _ _ (show (inR x0 ∧ inR 1) ∧ (x0 < 1 → (((0 : Int) ≤ 0 ∧ (0 : Int) ≤ 1) ∧ (Q (some (vI 0)) (sc, ar)))) ∧ (¬ (x0 < 1) → ((inR x0 ∧ inR 8) ∧ (8 < x0 → (((0 : Int) ≤ 0 ∧ (0 : Int) ≤ 1) ∧ (Q (some (vI 0)) (sc, ar)))) ∧ (¬ (8 < x0) → (((0 : Int) ≤ 1 ∧ (1 : Int) ≤ 1) ∧ (Q (some (vI 1)) (sc, ar)))))) from ⟨⟨k.1, (by decide)⟩, fun c1 => ⟨⟨(by decide), (by decide)⟩, (k.2.1 c1)⟩, fun c1 => ⟨⟨(k.2.2 c1).1, (by decide)⟩, fun c2 => ⟨⟨(by decide), (by decide)⟩, ((k.2.2 c1).2.1 c2)⟩, fun c2 => ⟨⟨(by decide), (by decide)⟩, ((k.2.2 c1).2.2 c2)⟩⟩⟩)
theorem sg_Dt_sumOfTimes_0 {sc : Nat → Int} {ar : Nat → Nat → Int} {Q : Option mV → mH → Prop} (k : Ev 0 M_Dt_sumOfTimes (13, [some (vO 0), some (vI 0), some (vA 0), some (vI 8), some (vI 0), none], [], (sc, ar)) Q) :
  Ev 0 M_Dt_sumOfTimes (0, [some (vO 0), none, none, none, none, none], [], (sc, ar)) Q :=
  wq_ok 200 _ _ [(13, 5)] _ _ _ _ _ (show (cO 0 = 8) ∧ ((aK 0 ≤ 2) ∧ (Ev 0 M_Dt_sumOfTimes (13, [some (vO 0), some (vI 0), some (vA 0), some (vI 8), some (vI 0), none], [], (sc, ar)) Q)) from ⟨(by decide), ⟨(by decide), k⟩⟩)
theorem sg_Dt_sumOfTimes_13 {sc : Nat → Int} {ar : Nat → Nat → Int} {x1 x3 x4 : Int} {Q : Option mV → mH → Prop} (k : inR x4 ∧ inR x3 ∧ 
  (x3 ≤ x4 → (Q (some (vI x1)) (sc, ar))) ∧ 
  (¬ (x3 ≤ x4) → ((0 : Int) ≤ x4 ∧ x4 < (8 : Int) ∧ 
    (Ev 0 M_Dt_sumOfTimes (13, [some (vO 0), some (vI (x1 + (ar 0 x4.toNat))), some (vA 0), some (vI x3), some (vI (x4 + 1)), none], [], (sc, ar)) Q)))) :
  Ev 0 M_Dt_sumOfTimes (13, [some (vO 0), some (vI x1), some (vA 0), some (vI x3), some (vI x4), none], [], (sc, ar)) Q :=
  wq_ok 200 _ _ [(13, 5)] _ _ _ _ _ (show (inR x4 ∧ inR x3) ∧ (x3 ≤ x4 → (Q (some (vI x1)) (sc, ar))) ∧ (¬ (x3 ≤ x4) → ((aK 0 = 0 ∧ (0 : Int) ≤ x4 ∧ x4 < (8 : Int)) ∧ (Ev 0 M_Dt_sumOfTimes (13, [some (vO 0), some (vI (x1 + (ar 0 x4.toNat))), some (vA 0), some (vI x3), some (vI (x4 + 1)), none], [], (sc, ar)) Q))) from ⟨⟨k.1, k.2.1⟩, fun c1 => (k.2.2.1 c1), fun c1 => ⟨⟨(by decide), (k.2.2.2 c1).1, (k.2.2.2 c1).2.1⟩, (k.2.2.2 c1).2.2⟩⟩)
theorem sg_Dt_inLeastTerms_0 {sc : Nat → Int} {ar : Nat → Nat → Int} {x0 x2 x4 : Int} {Q : Option mV → mH → Prop} (k : Ev 0 M_Dt_commonDivisor (0, [some (vL x0), none, some (vL x2), none, none, none, none, none, none, none, none], [], (sc, ar)) (fun r1 h1 => Ev 1 M_Dt_inLeastTerms (5, [some (vL x0), none, some (vL x2), none, some (vI x4), none, none], mPush r1 [], h1) Q)) :
  Ev 1 M_Dt_inLeastTerms (0, [some (vL x0), none, some (vL x2), none, some (vI x4), none, none], [], (sc, ar)) Q :=
  wq_ok 200 _ _ [(5, 5)] _ _ _ _ _ (show Ev 0 M_Dt_commonDivisor (0, [some (vL x0), none, some (vL x2), none, none, none, none, none, none, none, none], [], (sc, ar)) (fun r1 h1 => Ev 1 M_Dt_inLeastTerms (5, [some (vL x0), none, some (vL x2), none, some (vI x4), none, none], mPush r1 [], h1) Q) from k)
theorem sg_Dt_inLeastTerms_5 {sc : Nat → Int} {ar : Nat → Nat → Int} {x0 x2 x4 s0 : Int} {Q : Option mV → mH → Prop} (k : inL s0 ∧ 
  (
  (0 < s0 → (inR x4 ∧ 
    (x4 = 0 → (inL x2 ∧ inL s0 ∧ (0 : Int) < s0 ∧ 
      (Q (some (vL (Int.tdiv x2 s0))) (sc, ar)))) ∧ 
    (¬ (x4 = 0) → (inL x0 ∧ inL s0 ∧ (0 : Int) < s0 ∧ 
      (Q (some (vL (Int.tdiv x0 s0))) (sc, ar)))))) ∧ 
  (¬ (0 < s0) → (Q (some (vL 0)) (sc, ar))))) :
  Ev 1 M_Dt_inLeastTerms (5, [some (vL x0), none, some (vL x2), none, some (vI x4), none, none], [vL s0], (sc, ar)) Q :=
  wq_ok 200 _ _ [(5, 5)] _ _ _ _ _ (show (inL s0 ∧ inL 0) ∧ ((inR (sgn s0 0)) ∧ (0 < (sgn s0 0) → ((inR x4) ∧ (x4 = 0 → ((inL x2 ∧ inL s0 ∧ (0 : Int) < s0) ∧ (Q (some (vL (Int.tdiv x2 s0))) (sc, ar)))) ∧ (¬ (x4 = 0) → ((inL x0 ∧ inL s0 ∧ (0 : Int) < s0) ∧ (Q (some (vL (Int.tdiv x0 s0))) (sc, ar)))))) ∧ (¬ (0 < (sgn s0 0)) → (Q (some (vL 0)) (sc, ar)))) from ⟨⟨k.1, (by decide)⟩, ⟨(sgn_in _ _), fun c1 => ⟨(k.2.1 (sgn_gt.mp c1)).1, fun c2 => ⟨⟨((k.2.1 (sgn_gt.mp c1)).2.1 c2).1, ((k.2.1 (sgn_gt.mp c1)).2.1 c2).2.1, ((k.2.1 (sgn_gt.mp c1)).2.1 c2).2.2.1⟩, ((k.2.1 (sgn_gt.mp c1)).2.1 c2).2.2.2⟩, fun c2 => ⟨⟨((k.2.1 (sgn_gt.mp c1)).2.2 c2).1, ((k.2.1 (sgn_gt.mp c1)).2.2 c2).2.1, ((k.2.1 (sgn_gt.mp c1)).2.2 c2).2.2.1⟩, ((k.2.1 (sgn_gt.mp c1)).2.2 c2).2.2.2⟩⟩, fun c1 => (k.2.2 (fun w => c1 (sgn_gt.mpr w)))⟩⟩)
theorem sg_Dt_commonDivisor_0 {sc : Nat → Int} {ar : Nat → Nat → Int} {x0 x2 : Int} {Q : Option mV → mH → Prop} (k : Ev 0 M_Dt_commonDivisor (9, [some (vL x0), none, some (vL x2), none, some (vL x0), none, some (vL x2), none, some (vI 0), none, none], [], (sc, ar)) Q) :
  Ev 0 M_Dt_commonDivisor (0, [some (vL x0), none, some (vL x2), none, none, none, none, none, none, none, none], [], (sc, ar)) Q :=
  wq_ok 200 _ _ [(9, 9)] _ _ _ _ _ (show Ev 0 M_Dt_commonDivisor (9, [some (vL x0), none, some (vL x2), none, some (vL x0), none, some (vL x2), none, some (vI 0), none, none], [], (sc, ar)) Q from k)
theorem sg_Dt_commonDivisor_9 {sc : Nat → Int} {ar : Nat → Nat → Int} {x0 x2 x4 x6 x8 : Int} {Q : Option mV → mH → Prop} (k : inR x8 ∧ 
  (100 ≤ x8 → (Q (some (vL x4)) (sc, ar))) ∧ 
  (¬ (100 ≤ x8) → (inL x6 ∧ 
    (
    (x6 = 0 → (Q (some (vL x4)) (sc, ar))) ∧ 
    (¬ (x6 = 0) → (inL x4 ∧ inL x6 ∧ (0 : Int) < x6 ∧ 
      (Ev 0 M_Dt_commonDivisor (9, [some (vL x0), none, some (vL x2), none, some (vL x6), none, some (vL (Int.tmod x4 x6)), none, some (vI (x8 + 1)), none, none], [], (sc, ar)) Q))))))) :
  Ev 0 M_Dt_commonDivisor (9, [some (vL x0), none, some (vL x2), none, some (vL x4), none, some (vL x6), none, some (vI x8), none, none], [], (sc, ar)) Q :=
  wq_ok 200 _ _ [(9, 9)] _ _ _ _ _ (show (inR x8 ∧ inR 100) ∧ (100 ≤ x8 → (Q (some (vL x4)) (sc, ar))) ∧ (¬ (100 ≤ x8) → ((inL x6 ∧ inL 0) ∧ ((inR (sgn x6 0)) ∧ ((sgn x6 0) = 0 → (Q (some (vL x4)) (sc, ar))) ∧ (¬ ((sgn x6 0) = 0) → ((inL x4 ∧ inL x6 ∧ (0 : Int) < x6) ∧ (Ev 0 M_Dt_commonDivisor (9, [some (vL x0), none, some (vL x2), none, some (vL x6), none, some (vL (Int.tmod x4 x6)), none, some (vI (x8 + 1)), none, none], [], (sc, ar)) Q)))))) from ⟨⟨k.1, (by decide)⟩, fun c1 => (k.2.1 c1), fun c1 => ⟨⟨(k.2.2 c1).1, (by decide)⟩, ⟨(sgn_in _ _), fun c2 => ((k.2.2 c1).2.1 (sgn_eq.mp c2)), fun c2 => ⟨⟨((k.2.2 c1).2.2 (fun w => c2 (sgn_eq.mpr w))).1, ((k.2.2 c1).2.2 (fun w => c2 (sgn_eq.mpr w))).2.1, ((k.2.2 c1).2.2 (fun w => c2 (sgn_eq.mpr w))).2.2.1⟩, ((k.2.2 c1).2.2 (fun w => c2 (sgn_eq.mpr w))).2.2.2⟩⟩⟩⟩)

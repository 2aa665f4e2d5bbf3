/-! segments of the methods on the road to the recursion of the teams, at any depth; printed by tools/gen_d.py -/
theorem sgd_Team_assign_0 {d : Nat} {sc : Nat → Int} {ar : Nat → Nat → Int} {x2 x3 x4 : Int} {Q : Option mV → mH → Prop} (k : Ev d M_Team_mayBeBetter (0, [some (vO 9), some (vI x3), some (vI x4)], [], (sc, ar)) (fun r1 h1 => Ev (d + 1) M_Team_assign (7, [some (vO 9), some (vO 1), some (vI x2), some (vI x3), some (vI x4), none, none], mPush r1 [], h1) Q)) :
  Ev (d + 1) M_Team_assign (0, [some (vO 9), some (vO 1), some (vI x2), some (vI x3), some (vI x4), none, none], [], (sc, ar)) Q :=
  wq_ok 200 _ _ [(7, 5), (36, 5), (40, 6), (94, 6), (117, 7)] _ _ _ _ _ (show (cO 9 = mK M_Team_mayBeBetter) ∧ (Ev d M_Team_mayBeBetter (0, [some (vO 9), some (vI x3), some (vI x4)], [], (sc, ar)) (fun r1 h1 => Ev (d + 1) M_Team_assign (7, [some (vO 9), some (vO 1), some (vI x2), some (vI x3), some (vI x4), none, none], mPush r1 [], h1) Q)) from ⟨(by decide), k⟩)

theorem sgd_Team_assign_7 {d : Nat} {sc : Nat → Int} {ar : Nat → Nat → Int} {x2 x3 x4 s0 : Int} {Q : Option mV → mH → Prop} (k : inR s0 ∧
  (s0 ≠ 0 → (inR x2 ∧
    (x2 < 0 → (Ev d M_Team_keep (0, [some (vO 9), some (vI x3), some (vI x4)], [], (sc, ar)) (fun r1 h1 => Ev (d + 1) M_Team_assign (36, [some (vO 9), some (vO 1), some (vI x2), some (vI x3), some (vI x4), none, none], mPush r1 [], h1) Q))) ∧
    (¬ (x2 < 0) → (inR x2 ∧ inR (sc 147) ∧
      ((sc 147) ≤ x2 → (Ev d M_Team_keep (0, [some (vO 9), some (vI x3), some (vI x4)], [], (sc, ar)) (fun r1 h1 => Ev (d + 1) M_Team_assign (36, [some (vO 9), some (vO 1), some (vI x2), some (vI x3), some (vI x4), none, none], mPush r1 [], h1) Q))) ∧
      (¬ ((sc 147) ≤ x2) → (inR x2 ∧
        (x2 < 8 → (Ev (d + 1) M_Team_assign (40, [some (vO 9), some (vO 1), some (vI x2), some (vI x3), some (vI x4), some (vI 0), none], [], (sc, ar)) Q)) ∧
        (¬ (x2 < 8) → (Ev d M_Team_keep (0, [some (vO 9), some (vI x3), some (vI x4)], [], (sc, ar)) (fun r1 h1 => Ev (d + 1) M_Team_assign (36, [some (vO 9), some (vO 1), some (vI x2), some (vI x3), some (vI x4), none, none], mPush r1 [], h1) Q))))))))) ∧
  (¬ (s0 ≠ 0) → (Q none (sc, ar)))) :
  Ev (d + 1) M_Team_assign (7, [some (vO 9), some (vO 1), some (vI x2), some (vI x3), some (vI x4), none, none], [vI s0], (sc, ar)) Q :=
  wq_ok 200 _ _ [(7, 5), (36, 5), (40, 6), (94, 6), (117, 7)] _ _ _ _ _ (show (inR s0) ∧ (s0 ≠ 0 → ((inR x2) ∧ (x2 < 0 → ((cO 9 = mK M_Team_keep) ∧ (Ev d M_Team_keep (0, [some (vO 9), some (vI x3), some (vI x4)], [], (sc, ar)) (fun r1 h1 => Ev (d + 1) M_Team_assign (36, [some (vO 9), some (vO 1), some (vI x2), some (vI x3), some (vI x4), none, none], mPush r1 [], h1) Q)))) ∧ (¬ (x2 < 0) → ((cO 9 = 7) ∧ ((inR x2 ∧ inR (sc 147)) ∧ ((sc 147) ≤ x2 → ((cO 9 = mK M_Team_keep) ∧ (Ev d M_Team_keep (0, [some (vO 9), some (vI x3), some (vI x4)], [], (sc, ar)) (fun r1 h1 => Ev (d + 1) M_Team_assign (36, [some (vO 9), some (vO 1), some (vI x2), some (vI x3), some (vI x4), none, none], mPush r1 [], h1) Q)))) ∧ (¬ ((sc 147) ≤ x2) → ((inR x2 ∧ inR 8) ∧ (x2 < 8 → (Ev (d + 1) M_Team_assign (40, [some (vO 9), some (vO 1), some (vI x2), some (vI x3), some (vI x4), some (vI 0), none], [], (sc, ar)) Q)) ∧ (¬ (x2 < 8) → ((cO 9 = mK M_Team_keep) ∧ (Ev d M_Team_keep (0, [some (vO 9), some (vI x3), some (vI x4)], [], (sc, ar)) (fun r1 h1 => Ev (d + 1) M_Team_assign (36, [some (vO 9), some (vO 1), some (vI x2), some (vI x3), some (vI x4), none, none], mPush r1 [], h1) Q))))))))))) ∧ (¬ (s0 ≠ 0) → (Q none (sc, ar))) from ⟨k.1, fun c1 => ⟨(k.2.1 c1).1, fun c2 => ⟨(by decide), ((k.2.1 c1).2.1 c2)⟩, fun c2 => ⟨(by decide), ⟨⟨((k.2.1 c1).2.2 c2).1, ((k.2.1 c1).2.2 c2).2.1⟩, fun c3 => ⟨(by decide), (((k.2.1 c1).2.2 c2).2.2.1 c3)⟩, fun c3 => ⟨⟨(((k.2.1 c1).2.2 c2).2.2.2 c3).1, (by decide)⟩, fun c4 => ((((k.2.1 c1).2.2 c2).2.2.2 c3).2.1 c4), fun c4 => ⟨(by decide), ((((k.2.1 c1).2.2 c2).2.2.2 c3).2.2 c4)⟩⟩⟩⟩⟩, fun c1 => (k.2.2 c1)⟩)

theorem sgd_Team_assign_36 {d : Nat} {sc : Nat → Int} {ar : Nat → Nat → Int} {x2 x3 x4 : Int} {Q : Option mV → mH → Prop} (k : Q none (sc, ar)) :
  Ev (d + 1) M_Team_assign (36, [some (vO 9), some (vO 1), some (vI x2), some (vI x3), some (vI x4), none, none], [], (sc, ar)) Q :=
  wq_ok 200 _ _ [(7, 5), (36, 5), (40, 6), (94, 6), (117, 7)] _ _ _ _ _ (show Q none (sc, ar) from k)

theorem sgd_Team_assign_40 {d : Nat} {sc : Nat → Int} {ar : Nat → Nat → Int} {x2 x3 x4 x5 : Int} {Q : Option mV → mH → Prop} (k : inR x5 ∧ inR x3 ∧
  (x3 < x5 → (Q none (sc, ar))) ∧
  (¬ (x3 < x5) → (inR x5 ∧
    (8 ≤ x5 → (Q none (sc, ar))) ∧
    (¬ (8 ≤ x5) → ((0 : Int) ≤ x5 ∧ x5 < (8 : Int) ∧
      (inR (ar 146 x5.toNat) ∧ inR (sc 148) ∧
      ((sc 148) ≤ (ar 146 x5.toNat) → (Ev (d + 1) M_Team_assign (40, [some (vO 9), some (vO 1), some (vI x2), some (vI x3), some (vI x4), some (vI (x5 + 1)), none], [], (sc, ar)) Q)) ∧
      (¬ ((sc 148) ≤ (ar 146 x5.toNat)) → ((0 : Int) ≤ x2 ∧ x2 < (8 : Int) ∧
        ((0 : Int) ≤ x5 ∧ x5 < (8 : Int) ∧
        ((0 : Int) ≤ x5 ∧ x5 < (8 : Int) ∧
        (Ev d M_Team_cutBefore (0, [some (vO 9), some (vI x2), some (vI x5), some (vO 1), none, none], [], (sc, (up (up ar 144 (up (ar 144) x2.toNat x5)) 146 (up (ar 146) x5.toNat ((ar 146 x5.toNat) + 1))))) (fun r1 h1 => Ev (d + 1) M_Team_assign (94, [some (vO 9), some (vO 1), some (vI x2), some (vI x3), some (vI x4), some (vI x5), none], mPush r1 [], h1) Q)))))))))))) :
  Ev (d + 1) M_Team_assign (40, [some (vO 9), some (vO 1), some (vI x2), some (vI x3), some (vI x4), some (vI x5), none], [], (sc, ar)) Q :=
  wq_ok 200 _ _ [(7, 5), (36, 5), (40, 6), (94, 6), (117, 7)] _ _ _ _ _ (show (inR x5 ∧ inR x3) ∧ (x3 < x5 → (Q none (sc, ar))) ∧ (¬ (x3 < x5) → ((inR x5 ∧ inR 8) ∧ (8 ≤ x5 → (Q none (sc, ar))) ∧ (¬ (8 ≤ x5) → ((cO 9 = 7) ∧ ((aK 146 = 0 ∧ (0 : Int) ≤ x5 ∧ x5 < (8 : Int)) ∧ ((cO 9 = 7) ∧ ((inR (ar 146 x5.toNat) ∧ inR (sc 148)) ∧ ((sc 148) ≤ (ar 146 x5.toNat) → (Ev (d + 1) M_Team_assign (40, [some (vO 9), some (vO 1), some (vI x2), some (vI x3), some (vI x4), some (vI (x5 + 1)), none], [], (sc, ar)) Q)) ∧ (¬ ((sc 148) ≤ (ar 146 x5.toNat)) → ((cO 9 = 7) ∧ ((aK 144 = 0 ∧ 144 ≠ 999 ∧ (0 : Int) ≤ x2 ∧ x2 < (8 : Int)) ∧ ((cO 9 = 7) ∧ ((aK 146 = 0 ∧ (0 : Int) ≤ x5 ∧ x5 < (8 : Int)) ∧ ((aK 146 = 0 ∧ 146 ≠ 999 ∧ (0 : Int) ≤ x5 ∧ x5 < (8 : Int)) ∧ ((cO 9 = mK M_Team_cutBefore) ∧ (Ev d M_Team_cutBefore (0, [some (vO 9), some (vI x2), some (vI x5), some (vO 1), none, none], [], (sc, (up (up ar 144 (up (ar 144) x2.toNat x5)) 146 (up (ar 146) x5.toNat ((ar 146 x5.toNat) + 1))))) (fun r1 h1 => Ev (d + 1) M_Team_assign (94, [some (vO 9), some (vO 1), some (vI x2), some (vI x3), some (vI x4), some (vI x5), none], mPush r1 [], h1) Q)))))))))))))))) from ⟨⟨k.1, k.2.1⟩, fun c1 => (k.2.2.1 c1), fun c1 => ⟨⟨(k.2.2.2 c1).1, (by decide)⟩, fun c2 => ((k.2.2.2 c1).2.1 c2), fun c2 => ⟨(by decide), ⟨⟨(by decide), ((k.2.2.2 c1).2.2 c2).1, ((k.2.2.2 c1).2.2 c2).2.1⟩, ⟨(by decide), ⟨⟨((k.2.2.2 c1).2.2 c2).2.2.1, ((k.2.2.2 c1).2.2 c2).2.2.2.1⟩, fun c3 => (((k.2.2.2 c1).2.2 c2).2.2.2.2.1 c3), fun c3 => ⟨(by decide), ⟨⟨(by decide), (by decide), (((k.2.2.2 c1).2.2 c2).2.2.2.2.2 c3).1, (((k.2.2.2 c1).2.2 c2).2.2.2.2.2 c3).2.1⟩, ⟨(by decide), ⟨⟨(by decide), (((k.2.2.2 c1).2.2 c2).2.2.2.2.2 c3).2.2.1, (((k.2.2.2 c1).2.2 c2).2.2.2.2.2 c3).2.2.2.1⟩, ⟨⟨(by decide), (by decide), (((k.2.2.2 c1).2.2 c2).2.2.2.2.2 c3).2.2.2.2.1, (((k.2.2.2 c1).2.2 c2).2.2.2.2.2 c3).2.2.2.2.2.1⟩, ⟨(by decide), (((k.2.2.2 c1).2.2 c2).2.2.2.2.2 c3).2.2.2.2.2.2⟩⟩⟩⟩⟩⟩⟩⟩⟩⟩⟩⟩)

theorem sgd_Team_assign_94 {d : Nat} {sc : Nat → Int} {ar : Nat → Nat → Int} {x2 x3 x4 x5 s0 : Int} {Q : Option mV → mH → Prop} (k : inR x3 ∧ inR (x5 + 1) ∧
  (Ev d M_Team_assign (0, [some (vO 9), some (vO 1), some (vI (x2 + 1)), some (vI (if x3 < (x5 + 1) then (x5 + 1) else x3)), some (vI (x4 + s0)), none, none], [], (sc, ar)) (fun r1 h1 => Ev (d + 1) M_Team_assign (117, [some (vO 9), some (vO 1), some (vI x2), some (vI x3), some (vI x4), some (vI x5), some (vI s0)], mPush r1 [], h1) Q))) :
  Ev (d + 1) M_Team_assign (94, [some (vO 9), some (vO 1), some (vI x2), some (vI x3), some (vI x4), some (vI x5), none], [vI s0], (sc, ar)) Q :=
  wq_ok 200 _ _ [(7, 5), (36, 5), (40, 6), (94, 6), (117, 7)] _ _ _ _ _ (show (inR x3 ∧ inR (x5 + 1) ∧ mCat [vI (x2 + 1), vO 1, vO 9] ≤ 8) ∧ (Ev d M_Team_assign (0, [some (vO 9), some (vO 1), some (vI (x2 + 1)), some (vI (if x3 < (x5 + 1) then (x5 + 1) else x3)), some (vI (x4 + s0)), none, none], [], (sc, ar)) (fun r1 h1 => Ev (d + 1) M_Team_assign (117, [some (vO 9), some (vO 1), some (vI x2), some (vI x3), some (vI x4), some (vI x5), some (vI s0)], mPush r1 [], h1) Q)) from ⟨⟨k.1, k.2.1, (Nat.le_of_ble_eq_true rfl)⟩, k.2.2⟩)

theorem sgd_Team_assign_117 {d : Nat} {sc : Nat → Int} {ar : Nat → Nat → Int} {x2 x3 x4 x5 x6 : Int} {Q : Option mV → mH → Prop} (k : (0 : Int) ≤ x5 ∧ x5 < (8 : Int) ∧
  ((0 : Int) ≤ x5 ∧ x5 < (8 : Int) ∧
  (Ev (d + 1) M_Team_assign (40, [some (vO 9), some (vO 1), some (vI x2), some (vI x3), some (vI x4), some (vI (x5 + 1)), none], [], (sc, (up ar 146 (up (ar 146) x5.toNat ((ar 146 x5.toNat) - 1))))) Q))) :
  Ev (d + 1) M_Team_assign (117, [some (vO 9), some (vO 1), some (vI x2), some (vI x3), some (vI x4), some (vI x5), some (vI x6)], [], (sc, ar)) Q :=
  wq_ok 200 _ _ [(7, 5), (36, 5), (40, 6), (94, 6), (117, 7)] _ _ _ _ _ (show (cO 9 = 7) ∧ ((aK 146 = 0 ∧ (0 : Int) ≤ x5 ∧ x5 < (8 : Int)) ∧ ((aK 146 = 0 ∧ 146 ≠ 999 ∧ (0 : Int) ≤ x5 ∧ x5 < (8 : Int)) ∧ (Ev (d + 1) M_Team_assign (40, [some (vO 9), some (vO 1), some (vI x2), some (vI x3), some (vI x4), some (vI (x5 + 1)), none], [], (sc, (up ar 146 (up (ar 146) x5.toNat ((ar 146 x5.toNat) - 1))))) Q))) from ⟨(by decide), ⟨⟨(by decide), k.1, k.2.1⟩, ⟨⟨(by decide), (by decide), k.2.2.1, k.2.2.2.1⟩, k.2.2.2.2⟩⟩⟩)
theorem sgd_Team_find_0 {d : Nat} {sc : Nat → Int} {ar : Nat → Nat → Int} {x1 x3 : Int} {Q : Option mV → mH → Prop} (k : Ev d M_Arr_fillI (0, [some (vA 146), some (vI 0), none, none], [], (sc, ar)) (fun r1 h1 => Ev (d + 1) M_Team_find (8, [some (vO 9), some (vI x1), some (vO 1), some (vI x3)], mPush r1 [], h1) Q)) :
  Ev (d + 1) M_Team_find (0, [some (vO 9), some (vI x1), some (vO 1), some (vI x3)], [], (sc, ar)) Q :=
  wq_ok 200 _ _ [(8, 4), (43, 4)] _ _ _ _ _ (show (cO 9 = 7) ∧ (Ev d M_Arr_fillI (0, [some (vA 146), some (vI 0), none, none], [], (sc, ar)) (fun r1 h1 => Ev (d + 1) M_Team_find (8, [some (vO 9), some (vI x1), some (vO 1), some (vI x3)], mPush r1 [], h1) Q)) from ⟨(by decide), k⟩)

theorem sgd_Team_find_8 {d : Nat} {sc : Nat → Int} {ar : Nat → Nat → Int} {x1 x3 : Int} {Q : Option mV → mH → Prop} (k : inR x1 ∧
  (Ev d M_Team_assign (0, [some (vO 9), some (vO 1), some (vI 0), some (vI 0), some (vI 0), none, none], [], ((up (up (up (up sc 147 (if 8 < x1 then 8 else x1)) 148 x3) 149 1000000) 150 1000000), ar)) (fun r1 h1 => Ev (d + 1) M_Team_find (43, [some (vO 9), some (vI x1), some (vO 1), some (vI x3)], mPush r1 [], h1) Q))) :
  Ev (d + 1) M_Team_find (8, [some (vO 9), some (vI x1), some (vO 1), some (vI x3)], [], (sc, ar)) Q :=
  wq_ok 200 _ _ [(8, 4), (43, 4)] _ _ _ _ _ (show (inR x1 ∧ inR 8 ∧ mCat [vO 9] ≤ 8) ∧ ((cO 9 = 7) ∧ ((cO 9 = 7) ∧ ((cO 9 = 7) ∧ ((cO 9 = 7) ∧ (Ev d M_Team_assign (0, [some (vO 9), some (vO 1), some (vI 0), some (vI 0), some (vI 0), none, none], [], ((up (up (up (up sc 147 (if 8 < x1 then 8 else x1)) 148 x3) 149 1000000) 150 1000000), ar)) (fun r1 h1 => Ev (d + 1) M_Team_find (43, [some (vO 9), some (vI x1), some (vO 1), some (vI x3)], mPush r1 [], h1) Q)))))) from ⟨⟨k.1, (by decide), (Nat.le_of_ble_eq_true rfl)⟩, ⟨(by decide), ⟨(by decide), ⟨(by decide), ⟨(by decide), k.2⟩⟩⟩⟩⟩)

theorem sgd_Team_find_43 {d : Nat} {sc : Nat → Int} {ar : Nat → Nat → Int} {x1 x3 : Int} {Q : Option mV → mH → Prop} (k : Q none (sc, ar)) :
  Ev (d + 1) M_Team_find (43, [some (vO 9), some (vI x1), some (vO 1), some (vI x3)], [], (sc, ar)) Q :=
  wq_ok 200 _ _ [(8, 4), (43, 4)] _ _ _ _ _ (show Q none (sc, ar) from k)
theorem sgd_Dt_between_0 {d : Nat} {sc : Nat → Int} {ar : Nat → Nat → Int} {x1 : Int} {Q : Option mV → mH → Prop} (k : Ev d M_Dt_isTeamSize (0, [some (vI x1)], [], (sc, ar)) (fun r1 h1 => Ev (d + 1) M_Dt_between (4, [some (vO 0), some (vI x1)], mPush r1 [], h1) Q)) :
  Ev (d + 1) M_Dt_between (0, [some (vO 0), some (vI x1)], [], (sc, ar)) Q :=
  wq_ok 200 _ _ [(4, 2), (26, 2), (33, 2)] _ _ _ _ _ (show Ev d M_Dt_isTeamSize (0, [some (vI x1)], [], (sc, ar)) (fun r1 h1 => Ev (d + 1) M_Dt_between (4, [some (vO 0), some (vI x1)], mPush r1 [], h1) Q) from k)

theorem sgd_Dt_between_4 {d : Nat} {sc : Nat → Int} {ar : Nat → Nat → Int} {x1 s0 : Int} {Q : Option mV → mH → Prop} (k : inR s0 ∧
  (s0 ≠ 0 → (Ev d M_Team_find (0, [some (vO 9), some (vI (sc 10)), some (vO 1), some (vI x1)], [], (sc, ar)) (fun r1 h1 => Ev (d + 1) M_Dt_between (26, [some (vO 0), some (vI x1)], mPush r1 [], h1) Q))) ∧
  (¬ (s0 ≠ 0) → (Q (some (vI (-2))) (sc, ar)))) :
  Ev (d + 1) M_Dt_between (4, [some (vO 0), some (vI x1)], [vI s0], (sc, ar)) Q :=
  wq_ok 200 _ _ [(4, 2), (26, 2), (33, 2)] _ _ _ _ _ (show (inR s0) ∧ (s0 ≠ 0 → ((cO 0 = 8) ∧ ((cO 0 = 8) ∧ ((cO 0 = 8) ∧ ((cO 9 = mK M_Team_find) ∧ (Ev d M_Team_find (0, [some (vO 9), some (vI (sc 10)), some (vO 1), some (vI x1)], [], (sc, ar)) (fun r1 h1 => Ev (d + 1) M_Dt_between (26, [some (vO 0), some (vI x1)], mPush r1 [], h1) Q))))))) ∧ (¬ (s0 ≠ 0) → (Q (some (vI (-2))) (sc, ar))) from ⟨k.1, fun c1 => ⟨(by decide), ⟨(by decide), ⟨(by decide), ⟨(by decide), (k.2.1 c1)⟩⟩⟩⟩, fun c1 => (k.2.2 c1)⟩)

theorem sgd_Dt_between_26 {d : Nat} {sc : Nat → Int} {ar : Nat → Nat → Int} {x1 : Int} {Q : Option mV → mH → Prop} (k : Ev d M_Team_leastBetween (0, [some (vO 9)], [], (sc, ar)) (fun r1 h1 => Ev (d + 1) M_Dt_between (33, [some (vO 0), some (vI x1)], mPush r1 [], h1) Q)) :
  Ev (d + 1) M_Dt_between (26, [some (vO 0), some (vI x1)], [], (sc, ar)) Q :=
  wq_ok 200 _ _ [(4, 2), (26, 2), (33, 2)] _ _ _ _ _ (show (cO 0 = 8) ∧ ((cO 9 = mK M_Team_leastBetween) ∧ (Ev d M_Team_leastBetween (0, [some (vO 9)], [], (sc, ar)) (fun r1 h1 => Ev (d + 1) M_Dt_between (33, [some (vO 0), some (vI x1)], mPush r1 [], h1) Q))) from ⟨(by decide), ⟨(by decide), k⟩⟩)

theorem sgd_Dt_between_33 {d : Nat} {sc : Nat → Int} {ar : Nat → Nat → Int} {x1 s0 : Int} {Q : Option mV → mH → Prop} (k : Q (some (vI s0)) (sc, ar)) :
  Ev (d + 1) M_Dt_between (33, [some (vO 0), some (vI x1)], [vI s0], (sc, ar)) Q :=
  wq_ok 200 _ _ [(4, 2), (26, 2), (33, 2)] _ _ _ _ _ (show Q (some (vI s0)) (sc, ar) from k)
theorem sgd_Dt_team_0 {d : Nat} {sc : Nat → Int} {ar : Nat → Nat → Int} {x1 x2 : Int} {Q : Option mV → mH → Prop} (k : Ev d M_Dt_isTask (0, [some (vO 0), some (vI x2)], [], (sc, ar)) (fun r1 h1 => Ev (d + 1) M_Dt_team (5, [some (vO 0), some (vI x1), some (vI x2)], mPush r1 [], h1) Q)) :
  Ev (d + 1) M_Dt_team (0, [some (vO 0), some (vI x1), some (vI x2)], [], (sc, ar)) Q :=
  wq_ok 200 _ _ [(5, 3), (14, 3), (36, 3), (44, 3)] _ _ _ _ _ (show (cO 0 = mK M_Dt_isTask) ∧ (Ev d M_Dt_isTask (0, [some (vO 0), some (vI x2)], [], (sc, ar)) (fun r1 h1 => Ev (d + 1) M_Dt_team (5, [some (vO 0), some (vI x1), some (vI x2)], mPush r1 [], h1) Q)) from ⟨(by decide), k⟩)

theorem sgd_Dt_team_5 {d : Nat} {sc : Nat → Int} {ar : Nat → Nat → Int} {x1 x2 s0 : Int} {Q : Option mV → mH → Prop} (k : inR s0 ∧
  (s0 ≠ 0 → (Ev d M_Dt_isTeamSize (0, [some (vI x1)], [], (sc, ar)) (fun r1 h1 => Ev (d + 1) M_Dt_team (14, [some (vO 0), some (vI x1), some (vI x2)], mPush r1 [], h1) Q))) ∧
  (¬ (s0 ≠ 0) → (Q (some (vI (-1))) (sc, ar)))) :
  Ev (d + 1) M_Dt_team (5, [some (vO 0), some (vI x1), some (vI x2)], [vI s0], (sc, ar)) Q :=
  wq_ok 200 _ _ [(5, 3), (14, 3), (36, 3), (44, 3)] _ _ _ _ _ (show (inR s0) ∧ (s0 ≠ 0 → (Ev d M_Dt_isTeamSize (0, [some (vI x1)], [], (sc, ar)) (fun r1 h1 => Ev (d + 1) M_Dt_team (14, [some (vO 0), some (vI x1), some (vI x2)], mPush r1 [], h1) Q))) ∧ (¬ (s0 ≠ 0) → (Q (some (vI (-1))) (sc, ar))) from ⟨k.1, fun c1 => (k.2.1 c1), fun c1 => (k.2.2 c1)⟩)

theorem sgd_Dt_team_14 {d : Nat} {sc : Nat → Int} {ar : Nat → Nat → Int} {x1 x2 s0 : Int} {Q : Option mV → mH → Prop} (k : inR s0 ∧
  (s0 ≠ 0 → (Ev d M_Team_find (0, [some (vO 9), some (vI (sc 10)), some (vO 1), some (vI x1)], [], (sc, ar)) (fun r1 h1 => Ev (d + 1) M_Dt_team (36, [some (vO 0), some (vI x1), some (vI x2)], mPush r1 [], h1) Q))) ∧
  (¬ (s0 ≠ 0) → (Q (some (vI (-2))) (sc, ar)))) :
  Ev (d + 1) M_Dt_team (14, [some (vO 0), some (vI x1), some (vI x2)], [vI s0], (sc, ar)) Q :=
  wq_ok 200 _ _ [(5, 3), (14, 3), (36, 3), (44, 3)] _ _ _ _ _ (show (inR s0) ∧ (s0 ≠ 0 → ((cO 0 = 8) ∧ ((cO 0 = 8) ∧ ((cO 0 = 8) ∧ ((cO 9 = mK M_Team_find) ∧ (Ev d M_Team_find (0, [some (vO 9), some (vI (sc 10)), some (vO 1), some (vI x1)], [], (sc, ar)) (fun r1 h1 => Ev (d + 1) M_Dt_team (36, [some (vO 0), some (vI x1), some (vI x2)], mPush r1 [], h1) Q))))))) ∧ (¬ (s0 ≠ 0) → (Q (some (vI (-2))) (sc, ar))) from ⟨k.1, fun c1 => ⟨(by decide), ⟨(by decide), ⟨(by decide), ⟨(by decide), (k.2.1 c1)⟩⟩⟩⟩, fun c1 => (k.2.2 c1)⟩)

theorem sgd_Dt_team_36 {d : Nat} {sc : Nat → Int} {ar : Nat → Nat → Int} {x1 x2 : Int} {Q : Option mV → mH → Prop} (k : Ev d M_Team_teamOf (0, [some (vO 9), some (vI x2)], [], (sc, ar)) (fun r1 h1 => Ev (d + 1) M_Dt_team (44, [some (vO 0), some (vI x1), some (vI x2)], mPush r1 [], h1) Q)) :
  Ev (d + 1) M_Dt_team (36, [some (vO 0), some (vI x1), some (vI x2)], [], (sc, ar)) Q :=
  wq_ok 200 _ _ [(5, 3), (14, 3), (36, 3), (44, 3)] _ _ _ _ _ (show (cO 0 = 8) ∧ ((cO 9 = mK M_Team_teamOf) ∧ (Ev d M_Team_teamOf (0, [some (vO 9), some (vI x2)], [], (sc, ar)) (fun r1 h1 => Ev (d + 1) M_Dt_team (44, [some (vO 0), some (vI x1), some (vI x2)], mPush r1 [], h1) Q))) from ⟨(by decide), ⟨(by decide), k⟩⟩)

theorem sgd_Dt_team_44 {d : Nat} {sc : Nat → Int} {ar : Nat → Nat → Int} {x1 x2 s0 : Int} {Q : Option mV → mH → Prop} (k : Q (some (vI s0)) (sc, ar)) :
  Ev (d + 1) M_Dt_team (44, [some (vO 0), some (vI x1), some (vI x2)], [vI s0], (sc, ar)) Q :=
  wq_ok 200 _ _ [(5, 3), (14, 3), (36, 3), (44, 3)] _ _ _ _ _ (show Q (some (vI s0)) (sc, ar) from k)

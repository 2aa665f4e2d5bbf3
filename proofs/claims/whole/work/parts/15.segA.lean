/-! segments of the methods, printed by tools/seg.py: what must hold at a place for the walk to the next ones -/
theorem sg_Arr_fillL_0 {x0 : Nat} {sc : Nat → Int} {ar : Nat → Nat → Int} {x1 : Int} {Q : Option mV → mH → Prop} (k : aK x0 ≤ 2 ∧ 
  (Ev 0 M_Arr_fillL (6, [some (vA x0), some (vL x1), none, some (vI 0), some (vI (mLen (sc, ar) x0))], [], (sc, ar)) Q)) :
  Ev 0 M_Arr_fillL (0, [some (vA x0), some (vL x1), none, none, none], [], (sc, ar)) Q :=
  wq_ok 200 _ _ [(6, 5)] _ _ _ _ _ (show (aK x0 ≤ 2) ∧ (Ev 0 M_Arr_fillL (6, [some (vA x0), some (vL x1), none, some (vI 0), some (vI (mLen (sc, ar) x0))], [], (sc, ar)) Q) from ⟨k.1, k.2⟩)
theorem sg_Arr_fillL_6 {x0 : Nat} {sc : Nat → Int} {ar : Nat → Nat → Int} {x1 x3 x4 : Int} {Q : Option mV → mH → Prop} (k : inR x3 ∧ inR x4 ∧ 
  (x4 ≤ x3 → (Q none (sc, ar))) ∧ 
  (¬ (x4 ≤ x3) → (aK x0 = 1 ∧ x0 ≠ 999 ∧ (0 : Int) ≤ x3 ∧ x3 < (mLen (sc, ar) x0 : Int) ∧ 
    (Ev 0 M_Arr_fillL (6, [some (vA x0), some (vL x1), none, some (vI (x3 + 1)), some (vI x4)], [], (sc, (up ar x0 (up (ar x0) x3.toNat x1)))) Q)))) :
  Ev 0 M_Arr_fillL (6, [some (vA x0), some (vL x1), none, some (vI x3), some (vI x4)], [], (sc, ar)) Q :=
  wq_ok 200 _ _ [(6, 5)] _ _ _ _ _ (show (inR x3 ∧ inR x4) ∧ (x4 ≤ x3 → (Q none (sc, ar))) ∧ (¬ (x4 ≤ x3) → ((aK x0 = 1 ∧ x0 ≠ 999 ∧ (0 : Int) ≤ x3 ∧ x3 < (mLen (sc, ar) x0 : Int)) ∧ (Ev 0 M_Arr_fillL (6, [some (vA x0), some (vL x1), none, some (vI (x3 + 1)), some (vI x4)], [], (sc, (up ar x0 (up (ar x0) x3.toNat x1)))) Q))) from ⟨⟨k.1, k.2.1⟩, fun c1 => (k.2.2.1 c1), fun c1 => ⟨⟨(k.2.2.2 c1).1, (k.2.2.2 c1).2.1, (k.2.2.2 c1).2.2.1, (k.2.2.2 c1).2.2.2.1⟩, (k.2.2.2 c1).2.2.2.2⟩⟩)
theorem sg_Arr_fillI_0 {x0 : Nat} {sc : Nat → Int} {ar : Nat → Nat → Int} {x1 : Int} {Q : Option mV → mH → Prop} (k : aK x0 ≤ 2 ∧ 
  (Ev 0 M_Arr_fillI (5, [some (vA x0), some (vI x1), some (vI 0), some (vI (mLen (sc, ar) x0))], [], (sc, ar)) Q)) :
  Ev 0 M_Arr_fillI (0, [some (vA x0), some (vI x1), none, none], [], (sc, ar)) Q :=
  wq_ok 200 _ _ [(5, 4)] _ _ _ _ _ (show (aK x0 ≤ 2) ∧ (Ev 0 M_Arr_fillI (5, [some (vA x0), some (vI x1), some (vI 0), some (vI (mLen (sc, ar) x0))], [], (sc, ar)) Q) from ⟨k.1, k.2⟩)
theorem sg_Arr_fillI_5 {x0 : Nat} {sc : Nat → Int} {ar : Nat → Nat → Int} {x1 x2 x3 : Int} {Q : Option mV → mH → Prop} (k : inR x2 ∧ inR x3 ∧ 
  (x3 ≤ x2 → (Q none (sc, ar))) ∧ 
  (¬ (x3 ≤ x2) → (aK x0 = 0 ∧ x0 ≠ 999 ∧ (0 : Int) ≤ x2 ∧ x2 < (mLen (sc, ar) x0 : Int) ∧ 
    (Ev 0 M_Arr_fillI (5, [some (vA x0), some (vI x1), some (vI (x2 + 1)), some (vI x3)], [], (sc, (up ar x0 (up (ar x0) x2.toNat x1)))) Q)))) :
  Ev 0 M_Arr_fillI (5, [some (vA x0), some (vI x1), some (vI x2), some (vI x3)], [], (sc, ar)) Q :=
  wq_ok 200 _ _ [(5, 4)] _ _ _ _ _ (show (inR x2 ∧ inR x3) ∧ (x3 ≤ x2 → (Q none (sc, ar))) ∧ (¬ (x3 ≤ x2) → ((aK x0 = 0 ∧ x0 ≠ 999 ∧ (0 : Int) ≤ x2 ∧ x2 < (mLen (sc, ar) x0 : Int)) ∧ (Ev 0 M_Arr_fillI (5, [some (vA x0), some (vI x1), some (vI (x2 + 1)), some (vI x3)], [], (sc, (up ar x0 (up (ar x0) x2.toNat x1)))) Q))) from ⟨⟨k.1, k.2.1⟩, fun c1 => (k.2.2.1 c1), fun c1 => ⟨⟨(k.2.2.2 c1).1, (k.2.2.2 c1).2.1, (k.2.2.2 c1).2.2.1, (k.2.2.2 c1).2.2.2.1⟩, (k.2.2.2 c1).2.2.2.2⟩⟩)
theorem sg_Dt_valueOf_0 {x0 : Nat} {sc : Nat → Int} {ar : Nat → Nat → Int} {x1 : Int} {Q : Option mV → mH → Prop} (k : inR x1 ∧ 
  (x1 < 0 → (Q (some (vI 0)) (sc, ar))) ∧ 
  (¬ (x1 < 0) → (aK x0 ≤ 2 ∧ 
    (inR x1 ∧ inR (mLen (sc, ar) x0) ∧ 
    ((mLen (sc, ar) x0) ≤ x1 → (Q (some (vI 0)) (sc, ar))) ∧ 
    (¬ ((mLen (sc, ar) x0) ≤ x1) → (aK x0 = 0 ∧ (0 : Int) ≤ x1 ∧ x1 < (mLen (sc, ar) x0 : Int) ∧ 
      (Q (some (vI ((ar x0) x1.toNat))) (sc, ar)))))))) :
  Ev 0 M_Dt_valueOf (0, [some (vA x0), some (vI x1)], [], (sc, ar)) Q :=
  wq_ok 200 _ _ [] _ _ _ _ _ (show (inR x1) ∧ (x1 < 0 → (Q (some (vI 0)) (sc, ar))) ∧ (¬ (x1 < 0) → ((aK x0 ≤ 2) ∧ ((inR x1 ∧ inR (mLen (sc, ar) x0)) ∧ ((mLen (sc, ar) x0) ≤ x1 → (Q (some (vI 0)) (sc, ar))) ∧ (¬ ((mLen (sc, ar) x0) ≤ x1) → ((aK x0 = 0 ∧ (0 : Int) ≤ x1 ∧ x1 < (mLen (sc, ar) x0 : Int)) ∧ (Q (some (vI ((ar x0) x1.toNat))) (sc, ar))))))) from ⟨k.1, fun c1 => (k.2.1 c1), fun c1 => ⟨(k.2.2 c1).1, ⟨⟨(k.2.2 c1).2.1, (k.2.2 c1).2.2.1⟩, fun c2 => ((k.2.2 c1).2.2.2.1 c2), fun c2 => ⟨⟨((k.2.2 c1).2.2.2.2 c2).1, ((k.2.2 c1).2.2.2.2 c2).2.1, ((k.2.2 c1).2.2.2.2 c2).2.2.1⟩, ((k.2.2 c1).2.2.2.2 c2).2.2.2⟩⟩⟩⟩)
theorem sg_Table_get_0n {sc : Nat → Int} {ar : Nat → Nat → Int} {x1 x2 : Int} {Q : Option mV → mH → Prop} (k : Ev 0 M_Table_holds (0, [some (vI x1), some (vI x2)], [], (sc, ar)) (fun r1 h1 => Ev 1 M_Table_get (5, [some (vO 1), some (vI x1), some (vI x2)], mPush r1 [], h1) Q)) :
  Ev 1 M_Table_get (0, [some (vO 1), some (vI x1), some (vI x2)], [], (sc, ar)) Q :=
  wq_ok 200 _ _ [(5, 3)] _ _ _ _ _ (show Ev 0 M_Table_holds (0, [some (vI x1), some (vI x2)], [], (sc, ar)) (fun r1 h1 => Ev 1 M_Table_get (5, [some (vO 1), some (vI x1), some (vI x2)], mPush r1 [], h1) Q) from k)
theorem sg_Table_get_5n {sc : Nat → Int} {ar : Nat → Nat → Int} {x1 x2 s0 : Int} {Q : Option mV → mH → Prop} (k : inR s0 ∧ 
  (s0 = 0 → (Q (some (vI 0)) (sc, ar))) ∧ 
  (¬ (s0 = 0) → ((0 : Int) ≤ ((x1 * 8) + x2) ∧ ((x1 * 8) + x2) < (64 : Int) ∧ 
    (Q (some (vI (ar 16 ((x1 * 8) + x2).toNat))) (sc, ar))))) :
  Ev 1 M_Table_get (5, [some (vO 1), some (vI x1), some (vI x2)], [vI s0], (sc, ar)) Q :=
  wq_ok 200 _ _ [(5, 3)] _ _ _ _ _ (show (inR s0) ∧ (s0 = 0 → (Q (some (vI 0)) (sc, ar))) ∧ (¬ (s0 = 0) → ((cO 1 = 6) ∧ ((aK 16 = 0 ∧ (0 : Int) ≤ ((x1 * 8) + x2) ∧ ((x1 * 8) + x2) < (64 : Int)) ∧ (Q (some (vI (ar 16 ((x1 * 8) + x2).toNat))) (sc, ar))))) from ⟨k.1, fun c1 => (k.2.1 c1), fun c1 => ⟨(by decide), ⟨⟨(by decide), (k.2.2 c1).1, (k.2.2 c1).2.1⟩, (k.2.2 c1).2.2⟩⟩⟩)
theorem sg_Table_get_0c {sc : Nat → Int} {ar : Nat → Nat → Int} {x1 x2 : Int} {Q : Option mV → mH → Prop} (k : Ev 0 M_Table_holds (0, [some (vI x1), some (vI x2)], [], (sc, ar)) (fun r1 h1 => Ev 1 M_Table_get (5, [some (vO 2), some (vI x1), some (vI x2)], mPush r1 [], h1) Q)) :
  Ev 1 M_Table_get (0, [some (vO 2), some (vI x1), some (vI x2)], [], (sc, ar)) Q :=
  wq_ok 200 _ _ [(5, 3)] _ _ _ _ _ (show Ev 0 M_Table_holds (0, [some (vI x1), some (vI x2)], [], (sc, ar)) (fun r1 h1 => Ev 1 M_Table_get (5, [some (vO 2), some (vI x1), some (vI x2)], mPush r1 [], h1) Q) from k)
theorem sg_Table_get_5c {sc : Nat → Int} {ar : Nat → Nat → Int} {x1 x2 s0 : Int} {Q : Option mV → mH → Prop} (k : inR s0 ∧ 
  (s0 = 0 → (Q (some (vI 0)) (sc, ar))) ∧ 
  (¬ (s0 = 0) → ((0 : Int) ≤ ((x1 * 8) + x2) ∧ ((x1 * 8) + x2) < (64 : Int) ∧ 
    (Q (some (vI (ar 32 ((x1 * 8) + x2).toNat))) (sc, ar))))) :
  Ev 1 M_Table_get (5, [some (vO 2), some (vI x1), some (vI x2)], [vI s0], (sc, ar)) Q :=
  wq_ok 200 _ _ [(5, 3)] _ _ _ _ _ (show (inR s0) ∧ (s0 = 0 → (Q (some (vI 0)) (sc, ar))) ∧ (¬ (s0 = 0) → ((cO 2 = 6) ∧ ((aK 32 = 0 ∧ (0 : Int) ≤ ((x1 * 8) + x2) ∧ ((x1 * 8) + x2) < (64 : Int)) ∧ (Q (some (vI (ar 32 ((x1 * 8) + x2).toNat))) (sc, ar))))) from ⟨k.1, fun c1 => (k.2.1 c1), fun c1 => ⟨(by decide), ⟨⟨(by decide), (k.2.2 c1).1, (k.2.2 c1).2.1⟩, (k.2.2 c1).2.2⟩⟩⟩)
theorem sg_Table_bothWays_0 {sc : Nat → Int} {ar : Nat → Nat → Int} {x1 x2 : Int} {Q : Option mV → mH → Prop} (k : Ev 1 M_Table_get (0, [some (vO 1), some (vI x1), some (vI x2)], [], (sc, ar)) (fun r1 h1 => Ev 2 M_Table_bothWays (6, [some (vO 1), some (vI x1), some (vI x2)], mPush r1 [], h1) Q)) :
  Ev 2 M_Table_bothWays (0, [some (vO 1), some (vI x1), some (vI x2)], [], (sc, ar)) Q :=
  wq_ok 200 _ _ [(6, 3), (12, 3)] _ _ _ _ _ (show (cO 1 = mK M_Table_get) ∧ (Ev 1 M_Table_get (0, [some (vO 1), some (vI x1), some (vI x2)], [], (sc, ar)) (fun r1 h1 => Ev 2 M_Table_bothWays (6, [some (vO 1), some (vI x1), some (vI x2)], mPush r1 [], h1) Q)) from ⟨(by decide), k⟩)
theorem sg_Table_bothWays_6 {sc : Nat → Int} {ar : Nat → Nat → Int} {x1 x2 s0 : Int} {Q : Option mV → mH → Prop} (k : Ev 1 M_Table_get (0, [some (vO 1), some (vI x2), some (vI x1)], [], (sc, ar)) (fun r1 h1 => Ev 2 M_Table_bothWays (12, [some (vO 1), some (vI x1), some (vI x2)], mPush r1 [vI s0], h1) Q)) :
  Ev 2 M_Table_bothWays (6, [some (vO 1), some (vI x1), some (vI x2)], [vI s0], (sc, ar)) Q :=
  wq_ok 200 _ _ [(6, 3), (12, 3)] _ _ _ _ _ (show (cO 1 = mK M_Table_get) ∧ (Ev 1 M_Table_get (0, [some (vO 1), some (vI x2), some (vI x1)], [], (sc, ar)) (fun r1 h1 => Ev 2 M_Table_bothWays (12, [some (vO 1), some (vI x1), some (vI x2)], mPush r1 [vI s0], h1) Q)) from ⟨(by decide), k⟩)
theorem sg_Table_bothWays_12 {sc : Nat → Int} {ar : Nat → Nat → Int} {x1 x2 s0 s1 : Int} {Q : Option mV → mH → Prop} (k : Q (some (vI (s1 + s0))) (sc, ar)) :
  Ev 2 M_Table_bothWays (12, [some (vO 1), some (vI x1), some (vI x2)], [vI s0, vI s1], (sc, ar)) Q :=
  wq_ok 200 _ _ [(6, 3), (12, 3)] _ _ _ _ _ (show Q (some (vI (s1 + s0))) (sc, ar) from k)
theorem sg_Table_put_0n {sc : Nat → Int} {ar : Nat → Nat → Int} {x1 x2 x3 : Int} {Q : Option mV → mH → Prop} (k : Ev 0 M_Table_holds (0, [some (vI x1), some (vI x2)], [], (sc, ar)) (fun r1 h1 => Ev 1 M_Table_put (5, [some (vO 1), some (vI x1), some (vI x2), some (vI x3), none, none], mPush r1 [], h1) Q)) :
  Ev 1 M_Table_put (0, [some (vO 1), some (vI x1), some (vI x2), some (vI x3), none, none], [], (sc, ar)) Q :=
  wq_ok 200 _ _ [(5, 4)] _ _ _ _ _ (show Ev 0 M_Table_holds (0, [some (vI x1), some (vI x2)], [], (sc, ar)) (fun r1 h1 => Ev 1 M_Table_put (5, [some (vO 1), some (vI x1), some (vI x2), some (vI x3), none, none], mPush r1 [], h1) Q) from k)
theorem sg_Table_put_5n {sc : Nat → Int} {ar : Nat → Nat → Int} {x1 x2 x3 s0 : Int} {Q : Option mV → mH → Prop} (k : inR s0 ∧ 
  (s0 ≠ 0 → ((0 : Int) ≤ ((x1 * 8) + x2) ∧ ((x1 * 8) + x2) < (64 : Int) ∧ 
    ((0 : Int) ≤ ((x1 * 8) + x2) ∧ ((x1 * 8) + x2) < (64 : Int) ∧ 
    (Q (some (vI (ar 16 ((x1 * 8) + x2).toNat))) (sc, (up ar 16 (up (ar 16) ((x1 * 8) + x2).toNat x3))))))) ∧ 
  (¬ (s0 ≠ 0) → (Q (some (vI 0)) (sc, ar)))) :
  Ev 1 M_Table_put (5, [some (vO 1), some (vI x1), some (vI x2), some (vI x3), none, none], [vI s0], (sc, ar)) Q :=
  wq_ok 200 _ _ [(5, 4)] _ _ _ _ _ (show (inR s0) ∧ (s0 ≠ 0 → ((cO 1 = 6) ∧ ((aK 16 = 0 ∧ (0 : Int) ≤ ((x1 * 8) + x2) ∧ ((x1 * 8) + x2) < (64 : Int)) ∧ ((cO 1 = 6) ∧ ((aK 16 = 0 ∧ 16 ≠ 999 ∧ (0 : Int) ≤ ((x1 * 8) + x2) ∧ ((x1 * 8) + x2) < (64 : Int)) ∧ (Q (some (vI (ar 16 ((x1 * 8) + x2).toNat))) (sc, (up ar 16 (up (ar 16) ((x1 * 8) + x2).toNat x3))))))))) ∧ (¬ (s0 ≠ 0) → (Q (some (vI 0)) (sc, ar))) from ⟨k.1, fun c1 => ⟨(by decide), ⟨⟨(by decide), (k.2.1 c1).1, (k.2.1 c1).2.1⟩, ⟨(by decide), ⟨⟨(by decide), (by decide), (k.2.1 c1).2.2.1, (k.2.1 c1).2.2.2.1⟩, (k.2.1 c1).2.2.2.2⟩⟩⟩⟩, fun c1 => (k.2.2 c1)⟩)
theorem sg_Table_put_0c {sc : Nat → Int} {ar : Nat → Nat → Int} {x1 x2 x3 : Int} {Q : Option mV → mH → Prop} (k : Ev 0 M_Table_holds (0, [some (vI x1), some (vI x2)], [], (sc, ar)) (fun r1 h1 => Ev 1 M_Table_put (5, [some (vO 2), some (vI x1), some (vI x2), some (vI x3), none, none], mPush r1 [], h1) Q)) :
  Ev 1 M_Table_put (0, [some (vO 2), some (vI x1), some (vI x2), some (vI x3), none, none], [], (sc, ar)) Q :=
  wq_ok 200 _ _ [(5, 4)] _ _ _ _ _ (show Ev 0 M_Table_holds (0, [some (vI x1), some (vI x2)], [], (sc, ar)) (fun r1 h1 => Ev 1 M_Table_put (5, [some (vO 2), some (vI x1), some (vI x2), some (vI x3), none, none], mPush r1 [], h1) Q) from k)
theorem sg_Table_put_5c {sc : Nat → Int} {ar : Nat → Nat → Int} {x1 x2 x3 s0 : Int} {Q : Option mV → mH → Prop} (k : inR s0 ∧ 
  (s0 ≠ 0 → ((0 : Int) ≤ ((x1 * 8) + x2) ∧ ((x1 * 8) + x2) < (64 : Int) ∧ 
    ((0 : Int) ≤ ((x1 * 8) + x2) ∧ ((x1 * 8) + x2) < (64 : Int) ∧ 
    (Q (some (vI (ar 32 ((x1 * 8) + x2).toNat))) (sc, (up ar 32 (up (ar 32) ((x1 * 8) + x2).toNat x3))))))) ∧ 
  (¬ (s0 ≠ 0) → (Q (some (vI 0)) (sc, ar)))) :
  Ev 1 M_Table_put (5, [some (vO 2), some (vI x1), some (vI x2), some (vI x3), none, none], [vI s0], (sc, ar)) Q :=
  wq_ok 200 _ _ [(5, 4)] _ _ _ _ _ (show (inR s0) ∧ (s0 ≠ 0 → ((cO 2 = 6) ∧ ((aK 32 = 0 ∧ (0 : Int) ≤ ((x1 * 8) + x2) ∧ ((x1 * 8) + x2) < (64 : Int)) ∧ ((cO 2 = 6) ∧ ((aK 32 = 0 ∧ 32 ≠ 999 ∧ (0 : Int) ≤ ((x1 * 8) + x2) ∧ ((x1 * 8) + x2) < (64 : Int)) ∧ (Q (some (vI (ar 32 ((x1 * 8) + x2).toNat))) (sc, (up ar 32 (up (ar 32) ((x1 * 8) + x2).toNat x3))))))))) ∧ (¬ (s0 ≠ 0) → (Q (some (vI 0)) (sc, ar))) from ⟨k.1, fun c1 => ⟨(by decide), ⟨⟨(by decide), (k.2.1 c1).1, (k.2.1 c1).2.1⟩, ⟨(by decide), ⟨⟨(by decide), (by decide), (k.2.1 c1).2.2.1, (k.2.1 c1).2.2.2.1⟩, (k.2.1 c1).2.2.2.2⟩⟩⟩⟩, fun c1 => (k.2.2 c1)⟩)
theorem sg_Table_sumOfRow_0 {sc : Nat → Int} {ar : Nat → Nat → Int} {x1 : Int} {Q : Option mV → mH → Prop} (k : Ev 2 M_Table_sumOfRow (4, [some (vO 2), some (vI x1), some (vI 0), some (vI 0)], [], (sc, ar)) Q) :
  Ev 2 M_Table_sumOfRow (0, [some (vO 2), some (vI x1), none, none], [], (sc, ar)) Q :=
  wq_ok 200 _ _ [(4, 4), (17, 4)] _ _ _ _ _ (show Ev 2 M_Table_sumOfRow (4, [some (vO 2), some (vI x1), some (vI 0), some (vI 0)], [], (sc, ar)) Q from k)
theorem sg_Table_sumOfRow_4 {sc : Nat → Int} {ar : Nat → Nat → Int} {x1 x2 x3 : Int} {Q : Option mV → mH → Prop} (k : inR x3 ∧ 
  (8 ≤ x3 → (Q (some (vI x2)) (sc, ar))) ∧ 
  (¬ (8 ≤ x3) → (Ev 1 M_Table_get (0, [some (vO 2), some (vI x1), some (vI x3)], [], (sc, ar)) (fun r1 h1 => Ev 2 M_Table_sumOfRow (17, [some (vO 2), some (vI x1), some (vI x2), some (vI x3)], mPush r1 [vI x2], h1) Q)))) :
  Ev 2 M_Table_sumOfRow (4, [some (vO 2), some (vI x1), some (vI x2), some (vI x3)], [], (sc, ar)) Q :=
  wq_ok 200 _ _ [(4, 4), (17, 4)] _ _ _ _ _ (show (inR x3 ∧ inR 8) ∧ (8 ≤ x3 → (Q (some (vI x2)) (sc, ar))) ∧ (¬ (8 ≤ x3) → ((cO 2 = mK M_Table_get) ∧ (Ev 1 M_Table_get (0, [some (vO 2), some (vI x1), some (vI x3)], [], (sc, ar)) (fun r1 h1 => Ev 2 M_Table_sumOfRow (17, [some (vO 2), some (vI x1), some (vI x2), some (vI x3)], mPush r1 [vI x2], h1) Q)))) from ⟨⟨k.1, (by decide)⟩, fun c1 => (k.2.1 c1), fun c1 => ⟨(by decide), (k.2.2 c1)⟩⟩)
theorem sg_Table_sumOfRow_17 {sc : Nat → Int} {ar : Nat → Nat → Int} {x1 x2 x3 s0 s1 : Int} {Q : Option mV → mH → Prop} (k : Ev 2 M_Table_sumOfRow (4, [some (vO 2), some (vI x1), some (vI (s1 + s0)), some (vI (x3 + 1))], [], (sc, ar)) Q) :
  Ev 2 M_Table_sumOfRow (17, [some (vO 2), some (vI x1), some (vI x2), some (vI x3)], [vI s0, vI s1], (sc, ar)) Q :=
  wq_ok 200 _ _ [(4, 4), (17, 4)] _ _ _ _ _ (show Ev 2 M_Table_sumOfRow (4, [some (vO 2), some (vI x1), some (vI (s1 + s0)), some (vI (x3 + 1))], [], (sc, ar)) Q from k)
theorem sg_Table_sum_0 {sc : Nat → Int} {ar : Nat → Nat → Int} {Q : Option mV → mH → Prop} (k : Ev 0 M_Table_sum (13, [some (vO 1), some (vI 0), some (vA 16), some (vI 64), some (vI 0), none], [], (sc, ar)) Q) :
  Ev 0 M_Table_sum (0, [some (vO 1), none, none, none, none, none], [], (sc, ar)) Q :=
  wq_ok 200 _ _ [(13, 5)] _ _ _ _ _ (show (cO 1 = 6) ∧ ((aK 16 ≤ 2) ∧ (Ev 0 M_Table_sum (13, [some (vO 1), some (vI 0), some (vA 16), some (vI 64), some (vI 0), none], [], (sc, ar)) Q)) from ⟨(by decide), ⟨(by decide), k⟩⟩)
theorem sg_Table_sum_13 {sc : Nat → Int} {ar : Nat → Nat → Int} {x1 x3 x4 : Int} {Q : Option mV → mH → Prop} (k : inR x4 ∧ inR x3 ∧ 
  (x3 ≤ x4 → (Q (some (vI x1)) (sc, ar))) ∧ 
  (¬ (x3 ≤ x4) → ((0 : Int) ≤ x4 ∧ x4 < (64 : Int) ∧ 
    (Ev 0 M_Table_sum (13, [some (vO 1), some (vI (x1 + (ar 16 x4.toNat))), some (vA 16), some (vI x3), some (vI (x4 + 1)), none], [], (sc, ar)) Q)))) :
  Ev 0 M_Table_sum (13, [some (vO 1), some (vI x1), some (vA 16), some (vI x3), some (vI x4), none], [], (sc, ar)) Q :=
  wq_ok 200 _ _ [(13, 5)] _ _ _ _ _ (show (inR x4 ∧ inR x3) ∧ (x3 ≤ x4 → (Q (some (vI x1)) (sc, ar))) ∧ (¬ (x3 ≤ x4) → ((aK 16 = 0 ∧ (0 : Int) ≤ x4 ∧ x4 < (64 : Int)) ∧ (Ev 0 M_Table_sum (13, [some (vO 1), some (vI (x1 + (ar 16 x4.toNat))), some (vA 16), some (vI x3), some (vI (x4 + 1)), none], [], (sc, ar)) Q))) from ⟨⟨k.1, k.2.1⟩, fun c1 => (k.2.2.1 c1), fun c1 => ⟨⟨(by decide), (k.2.2.2 c1).1, (k.2.2.2 c1).2.1⟩, (k.2.2.2 c1).2.2⟩⟩)
theorem sg_Table_howMany_0n {sc : Nat → Int} {ar : Nat → Nat → Int} {Q : Option mV → mH → Prop} (k : Ev 0 M_Table_howMany (13, [some (vO 1), some (vI 0), some (vA 16), some (vI 64), some (vI 0), none], [], (sc, ar)) Q) :
  Ev 0 M_Table_howMany (0, [some (vO 1), none, none, none, none, none], [], (sc, ar)) Q :=
  wq_ok 200 _ _ [(13, 5)] _ _ _ _ _ (show (cO 1 = 6) ∧ ((aK 16 ≤ 2) ∧ (Ev 0 M_Table_howMany (13, [some (vO 1), some (vI 0), some (vA 16), some (vI 64), some (vI 0), none], [], (sc, ar)) Q)) from ⟨(by decide), ⟨(by decide), k⟩⟩)
theorem sg_Table_howMany_13n {sc : Nat → Int} {ar : Nat → Nat → Int} {x1 x3 x4 : Int} {Q : Option mV → mH → Prop} (k : inR x4 ∧ inR x3 ∧ 
  (x3 ≤ x4 → (Q (some (vI x1)) (sc, ar))) ∧ 
  (¬ (x3 ≤ x4) → ((0 : Int) ≤ x4 ∧ x4 < (64 : Int) ∧ 
    (inR (ar 16 x4.toNat) ∧ 
    ((ar 16 x4.toNat) = 0 → (Ev 0 M_Table_howMany (13, [some (vO 1), some (vI (x1 + 0)), some (vA 16), some (vI x3), some (vI (x4 + 1)), none], [], (sc, ar)) Q)) ∧ 
    (¬ ((ar 16 x4.toNat) = 0) → (Ev 0 M_Table_howMany (13, [some (vO 1), some (vI (x1 + 1)), some (vA 16), some (vI x3), some (vI (x4 + 1)), none], [], (sc, ar)) Q)))))) :
  Ev 0 M_Table_howMany (13, [some (vO 1), some (vI x1), some (vA 16), some (vI x3), some (vI x4), none], [], (sc, ar)) Q :=
  wq_ok 200 _ _ [(13, 5)] _ _ _ _ _ (show (inR x4 ∧ inR x3) ∧ (x3 ≤ x4 → (Q (some (vI x1)) (sc, ar))) ∧ (¬ (x3 ≤ x4) → ((aK 16 = 0 ∧ (0 : Int) ≤ x4 ∧ x4 < (64 : Int)) ∧ ((inR (ar 16 x4.toNat)) ∧ ((ar 16 x4.toNat) = 0 → (Ev 0 M_Table_howMany (13, [some (vO 1), some (vI (x1 + 0)), some (vA 16), some (vI x3), some (vI (x4 + 1)), none], [], (sc, ar)) Q)) ∧ (¬ ((ar 16 x4.toNat) = 0) → (Ev 0 M_Table_howMany (13, [some (vO 1), some (vI (x1 + 1)), some (vA 16), some (vI x3), some (vI (x4 + 1)), none], [], (sc, ar)) Q))))) from ⟨⟨k.1, k.2.1⟩, fun c1 => (k.2.2.1 c1), fun c1 => ⟨⟨(by decide), (k.2.2.2 c1).1, (k.2.2.2 c1).2.1⟩, ⟨(k.2.2.2 c1).2.2.1, fun c2 => ((k.2.2.2 c1).2.2.2.1 c2), fun c2 => ((k.2.2.2 c1).2.2.2.2 c2)⟩⟩⟩)
theorem sg_Table_howMany_0c {sc : Nat → Int} {ar : Nat → Nat → Int} {Q : Option mV → mH → Prop} (k : Ev 0 M_Table_howMany (13, [some (vO 2), some (vI 0), some (vA 32), some (vI 64), some (vI 0), none], [], (sc, ar)) Q) :
  Ev 0 M_Table_howMany (0, [some (vO 2), none, none, none, none, none], [], (sc, ar)) Q :=
  wq_ok 200 _ _ [(13, 5)] _ _ _ _ _ (show (cO 2 = 6) ∧ ((aK 32 ≤ 2) ∧ (Ev 0 M_Table_howMany (13, [some (vO 2), some (vI 0), some (vA 32), some (vI 64), some (vI 0), none], [], (sc, ar)) Q)) from ⟨(by decide), ⟨(by decide), k⟩⟩)
theorem sg_Table_howMany_13c {sc : Nat → Int} {ar : Nat → Nat → Int} {x1 x3 x4 : Int} {Q : Option mV → mH → Prop} (k : inR x4 ∧ inR x3 ∧ 
  (x3 ≤ x4 → (Q (some (vI x1)) (sc, ar))) ∧ 
  (¬ (x3 ≤ x4) → ((0 : Int) ≤ x4 ∧ x4 < (64 : Int) ∧ 
    (inR (ar 32 x4.toNat) ∧ 
    ((ar 32 x4.toNat) = 0 → (Ev 0 M_Table_howMany (13, [some (vO 2), some (vI (x1 + 0)), some (vA 32), some (vI x3), some (vI (x4 + 1)), none], [], (sc, ar)) Q)) ∧ 
    (¬ ((ar 32 x4.toNat) = 0) → (Ev 0 M_Table_howMany (13, [some (vO 2), some (vI (x1 + 1)), some (vA 32), some (vI x3), some (vI (x4 + 1)), none], [], (sc, ar)) Q)))))) :
  Ev 0 M_Table_howMany (13, [some (vO 2), some (vI x1), some (vA 32), some (vI x3), some (vI x4), none], [], (sc, ar)) Q :=
  wq_ok 200 _ _ [(13, 5)] _ _ _ _ _ (show (inR x4 ∧ inR x3) ∧ (x3 ≤ x4 → (Q (some (vI x1)) (sc, ar))) ∧ (¬ (x3 ≤ x4) → ((aK 32 = 0 ∧ (0 : Int) ≤ x4 ∧ x4 < (64 : Int)) ∧ ((inR (ar 32 x4.toNat)) ∧ ((ar 32 x4.toNat) = 0 → (Ev 0 M_Table_howMany (13, [some (vO 2), some (vI (x1 + 0)), some (vA 32), some (vI x3), some (vI (x4 + 1)), none], [], (sc, ar)) Q)) ∧ (¬ ((ar 32 x4.toNat) = 0) → (Ev 0 M_Table_howMany (13, [some (vO 2), some (vI (x1 + 1)), some (vA 32), some (vI x3), some (vI (x4 + 1)), none], [], (sc, ar)) Q))))) from ⟨⟨k.1, k.2.1⟩, fun c1 => (k.2.2.1 c1), fun c1 => ⟨⟨(by decide), (k.2.2.2 c1).1, (k.2.2.2 c1).2.1⟩, ⟨(k.2.2.2 c1).2.2.1, fun c2 => ((k.2.2.2 c1).2.2.2.1 c2), fun c2 => ((k.2.2.2 c1).2.2.2.2 c2)⟩⟩⟩)
theorem sg_Table_holds_0 {sc : Nat → Int} {ar : Nat → Nat → Int} {x0 x1 : Int} {Q : Option mV → mH → Prop} (k : inR x0 ∧ 
  (x0 < 0 → (Q (some (vI 0)) (sc, ar))) ∧ 
  (¬ (x0 < 0) → (inR x0 ∧ 
    (8 ≤ x0 → (Q (some (vI 0)) (sc, ar))) ∧ 
    (¬ (8 ≤ x0) → (inR x1 ∧ 
      (x1 < 0 → (Q (some (vI 0)) (sc, ar))) ∧ 
      (¬ (x1 < 0) → (inR x1 ∧ 
        (8 ≤ x1 → (Q (some (vI 0)) (sc, ar))) ∧ 
        (¬ (8 ≤ x1) → (Q (some (vI 1)) (sc, ar)))))))))) :
  Ev 0 M_Table_holds (0, [some (vI x0), some (vI x1)], [], (sc, ar)) Q :=
  wq_ok 200 _ _ [] _ _ _ _ _ (show (inR x0) ∧ (x0 < 0 → (((0 : Int) ≤ 0 ∧ (0 : Int) ≤ 1) ∧ (Q (some (vI 0)) (sc, ar)))) ∧ (¬ (x0 < 0) → ((inR x0 ∧ inR 8) ∧ (8 ≤ x0 → (((0 : Int) ≤ 0 ∧ (0 : Int) ≤ 1) ∧ (Q (some (vI 0)) (sc, ar)))) ∧ (¬ (8 ≤ x0) → ((inR x1) ∧ (x1 < 0 → (((0 : Int) ≤ 0 ∧ (0 : Int) ≤ 1) ∧ (Q (some (vI 0)) (sc, ar)))) ∧ (¬ (x1 < 0) → ((inR x1 ∧ inR 8) ∧ (8 ≤ x1 → (((0 : Int) ≤ 0 ∧ (0 : Int) ≤ 1) ∧ (Q (some (vI 0)) (sc, ar)))) ∧ (¬ (8 ≤ x1) → (((0 : Int) ≤ 1 ∧ (1 : Int) ≤ 1) ∧ (Q (some (vI 1)) (sc, ar)))))))))) from ⟨k.1, fun c1 => ⟨⟨(by decide), (by decide)⟩, (k.2.1 c1)⟩, fun c1 => ⟨⟨(k.2.2 c1).1, (by decide)⟩, fun c2 => ⟨⟨(by decide), (by decide)⟩, ((k.2.2 c1).2.1 c2)⟩, fun c2 => ⟨((k.2.2 c1).2.2 c2).1, fun c3 => ⟨⟨(by decide), (by decide)⟩, (((k.2.2 c1).2.2 c2).2.1 c3)⟩, fun c3 => ⟨⟨(((k.2.2 c1).2.2 c2).2.2 c3).1, (by decide)⟩, fun c4 => ⟨⟨(by decide), (by decide)⟩, ((((k.2.2 c1).2.2 c2).2.2 c3).2.1 c4)⟩, fun c4 => ⟨⟨(by decide), (by decide)⟩, ((((k.2.2 c1).2.2 c2).2.2 c3).2.2 c4)⟩⟩⟩⟩⟩)
theorem sg_Order_hasPlace_0t {sc : Nat → Int} {ar : Nat → Nat → Int} {x1 : Int} {Q : Option mV → mH → Prop} (k : inR x1 ∧ 
  (x1 < 0 → (Q (some (vI 0)) (sc, ar))) ∧ 
  (¬ (x1 < 0) → (inR x1 ∧ inR (sc 49) ∧ 
    ((sc 49) ≤ x1 → (Q (some (vI 0)) (sc, ar))) ∧ 
    (¬ ((sc 49) ≤ x1) → (inR x1 ∧ 
      (8 ≤ x1 → (Q (some (vI 0)) (sc, ar))) ∧ 
      (¬ (8 ≤ x1) → (Q (some (vI 1)) (sc, ar)))))))) :
  Ev 0 M_Order_hasPlace (0, [some (vO 3), some (vI x1)], [], (sc, ar)) Q :=
  wq_ok 200 _ _ [] _ _ _ _ _ (show (inR x1) ∧ (x1 < 0 → (((0 : Int) ≤ 0 ∧ (0 : Int) ≤ 1) ∧ (Q (some (vI 0)) (sc, ar)))) ∧ (¬ (x1 < 0) → ((cO 3 = 2) ∧ ((inR x1 ∧ inR (sc 49)) ∧ ((sc 49) ≤ x1 → (((0 : Int) ≤ 0 ∧ (0 : Int) ≤ 1) ∧ (Q (some (vI 0)) (sc, ar)))) ∧ (¬ ((sc 49) ≤ x1) → ((inR x1 ∧ inR 8) ∧ (8 ≤ x1 → (((0 : Int) ≤ 0 ∧ (0 : Int) ≤ 1) ∧ (Q (some (vI 0)) (sc, ar)))) ∧ (¬ (8 ≤ x1) → (((0 : Int) ≤ 1 ∧ (1 : Int) ≤ 1) ∧ (Q (some (vI 1)) (sc, ar))))))))) from ⟨k.1, fun c1 => ⟨⟨(by decide), (by decide)⟩, (k.2.1 c1)⟩, fun c1 => ⟨(by decide), ⟨⟨(k.2.2 c1).1, (k.2.2 c1).2.1⟩, fun c2 => ⟨⟨(by decide), (by decide)⟩, ((k.2.2 c1).2.2.1 c2)⟩, fun c2 => ⟨⟨((k.2.2 c1).2.2.2 c2).1, (by decide)⟩, fun c3 => ⟨⟨(by decide), (by decide)⟩, (((k.2.2 c1).2.2.2 c2).2.1 c3)⟩, fun c3 => ⟨⟨(by decide), (by decide)⟩, (((k.2.2 c1).2.2.2 c2).2.2 c3)⟩⟩⟩⟩⟩)
theorem sg_Order_hasPlace_0l {sc : Nat → Int} {ar : Nat → Nat → Int} {x1 : Int} {Q : Option mV → mH → Prop} (k : inR x1 ∧ 
  (x1 < 0 → (Q (some (vI 0)) (sc, ar))) ∧ 
  (¬ (x1 < 0) → (inR x1 ∧ inR (sc 97) ∧ 
    ((sc 97) ≤ x1 → (Q (some (vI 0)) (sc, ar))) ∧ 
    (¬ ((sc 97) ≤ x1) → (inR x1 ∧ 
      (8 ≤ x1 → (Q (some (vI 0)) (sc, ar))) ∧ 
      (¬ (8 ≤ x1) → (Q (some (vI 1)) (sc, ar)))))))) :
  Ev 0 M_Order_hasPlace (0, [some (vO 6), some (vI x1)], [], (sc, ar)) Q :=
  wq_ok 200 _ _ [] _ _ _ _ _ (show (inR x1) ∧ (x1 < 0 → (((0 : Int) ≤ 0 ∧ (0 : Int) ≤ 1) ∧ (Q (some (vI 0)) (sc, ar)))) ∧ (¬ (x1 < 0) → ((cO 6 = 2) ∧ ((inR x1 ∧ inR (sc 97)) ∧ ((sc 97) ≤ x1 → (((0 : Int) ≤ 0 ∧ (0 : Int) ≤ 1) ∧ (Q (some (vI 0)) (sc, ar)))) ∧ (¬ ((sc 97) ≤ x1) → ((inR x1 ∧ inR 8) ∧ (8 ≤ x1 → (((0 : Int) ≤ 0 ∧ (0 : Int) ≤ 1) ∧ (Q (some (vI 0)) (sc, ar)))) ∧ (¬ (8 ≤ x1) → (((0 : Int) ≤ 1 ∧ (1 : Int) ≤ 1) ∧ (Q (some (vI 1)) (sc, ar))))))))) from ⟨k.1, fun c1 => ⟨⟨(by decide), (by decide)⟩, (k.2.1 c1)⟩, fun c1 => ⟨(by decide), ⟨⟨(k.2.2 c1).1, (k.2.2 c1).2.1⟩, fun c2 => ⟨⟨(by decide), (by decide)⟩, ((k.2.2 c1).2.2.1 c2)⟩, fun c2 => ⟨⟨((k.2.2 c1).2.2.2 c2).1, (by decide)⟩, fun c3 => ⟨⟨(by decide), (by decide)⟩, (((k.2.2 c1).2.2.2 c2).2.1 c3)⟩, fun c3 => ⟨⟨(by decide), (by decide)⟩, (((k.2.2 c1).2.2.2 c2).2.2 c3)⟩⟩⟩⟩⟩)
theorem sg_Order_length_0t {sc : Nat → Int} {ar : Nat → Nat → Int} {Q : Option mV → mH → Prop} (k : Q (some (vI (sc 49))) (sc, ar)) :
  Ev 0 M_Order_length (0, [some (vO 3)], [], (sc, ar)) Q :=
  wq_ok 200 _ _ [] _ _ _ _ _ (show (cO 3 = 2) ∧ (Q (some (vI (sc 49))) (sc, ar)) from ⟨(by decide), k⟩)
theorem sg_Order_length_0l {sc : Nat → Int} {ar : Nat → Nat → Int} {Q : Option mV → mH → Prop} (k : Q (some (vI (sc 97))) (sc, ar)) :
  Ev 0 M_Order_length (0, [some (vO 6)], [], (sc, ar)) Q :=
  wq_ok 200 _ _ [] _ _ _ _ _ (show (cO 6 = 2) ∧ (Q (some (vI (sc 97))) (sc, ar)) from ⟨(by decide), k⟩)
theorem sg_Order_taskAt_0t {sc : Nat → Int} {ar : Nat → Nat → Int} {x1 : Int} {Q : Option mV → mH → Prop} (k : Ev 0 M_Order_hasPlace (0, [some (vO 3), some (vI x1)], [], (sc, ar)) (fun r1 h1 => Ev 1 M_Order_taskAt (5, [some (vO 3), some (vI x1)], mPush r1 [], h1) Q)) :
  Ev 1 M_Order_taskAt (0, [some (vO 3), some (vI x1)], [], (sc, ar)) Q :=
  wq_ok 200 _ _ [(5, 2)] _ _ _ _ _ (show (cO 3 = mK M_Order_hasPlace) ∧ (Ev 0 M_Order_hasPlace (0, [some (vO 3), some (vI x1)], [], (sc, ar)) (fun r1 h1 => Ev 1 M_Order_taskAt (5, [some (vO 3), some (vI x1)], mPush r1 [], h1) Q)) from ⟨(by decide), k⟩)
theorem sg_Order_taskAt_5t {sc : Nat → Int} {ar : Nat → Nat → Int} {x1 s0 : Int} {Q : Option mV → mH → Prop} (k : inR s0 ∧ 
  (s0 = 0 → (Q (some (vI (-9))) (sc, ar))) ∧ 
  (¬ (s0 = 0) → ((0 : Int) ≤ x1 ∧ x1 < (8 : Int) ∧ 
    (Q (some (vI (ar 48 x1.toNat))) (sc, ar))))) :
  Ev 1 M_Order_taskAt (5, [some (vO 3), some (vI x1)], [vI s0], (sc, ar)) Q :=
  wq_ok 200 _ _ [(5, 2)] _ _ _ _ _ (show (inR s0) ∧ (s0 = 0 → (Q (some (vI (-9))) (sc, ar))) ∧ (¬ (s0 = 0) → ((cO 3 = 2) ∧ ((aK 48 = 0 ∧ (0 : Int) ≤ x1 ∧ x1 < (8 : Int)) ∧ (Q (some (vI (ar 48 x1.toNat))) (sc, ar))))) from ⟨k.1, fun c1 => (k.2.1 c1), fun c1 => ⟨(by decide), ⟨⟨(by decide), (k.2.2 c1).1, (k.2.2 c1).2.1⟩, (k.2.2 c1).2.2⟩⟩⟩)
theorem sg_Order_taskAt_0l {sc : Nat → Int} {ar : Nat → Nat → Int} {x1 : Int} {Q : Option mV → mH → Prop} (k : Ev 0 M_Order_hasPlace (0, [some (vO 6), some (vI x1)], [], (sc, ar)) (fun r1 h1 => Ev 1 M_Order_taskAt (5, [some (vO 6), some (vI x1)], mPush r1 [], h1) Q)) :
  Ev 1 M_Order_taskAt (0, [some (vO 6), some (vI x1)], [], (sc, ar)) Q :=
  wq_ok 200 _ _ [(5, 2)] _ _ _ _ _ (show (cO 6 = mK M_Order_hasPlace) ∧ (Ev 0 M_Order_hasPlace (0, [some (vO 6), some (vI x1)], [], (sc, ar)) (fun r1 h1 => Ev 1 M_Order_taskAt (5, [some (vO 6), some (vI x1)], mPush r1 [], h1) Q)) from ⟨(by decide), k⟩)
theorem sg_Order_taskAt_5l {sc : Nat → Int} {ar : Nat → Nat → Int} {x1 s0 : Int} {Q : Option mV → mH → Prop} (k : inR s0 ∧ 
  (s0 = 0 → (Q (some (vI (-9))) (sc, ar))) ∧ 
  (¬ (s0 = 0) → ((0 : Int) ≤ x1 ∧ x1 < (8 : Int) ∧ 
    (Q (some (vI (ar 96 x1.toNat))) (sc, ar))))) :
  Ev 1 M_Order_taskAt (5, [some (vO 6), some (vI x1)], [vI s0], (sc, ar)) Q :=
  wq_ok 200 _ _ [(5, 2)] _ _ _ _ _ (show (inR s0) ∧ (s0 = 0 → (Q (some (vI (-9))) (sc, ar))) ∧ (¬ (s0 = 0) → ((cO 6 = 2) ∧ ((aK 96 = 0 ∧ (0 : Int) ≤ x1 ∧ x1 < (8 : Int)) ∧ (Q (some (vI (ar 96 x1.toNat))) (sc, ar))))) from ⟨k.1, fun c1 => (k.2.1 c1), fun c1 => ⟨(by decide), ⟨⟨(by decide), (k.2.2 c1).1, (k.2.2 c1).2.1⟩, (k.2.2 c1).2.2⟩⟩⟩)
theorem sg_Order_placeOf_0 {sc : Nat → Int} {ar : Nat → Nat → Int} {x1 : Int} {Q : Option mV → mH → Prop} (k : Ev 0 M_Order_placeOf (2, [some (vO 3), some (vI x1), some (vI 0)], [], (sc, ar)) Q) :
  Ev 0 M_Order_placeOf (0, [some (vO 3), some (vI x1), none], [], (sc, ar)) Q :=
  wq_ok 200 _ _ [(2, 3)] _ _ _ _ _ (show Ev 0 M_Order_placeOf (2, [some (vO 3), some (vI x1), some (vI 0)], [], (sc, ar)) Q from k)
theorem sg_Order_placeOf_2 {sc : Nat → Int} {ar : Nat → Nat → Int} {x1 x2 : Int} {Q : Option mV → mH → Prop} (k : inR x2 ∧ inR (sc 49) ∧ 
  ((sc 49) ≤ x2 → (Q (some (vI (-9))) (sc, ar))) ∧ 
  (¬ ((sc 49) ≤ x2) → (inR x2 ∧ 
    (8 ≤ x2 → (Q (some (vI (-9))) (sc, ar))) ∧ 
    (¬ (8 ≤ x2) → ((0 : Int) ≤ x2 ∧ x2 < (8 : Int) ∧ 
      (inR (ar 48 x2.toNat) ∧ inR x1 ∧ 
      ((ar 48 x2.toNat) ≠ x1 → (Ev 0 M_Order_placeOf (2, [some (vO 3), some (vI x1), some (vI (x2 + 1))], [], (sc, ar)) Q)) ∧ 
      (¬ ((ar 48 x2.toNat) ≠ x1) → (Q (some (vI x2)) (sc, ar))))))))) :
  Ev 0 M_Order_placeOf (2, [some (vO 3), some (vI x1), some (vI x2)], [], (sc, ar)) Q :=
  wq_ok 200 _ _ [(2, 3)] _ _ _ _ _ (show (cO 3 = 2) ∧ ((inR x2 ∧ inR (sc 49)) ∧ ((sc 49) ≤ x2 → (Q (some (vI (-9))) (sc, ar))) ∧ (¬ ((sc 49) ≤ x2) → ((inR x2 ∧ inR 8) ∧ (8 ≤ x2 → (Q (some (vI (-9))) (sc, ar))) ∧ (¬ (8 ≤ x2) → ((cO 3 = 2) ∧ ((aK 48 = 0 ∧ (0 : Int) ≤ x2 ∧ x2 < (8 : Int)) ∧ ((inR (ar 48 x2.toNat) ∧ inR x1) ∧ ((ar 48 x2.toNat) ≠ x1 → (Ev 0 M_Order_placeOf (2, [some (vO 3), some (vI x1), some (vI (x2 + 1))], [], (sc, ar)) Q)) ∧ (¬ ((ar 48 x2.toNat) ≠ x1) → (Q (some (vI x2)) (sc, ar)))))))))) from ⟨(by decide), ⟨⟨k.1, k.2.1⟩, fun c1 => (k.2.2.1 c1), fun c1 => ⟨⟨(k.2.2.2 c1).1, (by decide)⟩, fun c2 => ((k.2.2.2 c1).2.1 c2), fun c2 => ⟨(by decide), ⟨⟨(by decide), ((k.2.2.2 c1).2.2 c2).1, ((k.2.2.2 c1).2.2 c2).2.1⟩, ⟨⟨((k.2.2.2 c1).2.2 c2).2.2.1, ((k.2.2.2 c1).2.2 c2).2.2.2.1⟩, fun c3 => (((k.2.2.2 c1).2.2 c2).2.2.2.2.1 c3), fun c3 => (((k.2.2.2 c1).2.2 c2).2.2.2.2.2 c3)⟩⟩⟩⟩⟩⟩)
theorem sg_Order_clear_0t {sc : Nat → Int} {ar : Nat → Nat → Int} {Q : Option mV → mH → Prop} (k : Q none ((up sc 49 0), ar)) :
  Ev 0 M_Order_clear (0, [some (vO 3)], [], (sc, ar)) Q :=
  wq_ok 200 _ _ [] _ _ _ _ _ (show (cO 3 = 2) ∧ (Q none ((up sc 49 0), ar)) from ⟨(by decide), k⟩)
theorem sg_Order_clear_0l {sc : Nat → Int} {ar : Nat → Nat → Int} {Q : Option mV → mH → Prop} (k : Q none ((up sc 97 0), ar)) :
  Ev 0 M_Order_clear (0, [some (vO 6)], [], (sc, ar)) Q :=
  wq_ok 200 _ _ [] _ _ _ _ _ (show (cO 6 = 2) ∧ (Q none ((up sc 97 0), ar)) from ⟨(by decide), k⟩)
theorem sg_Order_add_0t {sc : Nat → Int} {ar : Nat → Nat → Int} {x1 : Int} {Q : Option mV → mH → Prop} (k : inR (sc 49) ∧ 
  ((sc 49) < 0 → (Q none (sc, ar))) ∧ 
  (¬ ((sc 49) < 0) → (inR (sc 49) ∧ 
    (8 ≤ (sc 49) → (Q none (sc, ar))) ∧ 
    (¬ (8 ≤ (sc 49)) → ((0 : Int) ≤ (sc 49) ∧ (sc 49) < (8 : Int) ∧ 
      (Q none ((up sc 49 ((sc 49) + 1)), (up ar 48 (up (ar 48) (sc 49).toNat x1))))))))) :
  Ev 0 M_Order_add (0, [some (vO 3), some (vI x1)], [], (sc, ar)) Q :=
  wq_ok 200 _ _ [] _ _ _ _ _ (show (cO 3 = 2) ∧ ((inR (sc 49)) ∧ ((sc 49) < 0 → (Q none (sc, ar))) ∧ (¬ ((sc 49) < 0) → ((cO 3 = 2) ∧ ((inR (sc 49) ∧ inR 8) ∧ (8 ≤ (sc 49) → (Q none (sc, ar))) ∧ (¬ (8 ≤ (sc 49)) → ((cO 3 = 2) ∧ ((cO 3 = 2) ∧ ((aK 48 = 0 ∧ 48 ≠ 999 ∧ (0 : Int) ≤ (sc 49) ∧ (sc 49) < (8 : Int)) ∧ ((cO 3 = 2) ∧ ((cO 3 = 2) ∧ (Q none ((up sc 49 ((sc 49) + 1)), (up ar 48 (up (ar 48) (sc 49).toNat x1)))))))))))))) from ⟨(by decide), ⟨k.1, fun c1 => (k.2.1 c1), fun c1 => ⟨(by decide), ⟨⟨(k.2.2 c1).1, (by decide)⟩, fun c2 => ((k.2.2 c1).2.1 c2), fun c2 => ⟨(by decide), ⟨(by decide), ⟨⟨(by decide), (by decide), ((k.2.2 c1).2.2 c2).1, ((k.2.2 c1).2.2 c2).2.1⟩, ⟨(by decide), ⟨(by decide), ((k.2.2 c1).2.2 c2).2.2⟩⟩⟩⟩⟩⟩⟩⟩⟩)
theorem sg_Order_add_0l {sc : Nat → Int} {ar : Nat → Nat → Int} {x1 : Int} {Q : Option mV → mH → Prop} (k : inR (sc 97) ∧ 
  ((sc 97) < 0 → (Q none (sc, ar))) ∧ 
  (¬ ((sc 97) < 0) → (inR (sc 97) ∧ 
    (8 ≤ (sc 97) → (Q none (sc, ar))) ∧ 
    (¬ (8 ≤ (sc 97)) → ((0 : Int) ≤ (sc 97) ∧ (sc 97) < (8 : Int) ∧ 
      (Q none ((up sc 97 ((sc 97) + 1)), (up ar 96 (up (ar 96) (sc 97).toNat x1))))))))) :
  Ev 0 M_Order_add (0, [some (vO 6), some (vI x1)], [], (sc, ar)) Q :=
  wq_ok 200 _ _ [] _ _ _ _ _ (show (cO 6 = 2) ∧ ((inR (sc 97)) ∧ ((sc 97) < 0 → (Q none (sc, ar))) ∧ (¬ ((sc 97) < 0) → ((cO 6 = 2) ∧ ((inR (sc 97) ∧ inR 8) ∧ (8 ≤ (sc 97) → (Q none (sc, ar))) ∧ (¬ (8 ≤ (sc 97)) → ((cO 6 = 2) ∧ ((cO 6 = 2) ∧ ((aK 96 = 0 ∧ 96 ≠ 999 ∧ (0 : Int) ≤ (sc 97) ∧ (sc 97) < (8 : Int)) ∧ ((cO 6 = 2) ∧ ((cO 6 = 2) ∧ (Q none ((up sc 97 ((sc 97) + 1)), (up ar 96 (up (ar 96) (sc 97).toNat x1)))))))))))))) from ⟨(by decide), ⟨k.1, fun c1 => (k.2.1 c1), fun c1 => ⟨(by decide), ⟨⟨(k.2.2 c1).1, (by decide)⟩, fun c2 => ((k.2.2 c1).2.1 c2), fun c2 => ⟨(by decide), ⟨(by decide), ⟨⟨(by decide), (by decide), ((k.2.2 c1).2.2 c2).1, ((k.2.2 c1).2.2 c2).2.1⟩, ⟨(by decide), ⟨(by decide), ((k.2.2 c1).2.2 c2).2.2⟩⟩⟩⟩⟩⟩⟩⟩⟩)
theorem sg_Order_restart_0 {sc : Nat → Int} {ar : Nat → Nat → Int} {x1 : Int} {Q : Option mV → mH → Prop} (k : Ev 0 M_Order_clear (0, [some (vO 3)], [], (sc, ar)) (fun r1 h1 => Ev 1 M_Order_restart (4, [some (vO 3), some (vI x1), none], mPush r1 [], h1) Q)) :
  Ev 1 M_Order_restart (0, [some (vO 3), some (vI x1), none], [], (sc, ar)) Q :=
  wq_ok 200 _ _ [(4, 2), (6, 3), (16, 3)] _ _ _ _ _ (show (cO 3 = mK M_Order_clear) ∧ (Ev 0 M_Order_clear (0, [some (vO 3)], [], (sc, ar)) (fun r1 h1 => Ev 1 M_Order_restart (4, [some (vO 3), some (vI x1), none], mPush r1 [], h1) Q)) from ⟨(by decide), k⟩)
theorem sg_Order_restart_4 {sc : Nat → Int} {ar : Nat → Nat → Int} {x1 : Int} {Q : Option mV → mH → Prop} (k : Ev 1 M_Order_restart (6, [some (vO 3), some (vI x1), some (vI 0)], [], (sc, ar)) Q) :
  Ev 1 M_Order_restart (4, [some (vO 3), some (vI x1), none], [], (sc, ar)) Q :=
  wq_ok 200 _ _ [(4, 2), (6, 3), (16, 3)] _ _ _ _ _ (show Ev 1 M_Order_restart (6, [some (vO 3), some (vI x1), some (vI 0)], [], (sc, ar)) Q from k)
theorem sg_Order_restart_6 {sc : Nat → Int} {ar : Nat → Nat → Int} {x1 x2 : Int} {Q : Option mV → mH → Prop} (k : inR x2 ∧ inR x1 ∧ 
  (x1 ≤ x2 → (Q none (sc, ar))) ∧ 
  (¬ (x1 ≤ x2) → (Ev 0 M_Order_add (0, [some (vO 3), some (vI x2)], [], (sc, ar)) (fun r1 h1 => Ev 1 M_Order_restart (16, [some (vO 3), some (vI x1), some (vI x2)], mPush r1 [], h1) Q)))) :
  Ev 1 M_Order_restart (6, [some (vO 3), some (vI x1), some (vI x2)], [], (sc, ar)) Q :=
  wq_ok 200 _ _ [(4, 2), (6, 3), (16, 3)] _ _ _ _ _ (show (inR x2 ∧ inR x1) ∧ (x1 ≤ x2 → (Q none (sc, ar))) ∧ (¬ (x1 ≤ x2) → ((cO 3 = mK M_Order_add) ∧ (Ev 0 M_Order_add (0, [some (vO 3), some (vI x2)], [], (sc, ar)) (fun r1 h1 => Ev 1 M_Order_restart (16, [some (vO 3), some (vI x1), some (vI x2)], mPush r1 [], h1) Q)))) from ⟨⟨k.1, k.2.1⟩, fun c1 => (k.2.2.1 c1), fun c1 => ⟨(by decide), (k.2.2.2 c1)⟩⟩)
theorem sg_Order_restart_16 {sc : Nat → Int} {ar : Nat → Nat → Int} {x1 x2 : Int} {Q : Option mV → mH → Prop} (k : Ev 1 M_Order_restart (6, [some (vO 3), some (vI x1), some (vI (x2 + 1))], [], (sc, ar)) Q) :
  Ev 1 M_Order_restart (16, [some (vO 3), some (vI x1), some (vI x2)], [], (sc, ar)) Q :=
  wq_ok 200 _ _ [(4, 2), (6, 3), (16, 3)] _ _ _ _ _ (show Ev 1 M_Order_restart (6, [some (vO 3), some (vI x1), some (vI (x2 + 1))], [], (sc, ar)) Q from k)
theorem sg_Order_become_0 {sc : Nat → Int} {ar : Nat → Nat → Int} {Q : Option mV → mH → Prop} (k : Ev 1 M_Order_clear (0, [some (vO 3)], [], (sc, ar)) (fun r1 h1 => Ev 2 M_Order_become (4, [some (vO 3), some (vO 6), none], mPush r1 [], h1) Q)) :
  Ev 2 M_Order_become (0, [some (vO 3), some (vO 6), none], [], (sc, ar)) Q :=
  wq_ok 200 _ _ [(4, 2), (6, 3), (11, 3), (20, 3), (23, 3)] _ _ _ _ _ (show (cO 3 = mK M_Order_clear) ∧ (Ev 1 M_Order_clear (0, [some (vO 3)], [], (sc, ar)) (fun r1 h1 => Ev 2 M_Order_become (4, [some (vO 3), some (vO 6), none], mPush r1 [], h1) Q)) from ⟨(by decide), k⟩)
theorem sg_Order_become_4 {sc : Nat → Int} {ar : Nat → Nat → Int} {Q : Option mV → mH → Prop} (k : Ev 2 M_Order_become (6, [some (vO 3), some (vO 6), some (vI 0)], [], (sc, ar)) Q) :
  Ev 2 M_Order_become (4, [some (vO 3), some (vO 6), none], [], (sc, ar)) Q :=
  wq_ok 200 _ _ [(4, 2), (6, 3), (11, 3), (20, 3), (23, 3)] _ _ _ _ _ (show Ev 2 M_Order_become (6, [some (vO 3), some (vO 6), some (vI 0)], [], (sc, ar)) Q from k)
theorem sg_Order_become_6 {sc : Nat → Int} {ar : Nat → Nat → Int} {x2 : Int} {Q : Option mV → mH → Prop} (k : Ev 1 M_Order_length (0, [some (vO 6)], [], (sc, ar)) (fun r1 h1 => Ev 2 M_Order_become (11, [some (vO 3), some (vO 6), some (vI x2)], mPush r1 [vI x2], h1) Q)) :
  Ev 2 M_Order_become (6, [some (vO 3), some (vO 6), some (vI x2)], [], (sc, ar)) Q :=
  wq_ok 200 _ _ [(4, 2), (6, 3), (11, 3), (20, 3), (23, 3)] _ _ _ _ _ (show (cO 6 = mK M_Order_length) ∧ (Ev 1 M_Order_length (0, [some (vO 6)], [], (sc, ar)) (fun r1 h1 => Ev 2 M_Order_become (11, [some (vO 3), some (vO 6), some (vI x2)], mPush r1 [vI x2], h1) Q)) from ⟨(by decide), k⟩)
theorem sg_Order_become_11 {sc : Nat → Int} {ar : Nat → Nat → Int} {x2 s0 s1 : Int} {Q : Option mV → mH → Prop} (k : inR s1 ∧ inR s0 ∧ 
  (s0 ≤ s1 → (Q none (sc, ar))) ∧ 
  (¬ (s0 ≤ s1) → (Ev 1 M_Order_taskAt (0, [some (vO 6), some (vI x2)], [], (sc, ar)) (fun r1 h1 => Ev 2 M_Order_become (20, [some (vO 3), some (vO 6), some (vI x2)], mPush r1 [vO 3], h1) Q)))) :
  Ev 2 M_Order_become (11, [some (vO 3), some (vO 6), some (vI x2)], [vI s0, vI s1], (sc, ar)) Q :=
  wq_ok 200 _ _ [(4, 2), (6, 3), (11, 3), (20, 3), (23, 3)] _ _ _ _ _ (show (inR s1 ∧ inR s0) ∧ (s0 ≤ s1 → (Q none (sc, ar))) ∧ (¬ (s0 ≤ s1) → ((cO 6 = mK M_Order_taskAt) ∧ (Ev 1 M_Order_taskAt (0, [some (vO 6), some (vI x2)], [], (sc, ar)) (fun r1 h1 => Ev 2 M_Order_become (20, [some (vO 3), some (vO 6), some (vI x2)], mPush r1 [vO 3], h1) Q)))) from ⟨⟨k.1, k.2.1⟩, fun c1 => (k.2.2.1 c1), fun c1 => ⟨(by decide), (k.2.2.2 c1)⟩⟩)
theorem sg_Order_become_20 {sc : Nat → Int} {ar : Nat → Nat → Int} {x2 s0 : Int} {Q : Option mV → mH → Prop} (k : Ev 1 M_Order_add (0, [some (vO 3), some (vI s0)], [], (sc, ar)) (fun r1 h1 => Ev 2 M_Order_become (23, [some (vO 3), some (vO 6), some (vI x2)], mPush r1 [], h1) Q)) :
  Ev 2 M_Order_become (20, [some (vO 3), some (vO 6), some (vI x2)], [vI s0, vO 3], (sc, ar)) Q :=
  wq_ok 200 _ _ [(4, 2), (6, 3), (11, 3), (20, 3), (23, 3)] _ _ _ _ _ (show (cO 3 = mK M_Order_add) ∧ (Ev 1 M_Order_add (0, [some (vO 3), some (vI s0)], [], (sc, ar)) (fun r1 h1 => Ev 2 M_Order_become (23, [some (vO 3), some (vO 6), some (vI x2)], mPush r1 [], h1) Q)) from ⟨(by decide), k⟩)
theorem sg_Order_become_23 {sc : Nat → Int} {ar : Nat → Nat → Int} {x2 : Int} {Q : Option mV → mH → Prop} (k : Ev 2 M_Order_become (6, [some (vO 3), some (vO 6), some (vI (x2 + 1))], [], (sc, ar)) Q) :
  Ev 2 M_Order_become (23, [some (vO 3), some (vO 6), some (vI x2)], [], (sc, ar)) Q :=
  wq_ok 200 _ _ [(4, 2), (6, 3), (11, 3), (20, 3), (23, 3)] _ _ _ _ _ (show Ev 2 M_Order_become (6, [some (vO 3), some (vO 6), some (vI (x2 + 1))], [], (sc, ar)) Q from k)
theorem sg_Order_exchange_0 {sc : Nat → Int} {ar : Nat → Nat → Int} {x1 x2 : Int} {Q : Option mV → mH → Prop} (k : Ev 0 M_Order_hasPlace (0, [some (vO 3), some (vI x1)], [], (sc, ar)) (fun r1 h1 => Ev 1 M_Order_exchange (5, [some (vO 3), some (vI x1), some (vI x2), none], mPush r1 [], h1) Q)) :
  Ev 1 M_Order_exchange (0, [some (vO 3), some (vI x1), some (vI x2), none], [], (sc, ar)) Q :=
  wq_ok 200 _ _ [(5, 3), (13, 3)] _ _ _ _ _ (show (cO 3 = mK M_Order_hasPlace) ∧ (Ev 0 M_Order_hasPlace (0, [some (vO 3), some (vI x1)], [], (sc, ar)) (fun r1 h1 => Ev 1 M_Order_exchange (5, [some (vO 3), some (vI x1), some (vI x2), none], mPush r1 [], h1) Q)) from ⟨(by decide), k⟩)
theorem sg_Order_exchange_5 {sc : Nat → Int} {ar : Nat → Nat → Int} {x1 x2 s0 : Int} {Q : Option mV → mH → Prop} (k : inR s0 ∧ 
  (s0 = 0 → (Q none (sc, ar))) ∧ 
  (¬ (s0 = 0) → (Ev 0 M_Order_hasPlace (0, [some (vO 3), some (vI x2)], [], (sc, ar)) (fun r1 h1 => Ev 1 M_Order_exchange (13, [some (vO 3), some (vI x1), some (vI x2), none], mPush r1 [], h1) Q)))) :
  Ev 1 M_Order_exchange (5, [some (vO 3), some (vI x1), some (vI x2), none], [vI s0], (sc, ar)) Q :=
  wq_ok 200 _ _ [(5, 3), (13, 3)] _ _ _ _ _ (show (inR s0) ∧ (s0 = 0 → (Q none (sc, ar))) ∧ (¬ (s0 = 0) → ((cO 3 = mK M_Order_hasPlace) ∧ (Ev 0 M_Order_hasPlace (0, [some (vO 3), some (vI x2)], [], (sc, ar)) (fun r1 h1 => Ev 1 M_Order_exchange (13, [some (vO 3), some (vI x1), some (vI x2), none], mPush r1 [], h1) Q)))) from ⟨k.1, fun c1 => (k.2.1 c1), fun c1 => ⟨(by decide), (k.2.2 c1)⟩⟩)
theorem sg_Order_exchange_13 {sc : Nat → Int} {ar : Nat → Nat → Int} {x1 x2 s0 : Int} {Q : Option mV → mH → Prop} (k : inR s0 ∧ 
  (s0 = 0 → (Q none (sc, ar))) ∧ 
  (¬ (s0 = 0) → ((0 : Int) ≤ x1 ∧ x1 < (8 : Int) ∧ 
    ((0 : Int) ≤ x2 ∧ x2 < (8 : Int) ∧ 
    ((0 : Int) ≤ x1 ∧ x1 < (8 : Int) ∧ 
    ((0 : Int) ≤ x2 ∧ x2 < (8 : Int) ∧ 
    (Q none (sc, (up (up ar 48 (up (ar 48) x1.toNat (ar 48 x2.toNat))) 48 (up (up (ar 48) x1.toNat (ar 48 x2.toNat)) x2.toNat (ar 48 x1.toNat))))))))))) :
  Ev 1 M_Order_exchange (13, [some (vO 3), some (vI x1), some (vI x2), none], [vI s0], (sc, ar)) Q :=
  wq_ok 200 _ _ [(5, 3), (13, 3)] _ _ _ _ _ (show (inR s0) ∧ (s0 = 0 → (Q none (sc, ar))) ∧ (¬ (s0 = 0) → ((cO 3 = 2) ∧ ((aK 48 = 0 ∧ (0 : Int) ≤ x1 ∧ x1 < (8 : Int)) ∧ ((cO 3 = 2) ∧ ((cO 3 = 2) ∧ ((aK 48 = 0 ∧ (0 : Int) ≤ x2 ∧ x2 < (8 : Int)) ∧ ((aK 48 = 0 ∧ 48 ≠ 999 ∧ (0 : Int) ≤ x1 ∧ x1 < (8 : Int)) ∧ ((cO 3 = 2) ∧ ((aK 48 = 0 ∧ 48 ≠ 999 ∧ (0 : Int) ≤ x2 ∧ x2 < (8 : Int)) ∧ (Q none (sc, (up (up ar 48 (up (ar 48) x1.toNat (ar 48 x2.toNat))) 48 (up (up (ar 48) x1.toNat (ar 48 x2.toNat)) x2.toNat (ar 48 x1.toNat)))))))))))))) from ⟨k.1, fun c1 => (k.2.1 c1), fun c1 => ⟨(by decide), ⟨⟨(by decide), (k.2.2 c1).1, (k.2.2 c1).2.1⟩, ⟨(by decide), ⟨(by decide), ⟨⟨(by decide), (k.2.2 c1).2.2.1, (k.2.2 c1).2.2.2.1⟩, ⟨⟨(by decide), (by decide), (k.2.2 c1).2.2.2.2.1, (k.2.2 c1).2.2.2.2.2.1⟩, ⟨(by decide), ⟨⟨(by decide), (by decide), (k.2.2 c1).2.2.2.2.2.2.1, (k.2.2 c1).2.2.2.2.2.2.2.1⟩, (k.2.2 c1).2.2.2.2.2.2.2.2⟩⟩⟩⟩⟩⟩⟩⟩⟩)
theorem sg_Order_guessOf_0 {sc : Nat → Int} {ar : Nat → Nat → Int} {Q : Option mV → mH → Prop} (k : Ev 2 M_Order_guessOf (4, [some (vO 3), some (vO 1), some (vI 0), some (vI 0), none], [], (sc, ar)) Q) :
  Ev 2 M_Order_guessOf (0, [some (vO 3), some (vO 1), none, none, none], [], (sc, ar)) Q :=
  wq_ok 200 _ _ [(4, 4), (17, 5), (33, 5), (39, 5), (42, 5)] _ _ _ _ _ (show Ev 2 M_Order_guessOf (4, [some (vO 3), some (vO 1), some (vI 0), some (vI 0), none], [], (sc, ar)) Q from k)
theorem sg_Order_guessOf_4 {sc : Nat → Int} {ar : Nat → Nat → Int} {x2 x3 : Int} {Q : Option mV → mH → Prop} (k : inR x3 ∧ inR (sc 49) ∧ 
  ((sc 49) ≤ x3 → (Q (some (vI x2)) (sc, ar))) ∧ 
  (¬ ((sc 49) ≤ x3) → (Ev 2 M_Order_guessOf (17, [some (vO 3), some (vO 1), some (vI x2), some (vI x3), some (vI (x3 + 1))], [], (sc, ar)) Q))) :
  Ev 2 M_Order_guessOf (4, [some (vO 3), some (vO 1), some (vI x2), some (vI x3), none], [], (sc, ar)) Q :=
  wq_ok 200 _ _ [(4, 4), (17, 5), (33, 5), (39, 5), (42, 5)] _ _ _ _ _ (show (cO 3 = 2) ∧ ((inR x3 ∧ inR (sc 49)) ∧ ((sc 49) ≤ x3 → (Q (some (vI x2)) (sc, ar))) ∧ (¬ ((sc 49) ≤ x3) → (Ev 2 M_Order_guessOf (17, [some (vO 3), some (vO 1), some (vI x2), some (vI x3), some (vI (x3 + 1))], [], (sc, ar)) Q))) from ⟨(by decide), ⟨⟨k.1, k.2.1⟩, fun c1 => (k.2.2.1 c1), fun c1 => (k.2.2.2 c1)⟩⟩)
theorem sg_Order_guessOf_17 {sc : Nat → Int} {ar : Nat → Nat → Int} {x2 x3 x4 : Int} {Q : Option mV → mH → Prop} (k : inR x4 ∧ inR (sc 49) ∧ 
  ((sc 49) ≤ x4 → (Ev 2 M_Order_guessOf (4, [some (vO 3), some (vO 1), some (vI x2), some (vI (x3 + 1)), none], [], (sc, ar)) Q)) ∧ 
  (¬ ((sc 49) ≤ x4) → (Ev 1 M_Order_taskAt (0, [some (vO 3), some (vI x3)], [], (sc, ar)) (fun r1 h1 => Ev 2 M_Order_guessOf (33, [some (vO 3), some (vO 1), some (vI x2), some (vI x3), some (vI x4)], mPush r1 [vO 1, vI x2], h1) Q)))) :
  Ev 2 M_Order_guessOf (17, [some (vO 3), some (vO 1), some (vI x2), some (vI x3), some (vI x4)], [], (sc, ar)) Q :=
  wq_ok 200 _ _ [(4, 4), (17, 5), (33, 5), (39, 5), (42, 5)] _ _ _ _ _ (show (cO 3 = 2) ∧ ((inR x4 ∧ inR (sc 49)) ∧ ((sc 49) ≤ x4 → (Ev 2 M_Order_guessOf (4, [some (vO 3), some (vO 1), some (vI x2), some (vI (x3 + 1)), none], [], (sc, ar)) Q)) ∧ (¬ ((sc 49) ≤ x4) → ((cO 3 = mK M_Order_taskAt) ∧ (Ev 1 M_Order_taskAt (0, [some (vO 3), some (vI x3)], [], (sc, ar)) (fun r1 h1 => Ev 2 M_Order_guessOf (33, [some (vO 3), some (vO 1), some (vI x2), some (vI x3), some (vI x4)], mPush r1 [vO 1, vI x2], h1) Q))))) from ⟨(by decide), ⟨⟨k.1, k.2.1⟩, fun c1 => (k.2.2.1 c1), fun c1 => ⟨(by decide), (k.2.2.2 c1)⟩⟩⟩)
theorem sg_Order_guessOf_33 {sc : Nat → Int} {ar : Nat → Nat → Int} {x2 x3 x4 s0 s2 : Int} {Q : Option mV → mH → Prop} (k : Ev 1 M_Order_taskAt (0, [some (vO 3), some (vI x4)], [], (sc, ar)) (fun r1 h1 => Ev 2 M_Order_guessOf (39, [some (vO 3), some (vO 1), some (vI x2), some (vI x3), some (vI x4)], mPush r1 [vI s0, vO 1, vI s2], h1) Q)) :
  Ev 2 M_Order_guessOf (33, [some (vO 3), some (vO 1), some (vI x2), some (vI x3), some (vI x4)], [vI s0, vO 1, vI s2], (sc, ar)) Q :=
  wq_ok 200 _ _ [(4, 4), (17, 5), (33, 5), (39, 5), (42, 5)] _ _ _ _ _ (show (cO 3 = mK M_Order_taskAt) ∧ (Ev 1 M_Order_taskAt (0, [some (vO 3), some (vI x4)], [], (sc, ar)) (fun r1 h1 => Ev 2 M_Order_guessOf (39, [some (vO 3), some (vO 1), some (vI x2), some (vI x3), some (vI x4)], mPush r1 [vI s0, vO 1, vI s2], h1) Q)) from ⟨(by decide), k⟩)
theorem sg_Order_guessOf_39 {sc : Nat → Int} {ar : Nat → Nat → Int} {x2 x3 x4 s0 s1 s3 : Int} {Q : Option mV → mH → Prop} (k : Ev 1 M_Table_get (0, [some (vO 1), some (vI s1), some (vI s0)], [], (sc, ar)) (fun r1 h1 => Ev 2 M_Order_guessOf (42, [some (vO 3), some (vO 1), some (vI x2), some (vI x3), some (vI x4)], mPush r1 [vI s3], h1) Q)) :
  Ev 2 M_Order_guessOf (39, [some (vO 3), some (vO 1), some (vI x2), some (vI x3), some (vI x4)], [vI s0, vI s1, vO 1, vI s3], (sc, ar)) Q :=
  wq_ok 200 _ _ [(4, 4), (17, 5), (33, 5), (39, 5), (42, 5)] _ _ _ _ _ (show (cO 1 = mK M_Table_get) ∧ (Ev 1 M_Table_get (0, [some (vO 1), some (vI s1), some (vI s0)], [], (sc, ar)) (fun r1 h1 => Ev 2 M_Order_guessOf (42, [some (vO 3), some (vO 1), some (vI x2), some (vI x3), some (vI x4)], mPush r1 [vI s3], h1) Q)) from ⟨(by decide), k⟩)
theorem sg_Order_guessOf_42 {sc : Nat → Int} {ar : Nat → Nat → Int} {x2 x3 x4 s0 s1 : Int} {Q : Option mV → mH → Prop} (k : Ev 2 M_Order_guessOf (17, [some (vO 3), some (vO 1), some (vI (s1 + s0)), some (vI x3), some (vI (x4 + 1))], [], (sc, ar)) Q) :
  Ev 2 M_Order_guessOf (42, [some (vO 3), some (vO 1), some (vI x2), some (vI x3), some (vI x4)], [vI s0, vI s1], (sc, ar)) Q :=
  wq_ok 200 _ _ [(4, 4), (17, 5), (33, 5), (39, 5), (42, 5)] _ _ _ _ _ (show Ev 2 M_Order_guessOf (17, [some (vO 3), some (vO 1), some (vI (s1 + s0)), some (vI x3), some (vI (x4 + 1))], [], (sc, ar)) Q from k)
theorem sg_Beside_endAt_0 {sc : Nat → Int} {ar : Nat → Nat → Int} {x1 : Int} {Q : Option mV → mH → Prop} (k : Ev 0 M_Dt_valueOf (0, [some (vA 128), some (vI x1)], [], (sc, ar)) (fun r1 h1 => Ev 1 M_Beside_endAt (8, [some (vO 8), some (vI x1)], mPush r1 [], h1) Q)) :
  Ev 1 M_Beside_endAt (0, [some (vO 8), some (vI x1)], [], (sc, ar)) Q :=
  wq_ok 200 _ _ [(8, 2)] _ _ _ _ _ (show (cO 8 = 0) ∧ (Ev 0 M_Dt_valueOf (0, [some (vA 128), some (vI x1)], [], (sc, ar)) (fun r1 h1 => Ev 1 M_Beside_endAt (8, [some (vO 8), some (vI x1)], mPush r1 [], h1) Q)) from ⟨(by decide), k⟩)
theorem sg_Beside_endAt_8 {sc : Nat → Int} {ar : Nat → Nat → Int} {x1 s0 : Int} {Q : Option mV → mH → Prop} (k : Q (some (vI s0)) (sc, ar)) :
  Ev 1 M_Beside_endAt (8, [some (vO 8), some (vI x1)], [vI s0], (sc, ar)) Q :=
  wq_ok 200 _ _ [(8, 2)] _ _ _ _ _ (show Q (some (vI s0)) (sc, ar) from k)
theorem sg_Beside_latest_0 {sc : Nat → Int} {ar : Nat → Nat → Int} {Q : Option mV → mH → Prop} (k : Ev 0 M_Beside_latest (13, [some (vO 8), some (vI 0), some (vA 128), some (vI 8), some (vI 0), none], [], (sc, ar)) Q) :
  Ev 0 M_Beside_latest (0, [some (vO 8), none, none, none, none, none], [], (sc, ar)) Q :=
  wq_ok 200 _ _ [(13, 5)] _ _ _ _ _ (show (cO 8 = 0) ∧ ((aK 128 ≤ 2) ∧ (Ev 0 M_Beside_latest (13, [some (vO 8), some (vI 0), some (vA 128), some (vI 8), some (vI 0), none], [], (sc, ar)) Q)) from ⟨(by decide), ⟨(by decide), k⟩⟩)
theorem sg_Beside_latest_13 {sc : Nat → Int} {ar : Nat → Nat → Int} {x1 x3 x4 : Int} {Q : Option mV → mH → Prop} (k : inR x4 ∧ inR x3 ∧ 
  (x3 ≤ x4 → (Q (some (vI x1)) (sc, ar))) ∧ 
  (¬ (x3 ≤ x4) → ((0 : Int) ≤ x4 ∧ x4 < (8 : Int) ∧ 
    (inR x1 ∧ inR (ar 128 x4.toNat) ∧ 
    (Ev 0 M_Beside_latest (13, [some (vO 8), some (vI (if x1 < (ar 128 x4.toNat) then (ar 128 x4.toNat) else x1)), some (vA 128), some (vI x3), some (vI (x4 + 1)), none], [], (sc, ar)) Q))))) :
  Ev 0 M_Beside_latest (13, [some (vO 8), some (vI x1), some (vA 128), some (vI x3), some (vI x4), none], [], (sc, ar)) Q :=
  wq_ok 200 _ _ [(13, 5)] _ _ _ _ _ (show (inR x4 ∧ inR x3) ∧ (x3 ≤ x4 → (Q (some (vI x1)) (sc, ar))) ∧ (¬ (x3 ≤ x4) → ((aK 128 = 0 ∧ (0 : Int) ≤ x4 ∧ x4 < (8 : Int)) ∧ ((inR x1 ∧ inR (ar 128 x4.toNat) ∧ mCat [] ≤ 8) ∧ (Ev 0 M_Beside_latest (13, [some (vO 8), some (vI (if x1 < (ar 128 x4.toNat) then (ar 128 x4.toNat) else x1)), some (vA 128), some (vI x3), some (vI (x4 + 1)), none], [], (sc, ar)) Q)))) from ⟨⟨k.1, k.2.1⟩, fun c1 => (k.2.2.1 c1), fun c1 => ⟨⟨(by decide), (k.2.2.2 c1).1, (k.2.2.2 c1).2.1⟩, ⟨⟨(k.2.2.2 c1).2.2.1, (k.2.2.2 c1).2.2.2.1, (Nat.le_of_ble_eq_true rfl)⟩, (k.2.2.2 c1).2.2.2.2⟩⟩⟩)
theorem sg_Beside_reckon_0 {sc : Nat → Int} {ar : Nat → Nat → Int} {Q : Option mV → mH → Prop} (k : Ev 1 M_Arr_fillI (0, [some (vA 128), some (vI 0), none, none], [], (sc, ar)) (fun r1 h1 => Ev 2 M_Beside_reckon (8, [some (vO 8), some (vO 3), some (vO 1), some (vA 0), none, none, none, none], mPush r1 [], h1) Q)) :
  Ev 2 M_Beside_reckon (0, [some (vO 8), some (vO 3), some (vO 1), some (vA 0), none, none, none, none], [], (sc, ar)) Q :=
  wq_ok 200 _ _ [(8, 4), (11, 5), (17, 5), (33, 5), (41, 8), (57, 8), (60, 8), (97, 8)] _ _ _ _ _ (show (cO 8 = 0) ∧ (Ev 1 M_Arr_fillI (0, [some (vA 128), some (vI 0), none, none], [], (sc, ar)) (fun r1 h1 => Ev 2 M_Beside_reckon (8, [some (vO 8), some (vO 3), some (vO 1), some (vA 0), none, none, none, none], mPush r1 [], h1) Q)) from ⟨(by decide), k⟩)
theorem sg_Beside_reckon_8 {sc : Nat → Int} {ar : Nat → Nat → Int} {Q : Option mV → mH → Prop} (k : Ev 2 M_Beside_reckon (11, [some (vO 8), some (vO 3), some (vO 1), some (vA 0), some (vI 0), none, none, none], [], (sc, ar)) Q) :
  Ev 2 M_Beside_reckon (8, [some (vO 8), some (vO 3), some (vO 1), some (vA 0), none, none, none, none], [], (sc, ar)) Q :=
  wq_ok 200 _ _ [(8, 4), (11, 5), (17, 5), (33, 5), (41, 8), (57, 8), (60, 8), (97, 8)] _ _ _ _ _ (show Ev 2 M_Beside_reckon (11, [some (vO 8), some (vO 3), some (vO 1), some (vA 0), some (vI 0), none, none, none], [], (sc, ar)) Q from k)
theorem sg_Beside_reckon_11 {sc : Nat → Int} {ar : Nat → Nat → Int} {x4 : Int} {Q : Option mV → mH → Prop} (k : Ev 1 M_Order_length (0, [some (vO 3)], [], (sc, ar)) (fun r1 h1 => Ev 2 M_Beside_reckon (17, [some (vO 8), some (vO 3), some (vO 1), some (vA 0), some (vI x4), none, none, none], mPush r1 [vI x4], h1) Q)) :
  Ev 2 M_Beside_reckon (11, [some (vO 8), some (vO 3), some (vO 1), some (vA 0), some (vI x4), none, none, none], [], (sc, ar)) Q :=
  wq_ok 200 _ _ [(8, 4), (11, 5), (17, 5), (33, 5), (41, 8), (57, 8), (60, 8), (97, 8)] _ _ _ _ _ (show (cO 3 = mK M_Order_length) ∧ (Ev 1 M_Order_length (0, [some (vO 3)], [], (sc, ar)) (fun r1 h1 => Ev 2 M_Beside_reckon (17, [some (vO 8), some (vO 3), some (vO 1), some (vA 0), some (vI x4), none, none, none], mPush r1 [vI x4], h1) Q)) from ⟨(by decide), k⟩)
theorem sg_Beside_reckon_17 {sc : Nat → Int} {ar : Nat → Nat → Int} {x4 s0 s1 : Int} {Q : Option mV → mH → Prop} (k : inR s1 ∧ inR s0 ∧ 
  (s0 ≤ s1 → (Q none (sc, ar))) ∧ 
  (¬ (s0 ≤ s1) → (inR x4 ∧ 
    (8 ≤ x4 → (Q none (sc, ar))) ∧ 
    (¬ (8 ≤ x4) → (Ev 1 M_Order_taskAt (0, [some (vO 3), some (vI x4)], [], (sc, ar)) (fun r1 h1 => Ev 2 M_Beside_reckon (33, [some (vO 8), some (vO 3), some (vO 1), some (vA 0), some (vI x4), none, none, none], mPush r1 [], h1) Q)))))) :
  Ev 2 M_Beside_reckon (17, [some (vO 8), some (vO 3), some (vO 1), some (vA 0), some (vI x4), none, none, none], [vI s0, vI s1], (sc, ar)) Q :=
  wq_ok 200 _ _ [(8, 4), (11, 5), (17, 5), (33, 5), (41, 8), (57, 8), (60, 8), (97, 8)] _ _ _ _ _ (show (inR s1 ∧ inR s0) ∧ (s0 ≤ s1 → (Q none (sc, ar))) ∧ (¬ (s0 ≤ s1) → ((inR x4 ∧ inR 8) ∧ (8 ≤ x4 → (Q none (sc, ar))) ∧ (¬ (8 ≤ x4) → ((cO 3 = mK M_Order_taskAt) ∧ (Ev 1 M_Order_taskAt (0, [some (vO 3), some (vI x4)], [], (sc, ar)) (fun r1 h1 => Ev 2 M_Beside_reckon (33, [some (vO 8), some (vO 3), some (vO 1), some (vA 0), some (vI x4), none, none, none], mPush r1 [], h1) Q)))))) from ⟨⟨k.1, k.2.1⟩, fun c1 => (k.2.2.1 c1), fun c1 => ⟨⟨(k.2.2.2 c1).1, (by decide)⟩, fun c2 => ((k.2.2.2 c1).2.1 c2), fun c2 => ⟨(by decide), ((k.2.2.2 c1).2.2 c2)⟩⟩⟩)
theorem sg_Beside_reckon_33 {sc : Nat → Int} {ar : Nat → Nat → Int} {x4 s0 : Int} {Q : Option mV → mH → Prop} (k : Ev 2 M_Beside_reckon (41, [some (vO 8), some (vO 3), some (vO 1), some (vA 0), some (vI x4), some (vI s0), some (vI 0), some (vI 0)], [], (sc, ar)) Q) :
  Ev 2 M_Beside_reckon (33, [some (vO 8), some (vO 3), some (vO 1), some (vA 0), some (vI x4), none, none, none], [vI s0], (sc, ar)) Q :=
  wq_ok 200 _ _ [(8, 4), (11, 5), (17, 5), (33, 5), (41, 8), (57, 8), (60, 8), (97, 8)] _ _ _ _ _ (show Ev 2 M_Beside_reckon (41, [some (vO 8), some (vO 3), some (vO 1), some (vA 0), some (vI x4), some (vI s0), some (vI 0), some (vI 0)], [], (sc, ar)) Q from k)
theorem sg_Beside_reckon_41 {sc : Nat → Int} {ar : Nat → Nat → Int} {x4 x5 x6 x7 : Int} {Q : Option mV → mH → Prop} (k : inR x7 ∧ inR x4 ∧ 
  (x4 ≤ x7 → (Ev 1 M_Dt_valueOf (0, [some (vA 0), some (vI x5)], [], (sc, ar)) (fun r1 h1 => Ev 2 M_Beside_reckon (97, [some (vO 8), some (vO 3), some (vO 1), some (vA 0), some (vI x4), some (vI x5), some (vI x6), some (vI x7)], mPush r1 [vI x6, vI x4, vA 128], h1) Q))) ∧ 
  (¬ (x4 ≤ x7) → (Ev 1 M_Order_taskAt (0, [some (vO 3), some (vI x7)], [], (sc, ar)) (fun r1 h1 => Ev 2 M_Beside_reckon (57, [some (vO 8), some (vO 3), some (vO 1), some (vA 0), some (vI x4), some (vI x5), some (vI x6), some (vI x7)], mPush r1 [vI x5, vO 1], h1) Q)))) :
  Ev 2 M_Beside_reckon (41, [some (vO 8), some (vO 3), some (vO 1), some (vA 0), some (vI x4), some (vI x5), some (vI x6), some (vI x7)], [], (sc, ar)) Q :=
  wq_ok 200 _ _ [(8, 4), (11, 5), (17, 5), (33, 5), (41, 8), (57, 8), (60, 8), (97, 8)] _ _ _ _ _ (show (inR x7 ∧ inR x4) ∧ (x4 ≤ x7 → ((cO 8 = 0) ∧ (Ev 1 M_Dt_valueOf (0, [some (vA 0), some (vI x5)], [], (sc, ar)) (fun r1 h1 => Ev 2 M_Beside_reckon (97, [some (vO 8), some (vO 3), some (vO 1), some (vA 0), some (vI x4), some (vI x5), some (vI x6), some (vI x7)], mPush r1 [vI x6, vI x4, vA 128], h1) Q)))) ∧ (¬ (x4 ≤ x7) → ((cO 3 = mK M_Order_taskAt) ∧ (Ev 1 M_Order_taskAt (0, [some (vO 3), some (vI x7)], [], (sc, ar)) (fun r1 h1 => Ev 2 M_Beside_reckon (57, [some (vO 8), some (vO 3), some (vO 1), some (vA 0), some (vI x4), some (vI x5), some (vI x6), some (vI x7)], mPush r1 [vI x5, vO 1], h1) Q)))) from ⟨⟨k.1, k.2.1⟩, fun c1 => ⟨(by decide), (k.2.2.1 c1)⟩, fun c1 => ⟨(by decide), (k.2.2.2 c1)⟩⟩)
theorem sg_Beside_reckon_57 {sc : Nat → Int} {ar : Nat → Nat → Int} {x4 x5 x6 x7 s0 s1 : Int} {Q : Option mV → mH → Prop} (k : Ev 1 M_Table_get (0, [some (vO 1), some (vI s1), some (vI s0)], [], (sc, ar)) (fun r1 h1 => Ev 2 M_Beside_reckon (60, [some (vO 8), some (vO 3), some (vO 1), some (vA 0), some (vI x4), some (vI x5), some (vI x6), some (vI x7)], mPush r1 [], h1) Q)) :
  Ev 2 M_Beside_reckon (57, [some (vO 8), some (vO 3), some (vO 1), some (vA 0), some (vI x4), some (vI x5), some (vI x6), some (vI x7)], [vI s0, vI s1, vO 1], (sc, ar)) Q :=
  wq_ok 200 _ _ [(8, 4), (11, 5), (17, 5), (33, 5), (41, 8), (57, 8), (60, 8), (97, 8)] _ _ _ _ _ (show (cO 1 = mK M_Table_get) ∧ (Ev 1 M_Table_get (0, [some (vO 1), some (vI s1), some (vI s0)], [], (sc, ar)) (fun r1 h1 => Ev 2 M_Beside_reckon (60, [some (vO 8), some (vO 3), some (vO 1), some (vA 0), some (vI x4), some (vI x5), some (vI x6), some (vI x7)], mPush r1 [], h1) Q)) from ⟨(by decide), k⟩)
theorem sg_Beside_reckon_60 {sc : Nat → Int} {ar : Nat → Nat → Int} {x4 x5 x6 x7 s0 : Int} {Q : Option mV → mH → Prop} (k : inR s0 ∧ 
  (s0 ≤ 0 → (Ev 2 M_Beside_reckon (41, [some (vO 8), some (vO 3), some (vO 1), some (vA 0), some (vI x4), some (vI x5), some (vI x6), some (vI (x7 + 1))], [], (sc, ar)) Q)) ∧ 
  (¬ (s0 ≤ 0) → ((0 : Int) ≤ x7 ∧ x7 < (8 : Int) ∧ 
    (inR x6 ∧ inR (ar 128 x7.toNat) ∧ 
    (Ev 2 M_Beside_reckon (41, [some (vO 8), some (vO 3), some (vO 1), some (vA 0), some (vI x4), some (vI x5), some (vI (if x6 < (ar 128 x7.toNat) then (ar 128 x7.toNat) else x6)), some (vI (x7 + 1))], [], (sc, ar)) Q))))) :
  Ev 2 M_Beside_reckon (60, [some (vO 8), some (vO 3), some (vO 1), some (vA 0), some (vI x4), some (vI x5), some (vI x6), some (vI x7)], [vI s0], (sc, ar)) Q :=
  wq_ok 200 _ _ [(8, 4), (11, 5), (17, 5), (33, 5), (41, 8), (57, 8), (60, 8), (97, 8)] _ _ _ _ _ (show (inR s0) ∧ (s0 ≤ 0 → (Ev 2 M_Beside_reckon (41, [some (vO 8), some (vO 3), some (vO 1), some (vA 0), some (vI x4), some (vI x5), some (vI x6), some (vI (x7 + 1))], [], (sc, ar)) Q)) ∧ (¬ (s0 ≤ 0) → ((cO 8 = 0) ∧ ((aK 128 = 0 ∧ (0 : Int) ≤ x7 ∧ x7 < (8 : Int)) ∧ ((inR x6 ∧ inR (ar 128 x7.toNat) ∧ mCat [] ≤ 8) ∧ (Ev 2 M_Beside_reckon (41, [some (vO 8), some (vO 3), some (vO 1), some (vA 0), some (vI x4), some (vI x5), some (vI (if x6 < (ar 128 x7.toNat) then (ar 128 x7.toNat) else x6)), some (vI (x7 + 1))], [], (sc, ar)) Q))))) from ⟨k.1, fun c1 => (k.2.1 c1), fun c1 => ⟨(by decide), ⟨⟨(by decide), (k.2.2 c1).1, (k.2.2 c1).2.1⟩, ⟨⟨(k.2.2 c1).2.2.1, (k.2.2 c1).2.2.2.1, (Nat.le_of_ble_eq_true rfl)⟩, (k.2.2 c1).2.2.2.2⟩⟩⟩⟩)
theorem sg_Beside_reckon_97 {sc : Nat → Int} {ar : Nat → Nat → Int} {x4 x5 x6 x7 s0 s1 s2 : Int} {Q : Option mV → mH → Prop} (k : (0 : Int) ≤ s2 ∧ s2 < (8 : Int) ∧ 
  (Ev 2 M_Beside_reckon (11, [some (vO 8), some (vO 3), some (vO 1), some (vA 0), some (vI (x4 + 1)), none, none, none], [], (sc, (up ar 128 (up (ar 128) s2.toNat (s1 + s0))))) Q)) :
  Ev 2 M_Beside_reckon (97, [some (vO 8), some (vO 3), some (vO 1), some (vA 0), some (vI x4), some (vI x5), some (vI x6), some (vI x7)], [vI s0, vI s1, vI s2, vA 128], (sc, ar)) Q :=
  wq_ok 200 _ _ [(8, 4), (11, 5), (17, 5), (33, 5), (41, 8), (57, 8), (60, 8), (97, 8)] _ _ _ _ _ (show (aK 128 = 0 ∧ 128 ≠ 999 ∧ (0 : Int) ≤ s2 ∧ s2 < (8 : Int)) ∧ (Ev 2 M_Beside_reckon (11, [some (vO 8), some (vO 3), some (vO 1), some (vA 0), some (vI (x4 + 1)), none, none, none], [], (sc, (up ar 128 (up (ar 128) s2.toNat (s1 + s0))))) Q) from ⟨⟨(by decide), (by decide), k.1, k.2.1⟩, k.2.2⟩)
theorem sg_Spread_forceAt_0 {sc : Nat → Int} {ar : Nat → Nat → Int} {x1 : Int} {Q : Option mV → mH → Prop} (k : Ev 0 M_Dt_valueOf (0, [some (vA 160), some (vI x1)], [], (sc, ar)) (fun r1 h1 => Ev 1 M_Spread_forceAt (8, [some (vO 10), some (vI x1)], mPush r1 [], h1) Q)) :
  Ev 1 M_Spread_forceAt (0, [some (vO 10), some (vI x1)], [], (sc, ar)) Q :=
  wq_ok 200 _ _ [(8, 2)] _ _ _ _ _ (show (cO 10 = 5) ∧ (Ev 0 M_Dt_valueOf (0, [some (vA 160), some (vI x1)], [], (sc, ar)) (fun r1 h1 => Ev 1 M_Spread_forceAt (8, [some (vO 10), some (vI x1)], mPush r1 [], h1) Q)) from ⟨(by decide), k⟩)
theorem sg_Spread_forceAt_8 {sc : Nat → Int} {ar : Nat → Nat → Int} {x1 s0 : Int} {Q : Option mV → mH → Prop} (k : Q (some (vI s0)) (sc, ar)) :
  Ev 1 M_Spread_forceAt (8, [some (vO 10), some (vI x1)], [vI s0], (sc, ar)) Q :=
  wq_ok 200 _ _ [(8, 2)] _ _ _ _ _ (show Q (some (vI s0)) (sc, ar) from k)
theorem sg_Spread_howMany_0 {sc : Nat → Int} {ar : Nat → Nat → Int} {x1 : Int} {Q : Option mV → mH → Prop} (k : Ev 0 M_Spread_howMany (14, [some (vO 10), some (vI x1), some (vI 0), some (vA 160), some (vI 8), some (vI 0), none], [], (sc, ar)) Q) :
  Ev 0 M_Spread_howMany (0, [some (vO 10), some (vI x1), none, none, none, none, none], [], (sc, ar)) Q :=
  wq_ok 200 _ _ [(14, 6)] _ _ _ _ _ (show (cO 10 = 5) ∧ ((aK 160 ≤ 2) ∧ (Ev 0 M_Spread_howMany (14, [some (vO 10), some (vI x1), some (vI 0), some (vA 160), some (vI 8), some (vI 0), none], [], (sc, ar)) Q)) from ⟨(by decide), ⟨(by decide), k⟩⟩)
theorem sg_Spread_howMany_14 {sc : Nat → Int} {ar : Nat → Nat → Int} {x1 x2 x4 x5 : Int} {Q : Option mV → mH → Prop} (k : inR x5 ∧ inR x4 ∧ 
  (x4 ≤ x5 → (Q (some (vI x2)) (sc, ar))) ∧ 
  (¬ (x4 ≤ x5) → ((0 : Int) ≤ x5 ∧ x5 < (8 : Int) ∧ 
    (inR (ar 160 x5.toNat) ∧ inR x1 ∧ 
    ((ar 160 x5.toNat) < x1 → (Ev 0 M_Spread_howMany (14, [some (vO 10), some (vI x1), some (vI (x2 + 0)), some (vA 160), some (vI x4), some (vI (x5 + 1)), none], [], (sc, ar)) Q)) ∧ 
    (¬ ((ar 160 x5.toNat) < x1) → (Ev 0 M_Spread_howMany (14, [some (vO 10), some (vI x1), some (vI (x2 + 1)), some (vA 160), some (vI x4), some (vI (x5 + 1)), none], [], (sc, ar)) Q)))))) :
  Ev 0 M_Spread_howMany (14, [some (vO 10), some (vI x1), some (vI x2), some (vA 160), some (vI x4), some (vI x5), none], [], (sc, ar)) Q :=
  wq_ok 200 _ _ [(14, 6)] _ _ _ _ _ (show (inR x5 ∧ inR x4) ∧ (x4 ≤ x5 → (Q (some (vI x2)) (sc, ar))) ∧ (¬ (x4 ≤ x5) → ((aK 160 = 0 ∧ (0 : Int) ≤ x5 ∧ x5 < (8 : Int)) ∧ ((inR (ar 160 x5.toNat) ∧ inR x1) ∧ ((ar 160 x5.toNat) < x1 → (Ev 0 M_Spread_howMany (14, [some (vO 10), some (vI x1), some (vI (x2 + 0)), some (vA 160), some (vI x4), some (vI (x5 + 1)), none], [], (sc, ar)) Q)) ∧ (¬ ((ar 160 x5.toNat) < x1) → (Ev 0 M_Spread_howMany (14, [some (vO 10), some (vI x1), some (vI (x2 + 1)), some (vA 160), some (vI x4), some (vI (x5 + 1)), none], [], (sc, ar)) Q))))) from ⟨⟨k.1, k.2.1⟩, fun c1 => (k.2.2.1 c1), fun c1 => ⟨⟨(by decide), (k.2.2.2 c1).1, (k.2.2.2 c1).2.1⟩, ⟨⟨(k.2.2.2 c1).2.2.1, (k.2.2.2 c1).2.2.2.1⟩, fun c2 => ((k.2.2.2 c1).2.2.2.2.1 c2), fun c2 => ((k.2.2.2 c1).2.2.2.2.2 c2)⟩⟩⟩)
theorem sg_Spread_from_0 {sc : Nat → Int} {ar : Nat → Nat → Int} {x1 x2 : Int} {Q : Option mV → mH → Prop} (k : Ev 3 M_Spread_from (3, [some (vO 10), some (vI x1), some (vI x2), some (vO 1), some (vI 0), none], [], (sc, ar)) Q) :
  Ev 3 M_Spread_from (0, [some (vO 10), some (vI x1), some (vI x2), some (vO 1), none, none], [], (sc, ar)) Q :=
  wq_ok 200 _ _ [(3, 5), (43, 5), (53, 5), (75, 6)] _ _ _ _ _ (show Ev 3 M_Spread_from (3, [some (vO 10), some (vI x1), some (vI x2), some (vO 1), some (vI 0), none], [], (sc, ar)) Q from k)
theorem sg_Spread_from_3 {sc : Nat → Int} {ar : Nat → Nat → Int} {x1 x2 x4 : Int} {Q : Option mV → mH → Prop} (k : inR x4 ∧ 
  (8 ≤ x4 → (Ev 3 M_Spread_from (43, [some (vO 10), some (vI x1), some (vI x2), some (vO 1), some (vI 0), none], [], ((up sc 161 0), ar)) Q)) ∧ 
  (¬ (8 ≤ x4) → (inR x4 ∧ inR x1 ∧ 
    (x4 ≠ x1 → ((0 : Int) ≤ x4 ∧ x4 < (8 : Int) ∧ 
      (Ev 3 M_Spread_from (3, [some (vO 10), some (vI x1), some (vI x2), some (vO 1), some (vI (x4 + 1)), none], [], (sc, (up ar 160 (up (ar 160) x4.toNat 0)))) Q))) ∧ 
    (¬ (x4 ≠ x1) → ((0 : Int) ≤ x4 ∧ x4 < (8 : Int) ∧ 
      (Ev 3 M_Spread_from (3, [some (vO 10), some (vI x1), some (vI x2), some (vO 1), some (vI (x4 + 1)), none], [], (sc, (up ar 160 (up (ar 160) x4.toNat 10000000)))) Q)))))) :
  Ev 3 M_Spread_from (3, [some (vO 10), some (vI x1), some (vI x2), some (vO 1), some (vI x4), none], [], (sc, ar)) Q :=
  wq_ok 200 _ _ [(3, 5), (43, 5), (53, 5), (75, 6)] _ _ _ _ _ (show (inR x4 ∧ inR 8) ∧ (8 ≤ x4 → ((cO 10 = 5) ∧ (Ev 3 M_Spread_from (43, [some (vO 10), some (vI x1), some (vI x2), some (vO 1), some (vI 0), none], [], ((up sc 161 0), ar)) Q))) ∧ (¬ (8 ≤ x4) → ((cO 10 = 5) ∧ ((inR x4 ∧ inR x1) ∧ (x4 ≠ x1 → ((aK 160 = 0 ∧ 160 ≠ 999 ∧ (0 : Int) ≤ x4 ∧ x4 < (8 : Int)) ∧ (Ev 3 M_Spread_from (3, [some (vO 10), some (vI x1), some (vI x2), some (vO 1), some (vI (x4 + 1)), none], [], (sc, (up ar 160 (up (ar 160) x4.toNat 0)))) Q))) ∧ (¬ (x4 ≠ x1) → ((aK 160 = 0 ∧ 160 ≠ 999 ∧ (0 : Int) ≤ x4 ∧ x4 < (8 : Int)) ∧ (Ev 3 M_Spread_from (3, [some (vO 10), some (vI x1), some (vI x2), some (vO 1), some (vI (x4 + 1)), none], [], (sc, (up ar 160 (up (ar 160) x4.toNat 10000000)))) Q)))))) from ⟨⟨k.1, (by decide)⟩, fun c1 => ⟨(by decide), (k.2.1 c1)⟩, fun c1 => ⟨(by decide), ⟨⟨(k.2.2 c1).1, (k.2.2 c1).2.1⟩, fun c2 => ⟨⟨(by decide), (by decide), ((k.2.2 c1).2.2.1 c2).1, ((k.2.2 c1).2.2.1 c2).2.1⟩, ((k.2.2 c1).2.2.1 c2).2.2⟩, fun c2 => ⟨⟨(by decide), (by decide), ((k.2.2 c1).2.2.2 c2).1, ((k.2.2 c1).2.2.2 c2).2.1⟩, ((k.2.2 c1).2.2.2 c2).2.2⟩⟩⟩⟩)
theorem sg_Spread_from_43 {sc : Nat → Int} {ar : Nat → Nat → Int} {x1 x2 x4 : Int} {Q : Option mV → mH → Prop} (k : inR x4 ∧ inR x2 ∧ 
  (x2 ≤ x4 → (Q none (sc, ar))) ∧ 
  (¬ (x2 ≤ x4) → (Ev 2 M_Spread_strongestLeft (0, [some (vO 10), none, none, none], [], (sc, ar)) (fun r1 h1 => Ev 3 M_Spread_from (53, [some (vO 10), some (vI x1), some (vI x2), some (vO 1), some (vI x4), none], mPush r1 [], h1) Q)))) :
  Ev 3 M_Spread_from (43, [some (vO 10), some (vI x1), some (vI x2), some (vO 1), some (vI x4), none], [], (sc, ar)) Q :=
  wq_ok 200 _ _ [(3, 5), (43, 5), (53, 5), (75, 6)] _ _ _ _ _ (show (inR x4 ∧ inR x2) ∧ (x2 ≤ x4 → (Q none (sc, ar))) ∧ (¬ (x2 ≤ x4) → ((cO 10 = mK M_Spread_strongestLeft) ∧ (Ev 2 M_Spread_strongestLeft (0, [some (vO 10), none, none, none], [], (sc, ar)) (fun r1 h1 => Ev 3 M_Spread_from (53, [some (vO 10), some (vI x1), some (vI x2), some (vO 1), some (vI x4), none], mPush r1 [], h1) Q)))) from ⟨⟨k.1, k.2.1⟩, fun c1 => (k.2.2.1 c1), fun c1 => ⟨(by decide), (k.2.2.2 c1)⟩⟩)
theorem sg_Spread_from_53 {sc : Nat → Int} {ar : Nat → Nat → Int} {x1 x2 x4 s0 : Int} {Q : Option mV → mH → Prop} (k : Ev 2 M_Spread_passOn (0, [some (vO 10), some (vI s0), some (vO 1), none, none], [], ((up sc 161 (bOr (sc 161) (bShl 1 s0))), ar)) (fun r1 h1 => Ev 3 M_Spread_from (75, [some (vO 10), some (vI x1), some (vI x2), some (vO 1), some (vI x4), some (vI s0)], mPush r1 [], h1) Q)) :
  Ev 3 M_Spread_from (53, [some (vO 10), some (vI x1), some (vI x2), some (vO 1), some (vI x4), none], [vI s0], (sc, ar)) Q :=
  wq_ok 200 _ _ [(3, 5), (43, 5), (53, 5), (75, 6)] _ _ _ _ _ (show (cO 10 = 5) ∧ ((cO 10 = 5) ∧ ((cO 10 = mK M_Spread_passOn) ∧ (Ev 2 M_Spread_passOn (0, [some (vO 10), some (vI s0), some (vO 1), none, none], [], ((up sc 161 (bOr (sc 161) (bShl 1 s0))), ar)) (fun r1 h1 => Ev 3 M_Spread_from (75, [some (vO 10), some (vI x1), some (vI x2), some (vO 1), some (vI x4), some (vI s0)], mPush r1 [], h1) Q)))) from ⟨(by decide), ⟨(by decide), ⟨(by decide), k⟩⟩⟩)
theorem sg_Spread_from_75 {sc : Nat → Int} {ar : Nat → Nat → Int} {x1 x2 x4 x5 : Int} {Q : Option mV → mH → Prop} (k : Ev 3 M_Spread_from (43, [some (vO 10), some (vI x1), some (vI x2), some (vO 1), some (vI (x4 + 1)), none], [], (sc, ar)) Q) :
  Ev 3 M_Spread_from (75, [some (vO 10), some (vI x1), some (vI x2), some (vO 1), some (vI x4), some (vI x5)], [], (sc, ar)) Q :=
  wq_ok 200 _ _ [(3, 5), (43, 5), (53, 5), (75, 6)] _ _ _ _ _ (show Ev 3 M_Spread_from (43, [some (vO 10), some (vI x1), some (vI x2), some (vO 1), some (vI (x4 + 1)), none], [], (sc, ar)) Q from k)
theorem sg_Spread_strongestLeft_0 {sc : Nat → Int} {ar : Nat → Nat → Int} {Q : Option mV → mH → Prop} (k : Ev 1 M_Spread_strongestLeft (6, [some (vO 10), some (vI 0), some (vI (-1)), some (vI 0)], [], (sc, ar)) Q) :
  Ev 1 M_Spread_strongestLeft (0, [some (vO 10), none, none, none], [], (sc, ar)) Q :=
  wq_ok 200 _ _ [(6, 4), (17, 4)] _ _ _ _ _ (show Ev 1 M_Spread_strongestLeft (6, [some (vO 10), some (vI 0), some (vI (-1)), some (vI 0)], [], (sc, ar)) Q from k)
theorem sg_Spread_strongestLeft_6 {sc : Nat → Int} {ar : Nat → Nat → Int} {x1 x2 x3 : Int} {Q : Option mV → mH → Prop} (k : inR x3 ∧ 
  (8 ≤ x3 → (Q (some (vI x1)) (sc, ar))) ∧ 
  (¬ (8 ≤ x3) → (Ev 0 M_Spread_isLeft (0, [some (vO 10), some (vI x3)], [], (sc, ar)) (fun r1 h1 => Ev 1 M_Spread_strongestLeft (17, [some (vO 10), some (vI x1), some (vI x2), some (vI x3)], mPush r1 [], h1) Q)))) :
  Ev 1 M_Spread_strongestLeft (6, [some (vO 10), some (vI x1), some (vI x2), some (vI x3)], [], (sc, ar)) Q :=
  wq_ok 200 _ _ [(6, 4), (17, 4)] _ _ _ _ _ (show (inR x3 ∧ inR 8) ∧ (8 ≤ x3 → (Q (some (vI x1)) (sc, ar))) ∧ (¬ (8 ≤ x3) → ((cO 10 = mK M_Spread_isLeft) ∧ (Ev 0 M_Spread_isLeft (0, [some (vO 10), some (vI x3)], [], (sc, ar)) (fun r1 h1 => Ev 1 M_Spread_strongestLeft (17, [some (vO 10), some (vI x1), some (vI x2), some (vI x3)], mPush r1 [], h1) Q)))) from ⟨⟨k.1, (by decide)⟩, fun c1 => (k.2.1 c1), fun c1 => ⟨(by decide), (k.2.2 c1)⟩⟩)
theorem sg_Spread_strongestLeft_17 {sc : Nat → Int} {ar : Nat → Nat → Int} {x1 x2 x3 s0 : Int} {Q : Option mV → mH → Prop} (k : inR s0 ∧ 
  (s0 = 0 → (Ev 1 M_Spread_strongestLeft (6, [some (vO 10), some (vI x1), some (vI x2), some (vI (x3 + 1))], [], (sc, ar)) Q)) ∧ 
  (¬ (s0 = 0) → ((0 : Int) ≤ x3 ∧ x3 < (8 : Int) ∧ 
    (inR (ar 160 x3.toNat) ∧ inR x2 ∧ 
    ((ar 160 x3.toNat) ≤ x2 → (Ev 1 M_Spread_strongestLeft (6, [some (vO 10), some (vI x1), some (vI x2), some (vI (x3 + 1))], [], (sc, ar)) Q)) ∧ 
    (¬ ((ar 160 x3.toNat) ≤ x2) → ((0 : Int) ≤ x3 ∧ x3 < (8 : Int) ∧ 
      (Ev 1 M_Spread_strongestLeft (6, [some (vO 10), some (vI x3), some (vI (ar 160 x3.toNat)), some (vI (x3 + 1))], [], (sc, ar)) Q))))))) :
  Ev 1 M_Spread_strongestLeft (17, [some (vO 10), some (vI x1), some (vI x2), some (vI x3)], [vI s0], (sc, ar)) Q :=
  wq_ok 200 _ _ [(6, 4), (17, 4)] _ _ _ _ _ (show (inR s0) ∧ (s0 = 0 → (Ev 1 M_Spread_strongestLeft (6, [some (vO 10), some (vI x1), some (vI x2), some (vI (x3 + 1))], [], (sc, ar)) Q)) ∧ (¬ (s0 = 0) → ((cO 10 = 5) ∧ ((aK 160 = 0 ∧ (0 : Int) ≤ x3 ∧ x3 < (8 : Int)) ∧ ((inR (ar 160 x3.toNat) ∧ inR x2) ∧ ((ar 160 x3.toNat) ≤ x2 → (Ev 1 M_Spread_strongestLeft (6, [some (vO 10), some (vI x1), some (vI x2), some (vI (x3 + 1))], [], (sc, ar)) Q)) ∧ (¬ ((ar 160 x3.toNat) ≤ x2) → ((cO 10 = 5) ∧ ((aK 160 = 0 ∧ (0 : Int) ≤ x3 ∧ x3 < (8 : Int)) ∧ (Ev 1 M_Spread_strongestLeft (6, [some (vO 10), some (vI x3), some (vI (ar 160 x3.toNat)), some (vI (x3 + 1))], [], (sc, ar)) Q)))))))) from ⟨k.1, fun c1 => (k.2.1 c1), fun c1 => ⟨(by decide), ⟨⟨(by decide), (k.2.2 c1).1, (k.2.2 c1).2.1⟩, ⟨⟨(k.2.2 c1).2.2.1, (k.2.2 c1).2.2.2.1⟩, fun c2 => ((k.2.2 c1).2.2.2.2.1 c2), fun c2 => ⟨(by decide), ⟨⟨(by decide), ((k.2.2 c1).2.2.2.2.2 c2).1, ((k.2.2 c1).2.2.2.2.2 c2).2.1⟩, ((k.2.2 c1).2.2.2.2.2 c2).2.2⟩⟩⟩⟩⟩⟩)
theorem sg_Spread_passOn_0 {sc : Nat → Int} {ar : Nat → Nat → Int} {x1 : Int} {Q : Option mV → mH → Prop} (k : Ev 2 M_Spread_passOn (2, [some (vO 10), some (vI x1), some (vO 1), some (vI 0), none], [], (sc, ar)) Q) :
  Ev 2 M_Spread_passOn (0, [some (vO 10), some (vI x1), some (vO 1), none, none], [], (sc, ar)) Q :=
  wq_ok 200 _ _ [(2, 4), (13, 4), (21, 4), (27, 4)] _ _ _ _ _ (show Ev 2 M_Spread_passOn (2, [some (vO 10), some (vI x1), some (vO 1), some (vI 0), none], [], (sc, ar)) Q from k)
theorem sg_Spread_passOn_2 {sc : Nat → Int} {ar : Nat → Nat → Int} {x1 x3 : Int} {Q : Option mV → mH → Prop} (k : inR x3 ∧ 
  (8 ≤ x3 → (Q none (sc, ar))) ∧ 
  (¬ (8 ≤ x3) → (Ev 1 M_Spread_isLeft (0, [some (vO 10), some (vI x3)], [], (sc, ar)) (fun r1 h1 => Ev 2 M_Spread_passOn (13, [some (vO 10), some (vI x1), some (vO 1), some (vI x3), none], mPush r1 [], h1) Q)))) :
  Ev 2 M_Spread_passOn (2, [some (vO 10), some (vI x1), some (vO 1), some (vI x3), none], [], (sc, ar)) Q :=
  wq_ok 200 _ _ [(2, 4), (13, 4), (21, 4), (27, 4)] _ _ _ _ _ (show (inR x3 ∧ inR 8) ∧ (8 ≤ x3 → (Q none (sc, ar))) ∧ (¬ (8 ≤ x3) → ((cO 10 = mK M_Spread_isLeft) ∧ (Ev 1 M_Spread_isLeft (0, [some (vO 10), some (vI x3)], [], (sc, ar)) (fun r1 h1 => Ev 2 M_Spread_passOn (13, [some (vO 10), some (vI x1), some (vO 1), some (vI x3), none], mPush r1 [], h1) Q)))) from ⟨⟨k.1, (by decide)⟩, fun c1 => (k.2.1 c1), fun c1 => ⟨(by decide), (k.2.2 c1)⟩⟩)
theorem sg_Spread_passOn_13 {sc : Nat → Int} {ar : Nat → Nat → Int} {x1 x3 s0 : Int} {Q : Option mV → mH → Prop} (k : inR s0 ∧ 
  (s0 = 0 → (Ev 2 M_Spread_passOn (2, [some (vO 10), some (vI x1), some (vO 1), some (vI (x3 + 1)), none], [], (sc, ar)) Q)) ∧ 
  (¬ (s0 = 0) → (Ev 1 M_Spread_forceAt (0, [some (vO 10), some (vI x1)], [], (sc, ar)) (fun r1 h1 => Ev 2 M_Spread_passOn (21, [some (vO 10), some (vI x1), some (vO 1), some (vI x3), none], mPush r1 [], h1) Q)))) :
  Ev 2 M_Spread_passOn (13, [some (vO 10), some (vI x1), some (vO 1), some (vI x3), none], [vI s0], (sc, ar)) Q :=
  wq_ok 200 _ _ [(2, 4), (13, 4), (21, 4), (27, 4)] _ _ _ _ _ (show (inR s0) ∧ (s0 = 0 → (Ev 2 M_Spread_passOn (2, [some (vO 10), some (vI x1), some (vO 1), some (vI (x3 + 1)), none], [], (sc, ar)) Q)) ∧ (¬ (s0 = 0) → ((cO 10 = mK M_Spread_forceAt) ∧ (Ev 1 M_Spread_forceAt (0, [some (vO 10), some (vI x1)], [], (sc, ar)) (fun r1 h1 => Ev 2 M_Spread_passOn (21, [some (vO 10), some (vI x1), some (vO 1), some (vI x3), none], mPush r1 [], h1) Q)))) from ⟨k.1, fun c1 => (k.2.1 c1), fun c1 => ⟨(by decide), (k.2.2 c1)⟩⟩)
theorem sg_Spread_passOn_21 {sc : Nat → Int} {ar : Nat → Nat → Int} {x1 x3 s0 : Int} {Q : Option mV → mH → Prop} (k : Ev 1 M_Table_get (0, [some (vO 1), some (vI x3), some (vI x1)], [], (sc, ar)) (fun r1 h1 => Ev 2 M_Spread_passOn (27, [some (vO 10), some (vI x1), some (vO 1), some (vI x3), none], mPush r1 [vI s0], h1) Q)) :
  Ev 2 M_Spread_passOn (21, [some (vO 10), some (vI x1), some (vO 1), some (vI x3), none], [vI s0], (sc, ar)) Q :=
  wq_ok 200 _ _ [(2, 4), (13, 4), (21, 4), (27, 4)] _ _ _ _ _ (show (cO 1 = mK M_Table_get) ∧ (Ev 1 M_Table_get (0, [some (vO 1), some (vI x3), some (vI x1)], [], (sc, ar)) (fun r1 h1 => Ev 2 M_Spread_passOn (27, [some (vO 10), some (vI x1), some (vO 1), some (vI x3), none], mPush r1 [vI s0], h1) Q)) from ⟨(by decide), k⟩)
theorem sg_Spread_passOn_27 {sc : Nat → Int} {ar : Nat → Nat → Int} {x1 x3 s0 s1 : Int} {Q : Option mV → mH → Prop} (k : inR (s1 * s0) ∧ 
  ((0 : Int) ≤ x3 ∧ x3 < (8 : Int) ∧ 
  (inR (ar 160 x3.toNat) ∧ inR (Int.tdiv (s1 * s0) 10) ∧ 
  ((0 : Int) ≤ x3 ∧ x3 < (8 : Int) ∧ 
  (Ev 2 M_Spread_passOn (2, [some (vO 10), some (vI x1), some (vO 1), some (vI (x3 + 1)), none], [], (sc, (up ar 160 (up (ar 160) x3.toNat (if (ar 160 x3.toNat) < (Int.tdiv (s1 * s0) 10) then (Int.tdiv (s1 * s0) 10) else (ar 160 x3.toNat)))))) Q))))) :
  Ev 2 M_Spread_passOn (27, [some (vO 10), some (vI x1), some (vO 1), some (vI x3), none], [vI s0, vI s1], (sc, ar)) Q :=
  wq_ok 200 _ _ [(2, 4), (13, 4), (21, 4), (27, 4)] _ _ _ _ _ (show (inR (s1 * s0) ∧ inR 10 ∧ (0 : Int) < 10) ∧ ((cO 10 = 5) ∧ ((cO 10 = 5) ∧ ((aK 160 = 0 ∧ (0 : Int) ≤ x3 ∧ x3 < (8 : Int)) ∧ ((inR (ar 160 x3.toNat) ∧ inR (Int.tdiv (s1 * s0) 10) ∧ mCat [vI x3, vA 160] ≤ 8) ∧ ((aK 160 = 0 ∧ 160 ≠ 999 ∧ (0 : Int) ≤ x3 ∧ x3 < (8 : Int)) ∧ (Ev 2 M_Spread_passOn (2, [some (vO 10), some (vI x1), some (vO 1), some (vI (x3 + 1)), none], [], (sc, (up ar 160 (up (ar 160) x3.toNat (if (ar 160 x3.toNat) < (Int.tdiv (s1 * s0) 10) then (Int.tdiv (s1 * s0) 10) else (ar 160 x3.toNat)))))) Q)))))) from ⟨⟨k.1, (by decide), (by decide)⟩, ⟨(by decide), ⟨(by decide), ⟨⟨(by decide), k.2.1, k.2.2.1⟩, ⟨⟨k.2.2.2.1, k.2.2.2.2.1, (Nat.le_of_ble_eq_true rfl)⟩, ⟨⟨(by decide), (by decide), k.2.2.2.2.2.1, k.2.2.2.2.2.2.1⟩, k.2.2.2.2.2.2.2⟩⟩⟩⟩⟩⟩)
theorem sg_Spread_isLeft_0 {sc : Nat → Int} {ar : Nat → Nat → Int} {x1 : Int} {Q : Option mV → mH → Prop} (k : inR (bAnd (sc 161) (bShl 1 x1)) ∧ 
  ((bAnd (sc 161) (bShl 1 x1)) ≠ 0 → (Q (some (vI 0)) (sc, ar))) ∧ 
  (¬ ((bAnd (sc 161) (bShl 1 x1)) ≠ 0) → (Q (some (vI 1)) (sc, ar)))) :
  Ev 0 M_Spread_isLeft (0, [some (vO 10), some (vI x1)], [], (sc, ar)) Q :=
  wq_ok 200 _ _ [] _ _ _ _ _ (show (cO 10 = 5) ∧ ((inR (bAnd (sc 161) (bShl 1 x1))) ∧ ((bAnd (sc 161) (bShl 1 x1)) ≠ 0 → (((0 : Int) ≤ 0 ∧ (0 : Int) ≤ 1) ∧ (Q (some (vI 0)) (sc, ar)))) ∧ (¬ ((bAnd (sc 161) (bShl 1 x1)) ≠ 0) → (((0 : Int) ≤ 1 ∧ (1 : Int) ≤ 1) ∧ (Q (some (vI 1)) (sc, ar))))) from ⟨(by decide), ⟨k.1, fun c1 => ⟨⟨(by decide), (by decide)⟩, (k.2.1 c1)⟩, fun c1 => ⟨⟨(by decide), (by decide)⟩, (k.2.2 c1)⟩⟩⟩)
theorem sg_Least_leastGuess_0 {sc : Nat → Int} {ar : Nat → Nat → Int} {x1 : Int} {Q : Option mV → mH → Prop} (k : Ev 4 M_Least_leastGuess (9, [some (vO 5), some (vI x1), some (vO 1), some (vI ((bShl 1 x1) - 1)), some (vI ((bShl 1 x1) - 1))], [], (sc, ar)) Q) :
  Ev 4 M_Least_leastGuess (0, [some (vO 5), some (vI x1), some (vO 1), none, none], [], (sc, ar)) Q :=
  wq_ok 200 _ _ [(9, 5), (48, 5)] _ _ _ _ _ (show Ev 4 M_Least_leastGuess (9, [some (vO 5), some (vI x1), some (vO 1), some (vI ((bShl 1 x1) - 1)), some (vI ((bShl 1 x1) - 1))], [], (sc, ar)) Q from k)
theorem sg_Least_leastGuess_9 {sc : Nat → Int} {ar : Nat → Nat → Int} {x1 x3 x4 : Int} {Q : Option mV → mH → Prop} (k : inR x4 ∧ 
  (x4 < 0 → (Q (some (vI (ar 80 (0 : Int).toNat))) (sc, ar))) ∧ 
  (¬ (x4 < 0) → (inR x4 ∧ 
    (256 ≤ x4 → (Q (some (vI (ar 80 (0 : Int).toNat))) (sc, ar))) ∧ 
    (¬ (256 ≤ x4) → (inR x4 ∧ inR x3 ∧ 
      (x4 ≠ x3 → (Ev 3 M_Least_leastAfter (0, [some (vO 5), some (vI x4), some (vI x1), some (vO 1), none, none], [], (sc, ar)) (fun r1 h1 => Ev 4 M_Least_leastGuess (48, [some (vO 5), some (vI x1), some (vO 1), some (vI x3), some (vI x4)], mPush r1 [vI x4, vA 80], h1) Q))) ∧ 
      (¬ (x4 ≠ x3) → (Ev 4 M_Least_leastGuess (48, [some (vO 5), some (vI x1), some (vO 1), some (vI x3), some (vI x4)], [vI 0, vI x4, vA 80], (sc, ar)) Q))))))) :
  Ev 4 M_Least_leastGuess (9, [some (vO 5), some (vI x1), some (vO 1), some (vI x3), some (vI x4)], [], (sc, ar)) Q :=
  wq_ok 200 _ _ [(9, 5), (48, 5)] _ _ _ _ _ (show (inR x4) ∧ (x4 < 0 → ((cO 5 = 1) ∧ ((aK 80 = 0 ∧ (0 : Int) ≤ 0 ∧ 0 < (256 : Int)) ∧ (Q (some (vI (ar 80 (0 : Int).toNat))) (sc, ar))))) ∧ (¬ (x4 < 0) → ((cO 5 = 1) ∧ ((aK 80 ≤ 2) ∧ ((inR x4 ∧ inR 256) ∧ (256 ≤ x4 → ((cO 5 = 1) ∧ ((aK 80 = 0 ∧ (0 : Int) ≤ 0 ∧ 0 < (256 : Int)) ∧ (Q (some (vI (ar 80 (0 : Int).toNat))) (sc, ar))))) ∧ (¬ (256 ≤ x4) → ((cO 5 = 1) ∧ ((inR x4 ∧ inR x3) ∧ (x4 ≠ x3 → ((cO 5 = mK M_Least_leastAfter) ∧ (Ev 3 M_Least_leastAfter (0, [some (vO 5), some (vI x4), some (vI x1), some (vO 1), none, none], [], (sc, ar)) (fun r1 h1 => Ev 4 M_Least_leastGuess (48, [some (vO 5), some (vI x1), some (vO 1), some (vI x3), some (vI x4)], mPush r1 [vI x4, vA 80], h1) Q)))) ∧ (¬ (x4 ≠ x3) → (Ev 4 M_Least_leastGuess (48, [some (vO 5), some (vI x1), some (vO 1), some (vI x3), some (vI x4)], [vI 0, vI x4, vA 80], (sc, ar)) Q))))))))) from ⟨k.1, fun c1 => ⟨(by decide), ⟨⟨(by decide), (by decide), (by decide)⟩, (k.2.1 c1)⟩⟩, fun c1 => ⟨(by decide), ⟨(by decide), ⟨⟨(k.2.2 c1).1, (by decide)⟩, fun c2 => ⟨(by decide), ⟨⟨(by decide), (by decide), (by decide)⟩, ((k.2.2 c1).2.1 c2)⟩⟩, fun c2 => ⟨(by decide), ⟨⟨((k.2.2 c1).2.2 c2).1, ((k.2.2 c1).2.2 c2).2.1⟩, fun c3 => ⟨(by decide), (((k.2.2 c1).2.2 c2).2.2.1 c3)⟩, fun c3 => (((k.2.2 c1).2.2 c2).2.2.2 c3)⟩⟩⟩⟩⟩⟩)
theorem sg_Least_leastGuess_48 {sc : Nat → Int} {ar : Nat → Nat → Int} {x1 x3 x4 s0 s1 : Int} {Q : Option mV → mH → Prop} (k : (0 : Int) ≤ s1 ∧ s1 < (256 : Int) ∧ 
  (Ev 4 M_Least_leastGuess (9, [some (vO 5), some (vI x1), some (vO 1), some (vI x3), some (vI (x4 + (-1)))], [], (sc, (up ar 80 (up (ar 80) s1.toNat s0)))) Q)) :
  Ev 4 M_Least_leastGuess (48, [some (vO 5), some (vI x1), some (vO 1), some (vI x3), some (vI x4)], [vI s0, vI s1, vA 80], (sc, ar)) Q :=
  wq_ok 200 _ _ [(9, 5), (48, 5)] _ _ _ _ _ (show (aK 80 = 0 ∧ 80 ≠ 999 ∧ (0 : Int) ≤ s1 ∧ s1 < (256 : Int)) ∧ (Ev 4 M_Least_leastGuess (9, [some (vO 5), some (vI x1), some (vO 1), some (vI x3), some (vI (x4 + (-1)))], [], (sc, (up ar 80 (up (ar 80) s1.toNat s0)))) Q) from ⟨⟨(by decide), (by decide), k.1, k.2.1⟩, k.2.2⟩)
theorem sg_Least_find_0 {sc : Nat → Int} {ar : Nat → Nat → Int} {x1 : Int} {Q : Option mV → mH → Prop} (k : Ev 4 M_Least_leastGuess (0, [some (vO 5), some (vI x1), some (vO 1), none, none], [], (sc, ar)) (fun r1 h1 => Ev 5 M_Least_find (6, [some (vO 5), some (vI x1), some (vO 1), none, none, none], mPush r1 [], h1) Q)) :
  Ev 5 M_Least_find (0, [some (vO 5), some (vI x1), some (vO 1), none, none, none], [], (sc, ar)) Q :=
  wq_ok 200 _ _ [(6, 3), (14, 3), (19, 5), (32, 5), (43, 6)] _ _ _ _ _ (show (cO 5 = mK M_Least_leastGuess) ∧ (Ev 4 M_Least_leastGuess (0, [some (vO 5), some (vI x1), some (vO 1), none, none], [], (sc, ar)) (fun r1 h1 => Ev 5 M_Least_find (6, [some (vO 5), some (vI x1), some (vO 1), none, none, none], mPush r1 [], h1) Q)) from ⟨(by decide), k⟩)
theorem sg_Least_find_6 {sc : Nat → Int} {ar : Nat → Nat → Int} {x1 s0 : Int} {Q : Option mV → mH → Prop} (k : Ev 4 M_Order_clear (0, [some (vO 6)], [], (sc, ar)) (fun r1 h1 => Ev 5 M_Least_find (14, [some (vO 5), some (vI x1), some (vO 1), none, none, none], mPush r1 [], h1) Q)) :
  Ev 5 M_Least_find (6, [some (vO 5), some (vI x1), some (vO 1), none, none, none], [vI s0], (sc, ar)) Q :=
  wq_ok 200 _ _ [(6, 3), (14, 3), (19, 5), (32, 5), (43, 6)] _ _ _ _ _ (show (cO 5 = 1) ∧ ((cO 6 = mK M_Order_clear) ∧ (Ev 4 M_Order_clear (0, [some (vO 6)], [], (sc, ar)) (fun r1 h1 => Ev 5 M_Least_find (14, [some (vO 5), some (vI x1), some (vO 1), none, none, none], mPush r1 [], h1) Q))) from ⟨(by decide), ⟨(by decide), k⟩⟩)
theorem sg_Least_find_14 {sc : Nat → Int} {ar : Nat → Nat → Int} {x1 : Int} {Q : Option mV → mH → Prop} (k : Ev 5 M_Least_find (19, [some (vO 5), some (vI x1), some (vO 1), some (vI 0), some (vI 0), none], [], (sc, ar)) Q) :
  Ev 5 M_Least_find (14, [some (vO 5), some (vI x1), some (vO 1), none, none, none], [], (sc, ar)) Q :=
  wq_ok 200 _ _ [(6, 3), (14, 3), (19, 5), (32, 5), (43, 6)] _ _ _ _ _ (show Ev 5 M_Least_find (19, [some (vO 5), some (vI x1), some (vO 1), some (vI 0), some (vI 0), none], [], (sc, ar)) Q from k)
theorem sg_Least_find_19 {sc : Nat → Int} {ar : Nat → Nat → Int} {x1 x3 x4 : Int} {Q : Option mV → mH → Prop} (k : inR x4 ∧ inR x1 ∧ 
  (x1 ≤ x4 → (Q (some (vO 6)) (sc, ar))) ∧ 
  (¬ (x1 ≤ x4) → (Ev 4 M_Least_firstOfLeast (0, [some (vO 5), some (vI x3), some (vI x1), some (vO 1), none], [], (sc, ar)) (fun r1 h1 => Ev 5 M_Least_find (32, [some (vO 5), some (vI x1), some (vO 1), some (vI x3), some (vI x4), none], mPush r1 [], h1) Q)))) :
  Ev 5 M_Least_find (19, [some (vO 5), some (vI x1), some (vO 1), some (vI x3), some (vI x4), none], [], (sc, ar)) Q :=
  wq_ok 200 _ _ [(6, 3), (14, 3), (19, 5), (32, 5), (43, 6)] _ _ _ _ _ (show (inR x4 ∧ inR x1) ∧ (x1 ≤ x4 → ((cO 5 = 1) ∧ (Q (some (vO 6)) (sc, ar)))) ∧ (¬ (x1 ≤ x4) → ((cO 5 = mK M_Least_firstOfLeast) ∧ (Ev 4 M_Least_firstOfLeast (0, [some (vO 5), some (vI x3), some (vI x1), some (vO 1), none], [], (sc, ar)) (fun r1 h1 => Ev 5 M_Least_find (32, [some (vO 5), some (vI x1), some (vO 1), some (vI x3), some (vI x4), none], mPush r1 [], h1) Q)))) from ⟨⟨k.1, k.2.1⟩, fun c1 => ⟨(by decide), (k.2.2.1 c1)⟩, fun c1 => ⟨(by decide), (k.2.2.2 c1)⟩⟩)
theorem sg_Least_find_32 {sc : Nat → Int} {ar : Nat → Nat → Int} {x1 x3 x4 s0 : Int} {Q : Option mV → mH → Prop} (k : Ev 4 M_Order_add (0, [some (vO 6), some (vI s0)], [], (sc, ar)) (fun r1 h1 => Ev 5 M_Least_find (43, [some (vO 5), some (vI x1), some (vO 1), some (vI x3), some (vI x4), some (vI s0)], mPush r1 [], h1) Q)) :
  Ev 5 M_Least_find (32, [some (vO 5), some (vI x1), some (vO 1), some (vI x3), some (vI x4), none], [vI s0], (sc, ar)) Q :=
  wq_ok 200 _ _ [(6, 3), (14, 3), (19, 5), (32, 5), (43, 6)] _ _ _ _ _ (show (cO 5 = 1) ∧ ((cO 6 = mK M_Order_add) ∧ (Ev 4 M_Order_add (0, [some (vO 6), some (vI s0)], [], (sc, ar)) (fun r1 h1 => Ev 5 M_Least_find (43, [some (vO 5), some (vI x1), some (vO 1), some (vI x3), some (vI x4), some (vI s0)], mPush r1 [], h1) Q))) from ⟨(by decide), ⟨(by decide), k⟩⟩)
theorem sg_Least_find_43 {sc : Nat → Int} {ar : Nat → Nat → Int} {x1 x3 x4 x5 : Int} {Q : Option mV → mH → Prop} (k : Ev 5 M_Least_find (19, [some (vO 5), some (vI x1), some (vO 1), some (vI (bOr x3 (bShl 1 x5))), some (vI (x4 + 1)), none], [], (sc, ar)) Q) :
  Ev 5 M_Least_find (43, [some (vO 5), some (vI x1), some (vO 1), some (vI x3), some (vI x4), some (vI x5)], [], (sc, ar)) Q :=
  wq_ok 200 _ _ [(6, 3), (14, 3), (19, 5), (32, 5), (43, 6)] _ _ _ _ _ (show Ev 5 M_Least_find (19, [some (vO 5), some (vI x1), some (vO 1), some (vI (bOr x3 (bShl 1 x5))), some (vI (x4 + 1)), none], [], (sc, ar)) Q from k)
theorem sg_Least_leastAfter_0 {sc : Nat → Int} {ar : Nat → Nat → Int} {x1 x2 : Int} {Q : Option mV → mH → Prop} (k : Ev 3 M_Least_leastAfter (7, [some (vO 5), some (vI x1), some (vI x2), some (vO 1), some (vI 1000000), some (vI 0)], [], (sc, ar)) Q) :
  Ev 3 M_Least_leastAfter (0, [some (vO 5), some (vI x1), some (vI x2), some (vO 1), none, none], [], (sc, ar)) Q :=
  wq_ok 200 _ _ [(7, 6), (33, 6)] _ _ _ _ _ (show Ev 3 M_Least_leastAfter (7, [some (vO 5), some (vI x1), some (vI x2), some (vO 1), some (vI 1000000), some (vI 0)], [], (sc, ar)) Q from k)
theorem sg_Least_leastAfter_7 {sc : Nat → Int} {ar : Nat → Nat → Int} {x1 x2 x4 x5 : Int} {Q : Option mV → mH → Prop} (k : inR x5 ∧ inR x2 ∧ 
  (x2 ≤ x5 → (Q (some (vI x4)) (sc, ar))) ∧ 
  (¬ (x2 ≤ x5) → (inR (bAnd x1 (bShl 1 x5)) ∧ 
    ((bAnd x1 (bShl 1 x5)) ≠ 0 → (Ev 3 M_Least_leastAfter (7, [some (vO 5), some (vI x1), some (vI x2), some (vO 1), some (vI x4), some (vI (x5 + 1))], [], (sc, ar)) Q)) ∧ 
    (¬ ((bAnd x1 (bShl 1 x5)) ≠ 0) → (Ev 2 M_Least_guessWithNext (0, [some (vO 5), some (vI x5), some (vI x1), some (vI x2), some (vO 1), none, none], [], (sc, ar)) (fun r1 h1 => Ev 3 M_Least_leastAfter (33, [some (vO 5), some (vI x1), some (vI x2), some (vO 1), some (vI x4), some (vI x5)], mPush r1 [vI x4], h1) Q)))))) :
  Ev 3 M_Least_leastAfter (7, [some (vO 5), some (vI x1), some (vI x2), some (vO 1), some (vI x4), some (vI x5)], [], (sc, ar)) Q :=
  wq_ok 200 _ _ [(7, 6), (33, 6)] _ _ _ _ _ (show (inR x5 ∧ inR x2) ∧ (x2 ≤ x5 → (Q (some (vI x4)) (sc, ar))) ∧ (¬ (x2 ≤ x5) → ((inR (bAnd x1 (bShl 1 x5))) ∧ ((bAnd x1 (bShl 1 x5)) ≠ 0 → (Ev 3 M_Least_leastAfter (7, [some (vO 5), some (vI x1), some (vI x2), some (vO 1), some (vI x4), some (vI (x5 + 1))], [], (sc, ar)) Q)) ∧ (¬ ((bAnd x1 (bShl 1 x5)) ≠ 0) → ((cO 5 = mK M_Least_guessWithNext) ∧ (Ev 2 M_Least_guessWithNext (0, [some (vO 5), some (vI x5), some (vI x1), some (vI x2), some (vO 1), none, none], [], (sc, ar)) (fun r1 h1 => Ev 3 M_Least_leastAfter (33, [some (vO 5), some (vI x1), some (vI x2), some (vO 1), some (vI x4), some (vI x5)], mPush r1 [vI x4], h1) Q)))))) from ⟨⟨k.1, k.2.1⟩, fun c1 => (k.2.2.1 c1), fun c1 => ⟨(k.2.2.2 c1).1, fun c2 => ((k.2.2.2 c1).2.1 c2), fun c2 => ⟨(by decide), ((k.2.2.2 c1).2.2 c2)⟩⟩⟩)
theorem sg_Least_leastAfter_33 {sc : Nat → Int} {ar : Nat → Nat → Int} {x1 x2 x4 x5 s0 s1 : Int} {Q : Option mV → mH → Prop} (k : inR s1 ∧ inR s0 ∧ 
  (Ev 3 M_Least_leastAfter (7, [some (vO 5), some (vI x1), some (vI x2), some (vO 1), some (vI (if s0 < s1 then s0 else s1)), some (vI (x5 + 1))], [], (sc, ar)) Q)) :
  Ev 3 M_Least_leastAfter (33, [some (vO 5), some (vI x1), some (vI x2), some (vO 1), some (vI x4), some (vI x5)], [vI s0, vI s1], (sc, ar)) Q :=
  wq_ok 200 _ _ [(7, 6), (33, 6)] _ _ _ _ _ (show (inR s1 ∧ inR s0 ∧ mCat [] ≤ 8) ∧ (Ev 3 M_Least_leastAfter (7, [some (vO 5), some (vI x1), some (vI x2), some (vO 1), some (vI (if s0 < s1 then s0 else s1)), some (vI (x5 + 1))], [], (sc, ar)) Q) from ⟨⟨k.1, k.2.1, (Nat.le_of_ble_eq_true rfl)⟩, k.2.2⟩)
theorem sg_Least_firstOfLeast_0 {sc : Nat → Int} {ar : Nat → Nat → Int} {x1 x2 : Int} {Q : Option mV → mH → Prop} (k : Ev 3 M_Least_firstOfLeast (3, [some (vO 5), some (vI x1), some (vI x2), some (vO 1), some (vI 0)], [], (sc, ar)) Q) :
  Ev 3 M_Least_firstOfLeast (0, [some (vO 5), some (vI x1), some (vI x2), some (vO 1), none], [], (sc, ar)) Q :=
  wq_ok 200 _ _ [(3, 5), (27, 5), (35, 5)] _ _ _ _ _ (show Ev 3 M_Least_firstOfLeast (3, [some (vO 5), some (vI x1), some (vI x2), some (vO 1), some (vI 0)], [], (sc, ar)) Q from k)
theorem sg_Least_firstOfLeast_3 {sc : Nat → Int} {ar : Nat → Nat → Int} {x1 x2 x4 : Int} {Q : Option mV → mH → Prop} (k : inR x4 ∧ inR x2 ∧ 
  (x2 ≤ x4 → (Q (some (vI 0)) (sc, ar))) ∧ 
  (¬ (x2 ≤ x4) → (inR (bAnd x1 (bShl 1 x4)) ∧ 
    ((bAnd x1 (bShl 1 x4)) ≠ 0 → (Ev 3 M_Least_firstOfLeast (3, [some (vO 5), some (vI x1), some (vI x2), some (vO 1), some (vI (x4 + 1))], [], (sc, ar)) Q)) ∧ 
    (¬ ((bAnd x1 (bShl 1 x4)) ≠ 0) → (Ev 2 M_Least_guessWithNext (0, [some (vO 5), some (vI x4), some (vI x1), some (vI x2), some (vO 1), none, none], [], (sc, ar)) (fun r1 h1 => Ev 3 M_Least_firstOfLeast (27, [some (vO 5), some (vI x1), some (vI x2), some (vO 1), some (vI x4)], mPush r1 [], h1) Q)))))) :
  Ev 3 M_Least_firstOfLeast (3, [some (vO 5), some (vI x1), some (vI x2), some (vO 1), some (vI x4)], [], (sc, ar)) Q :=
  wq_ok 200 _ _ [(3, 5), (27, 5), (35, 5)] _ _ _ _ _ (show (inR x4 ∧ inR x2) ∧ (x2 ≤ x4 → (Q (some (vI 0)) (sc, ar))) ∧ (¬ (x2 ≤ x4) → ((inR (bAnd x1 (bShl 1 x4))) ∧ ((bAnd x1 (bShl 1 x4)) ≠ 0 → (Ev 3 M_Least_firstOfLeast (3, [some (vO 5), some (vI x1), some (vI x2), some (vO 1), some (vI (x4 + 1))], [], (sc, ar)) Q)) ∧ (¬ ((bAnd x1 (bShl 1 x4)) ≠ 0) → ((cO 5 = mK M_Least_guessWithNext) ∧ (Ev 2 M_Least_guessWithNext (0, [some (vO 5), some (vI x4), some (vI x1), some (vI x2), some (vO 1), none, none], [], (sc, ar)) (fun r1 h1 => Ev 3 M_Least_firstOfLeast (27, [some (vO 5), some (vI x1), some (vI x2), some (vO 1), some (vI x4)], mPush r1 [], h1) Q)))))) from ⟨⟨k.1, k.2.1⟩, fun c1 => (k.2.2.1 c1), fun c1 => ⟨(k.2.2.2 c1).1, fun c2 => ((k.2.2.2 c1).2.1 c2), fun c2 => ⟨(by decide), ((k.2.2.2 c1).2.2 c2)⟩⟩⟩)
theorem sg_Least_firstOfLeast_27 {sc : Nat → Int} {ar : Nat → Nat → Int} {x1 x2 x4 s0 : Int} {Q : Option mV → mH → Prop} (k : Ev 2 M_Dt_valueOf (0, [some (vA 80), some (vI x1)], [], (sc, ar)) (fun r1 h1 => Ev 3 M_Least_firstOfLeast (35, [some (vO 5), some (vI x1), some (vI x2), some (vO 1), some (vI x4)], mPush r1 [vI s0], h1) Q)) :
  Ev 3 M_Least_firstOfLeast (27, [some (vO 5), some (vI x1), some (vI x2), some (vO 1), some (vI x4)], [vI s0], (sc, ar)) Q :=
  wq_ok 200 _ _ [(3, 5), (27, 5), (35, 5)] _ _ _ _ _ (show (cO 5 = 1) ∧ (Ev 2 M_Dt_valueOf (0, [some (vA 80), some (vI x1)], [], (sc, ar)) (fun r1 h1 => Ev 3 M_Least_firstOfLeast (35, [some (vO 5), some (vI x1), some (vI x2), some (vO 1), some (vI x4)], mPush r1 [vI s0], h1) Q)) from ⟨(by decide), k⟩)
theorem sg_Least_firstOfLeast_35 {sc : Nat → Int} {ar : Nat → Nat → Int} {x1 x2 x4 s0 s1 : Int} {Q : Option mV → mH → Prop} (k : inR s1 ∧ inR s0 ∧ 
  (s1 ≠ s0 → (Ev 3 M_Least_firstOfLeast (3, [some (vO 5), some (vI x1), some (vI x2), some (vO 1), some (vI (x4 + 1))], [], (sc, ar)) Q)) ∧ 
  (¬ (s1 ≠ s0) → (Q (some (vI x4)) (sc, ar)))) :
  Ev 3 M_Least_firstOfLeast (35, [some (vO 5), some (vI x1), some (vI x2), some (vO 1), some (vI x4)], [vI s0, vI s1], (sc, ar)) Q :=
  wq_ok 200 _ _ [(3, 5), (27, 5), (35, 5)] _ _ _ _ _ (show (inR s1 ∧ inR s0) ∧ (s1 ≠ s0 → (Ev 3 M_Least_firstOfLeast (3, [some (vO 5), some (vI x1), some (vI x2), some (vO 1), some (vI (x4 + 1))], [], (sc, ar)) Q)) ∧ (¬ (s1 ≠ s0) → (Q (some (vI x4)) (sc, ar))) from ⟨⟨k.1, k.2.1⟩, fun c1 => (k.2.2.1 c1), fun c1 => (k.2.2.2 c1)⟩)
theorem sg_Least_guessWithNext_0 {sc : Nat → Int} {ar : Nat → Nat → Int} {x1 x2 x3 : Int} {Q : Option mV → mH → Prop} (k : Ev 1 M_Dt_valueOf (0, [some (vA 80), some (vI (bOr x2 (bShl 1 x1)))], [], (sc, ar)) (fun r1 h1 => Ev 2 M_Least_guessWithNext (12, [some (vO 5), some (vI x1), some (vI x2), some (vI x3), some (vO 1), none, none], mPush r1 [], h1) Q)) :
  Ev 2 M_Least_guessWithNext (0, [some (vO 5), some (vI x1), some (vI x2), some (vI x3), some (vO 1), none, none], [], (sc, ar)) Q :=
  wq_ok 200 _ _ [(12, 5), (17, 7), (42, 7)] _ _ _ _ _ (show (cO 5 = 1) ∧ (Ev 1 M_Dt_valueOf (0, [some (vA 80), some (vI (bOr x2 (bShl 1 x1)))], [], (sc, ar)) (fun r1 h1 => Ev 2 M_Least_guessWithNext (12, [some (vO 5), some (vI x1), some (vI x2), some (vI x3), some (vO 1), none, none], mPush r1 [], h1) Q)) from ⟨(by decide), k⟩)
theorem sg_Least_guessWithNext_12 {sc : Nat → Int} {ar : Nat → Nat → Int} {x1 x2 x3 s0 : Int} {Q : Option mV → mH → Prop} (k : Ev 2 M_Least_guessWithNext (17, [some (vO 5), some (vI x1), some (vI x2), some (vI x3), some (vO 1), some (vI s0), some (vI 0)], [], (sc, ar)) Q) :
  Ev 2 M_Least_guessWithNext (12, [some (vO 5), some (vI x1), some (vI x2), some (vI x3), some (vO 1), none, none], [vI s0], (sc, ar)) Q :=
  wq_ok 200 _ _ [(12, 5), (17, 7), (42, 7)] _ _ _ _ _ (show Ev 2 M_Least_guessWithNext (17, [some (vO 5), some (vI x1), some (vI x2), some (vI x3), some (vO 1), some (vI s0), some (vI 0)], [], (sc, ar)) Q from k)
theorem sg_Least_guessWithNext_17 {sc : Nat → Int} {ar : Nat → Nat → Int} {x1 x2 x3 x5 x6 : Int} {Q : Option mV → mH → Prop} (k : inR x6 ∧ inR x3 ∧ 
  (x3 ≤ x6 → (Q (some (vI x5)) (sc, ar))) ∧ 
  (¬ (x3 ≤ x6) → (inR (bAnd x2 (bShl 1 x6)) ∧ 
    ((bAnd x2 (bShl 1 x6)) ≠ 0 → (Ev 2 M_Least_guessWithNext (17, [some (vO 5), some (vI x1), some (vI x2), some (vI x3), some (vO 1), some (vI x5), some (vI (x6 + 1))], [], (sc, ar)) Q)) ∧ 
    (¬ ((bAnd x2 (bShl 1 x6)) ≠ 0) → (Ev 1 M_Table_get (0, [some (vO 1), some (vI x1), some (vI x6)], [], (sc, ar)) (fun r1 h1 => Ev 2 M_Least_guessWithNext (42, [some (vO 5), some (vI x1), some (vI x2), some (vI x3), some (vO 1), some (vI x5), some (vI x6)], mPush r1 [vI x5], h1) Q)))))) :
  Ev 2 M_Least_guessWithNext (17, [some (vO 5), some (vI x1), some (vI x2), some (vI x3), some (vO 1), some (vI x5), some (vI x6)], [], (sc, ar)) Q :=
  wq_ok 200 _ _ [(12, 5), (17, 7), (42, 7)] _ _ _ _ _ (show (inR x6 ∧ inR x3) ∧ (x3 ≤ x6 → (Q (some (vI x5)) (sc, ar))) ∧ (¬ (x3 ≤ x6) → ((inR (bAnd x2 (bShl 1 x6))) ∧ ((bAnd x2 (bShl 1 x6)) ≠ 0 → (Ev 2 M_Least_guessWithNext (17, [some (vO 5), some (vI x1), some (vI x2), some (vI x3), some (vO 1), some (vI x5), some (vI (x6 + 1))], [], (sc, ar)) Q)) ∧ (¬ ((bAnd x2 (bShl 1 x6)) ≠ 0) → ((cO 1 = mK M_Table_get) ∧ (Ev 1 M_Table_get (0, [some (vO 1), some (vI x1), some (vI x6)], [], (sc, ar)) (fun r1 h1 => Ev 2 M_Least_guessWithNext (42, [some (vO 5), some (vI x1), some (vI x2), some (vI x3), some (vO 1), some (vI x5), some (vI x6)], mPush r1 [vI x5], h1) Q)))))) from ⟨⟨k.1, k.2.1⟩, fun c1 => (k.2.2.1 c1), fun c1 => ⟨(k.2.2.2 c1).1, fun c2 => ((k.2.2.2 c1).2.1 c2), fun c2 => ⟨(by decide), ((k.2.2.2 c1).2.2 c2)⟩⟩⟩)
theorem sg_Least_guessWithNext_42 {sc : Nat → Int} {ar : Nat → Nat → Int} {x1 x2 x3 x5 x6 s0 s1 : Int} {Q : Option mV → mH → Prop} (k : Ev 2 M_Least_guessWithNext (17, [some (vO 5), some (vI x1), some (vI x2), some (vI x3), some (vO 1), some (vI (s1 + s0)), some (vI (x6 + 1))], [], (sc, ar)) Q) :
  Ev 2 M_Least_guessWithNext (42, [some (vO 5), some (vI x1), some (vI x2), some (vI x3), some (vO 1), some (vI x5), some (vI x6)], [vI s0, vI s1], (sc, ar)) Q :=
  wq_ok 200 _ _ [(12, 5), (17, 7), (42, 7)] _ _ _ _ _ (show Ev 2 M_Least_guessWithNext (17, [some (vO 5), some (vI x1), some (vI x2), some (vI x3), some (vO 1), some (vI (s1 + s0)), some (vI (x6 + 1))], [], (sc, ar)) Q from k)

/-! what the calls rest on: tasks, ranges, answers -/
def tk (N : Nat) (x : Int) : Prop := 0 ≤ x ∧ x < (N : Int)
theorem tk_nat {N : Nat} {x : Int} (h : tk N x) : ∃ p : Nat, x = (p : Int) ∧ p < N := ⟨x.toNat, by have := h.1; omega, by have := h.1; have := h.2; omega⟩
theorem tk_of {N p : Nat} (h : p < N) : tk N (p : Int) := ⟨by omega, by omega⟩
noncomputable def aTwo (N : Nat) (x1 x2 v : Int) : Int := @ite _ (tk N x1 ∧ tk N x2) (Classical.propDecidable _) v (-1)
theorem aTwo_no {N : Nat} {x1 x2 : Int} (h : ¬ (tk N x1 ∧ tk N x2)) (v : Int) : aTwo N x1 x2 v = -1 := if_neg h
theorem aTwo_yes {N : Nat} {x1 x2 : Int} (h1 : tk N x1) (h2 : tk N x2) (v : Int) : aTwo N x1 x2 v = v := if_pos ⟨h1, h2⟩
noncomputable def aOne (N : Nat) (x1 e v : Int) : Int := @ite _ (tk N x1) (Classical.propDecidable _) v e
theorem aOne_no {N : Nat} {x1 e : Int} (h : ¬ tk N x1) (v : Int) : aOne N x1 e v = e := if_neg h
theorem aOne_yes {N : Nat} {x1 e : Int} (h1 : tk N x1) (v : Int) : aOne N x1 e v = v := if_pos h1
/-- where a task stands in an order -/
def pl (N : Nat) (od : Nat → Int) (t : Nat) : Nat := ff (fun p => decide (od p = t)) N 0
theorem pl_ok {N : Nat} {od : Nat → Int} (h : OD (N : Int) od) {t : Nat} (ht : t < N) : pl N od t < N ∧ od (pl N od t) = t := by
  obtain ⟨p, hp, e⟩ := h.has (t := (t : Int)) (by omega) (by omega)
  have := ff_ok (P := fun p => decide (od p = t)) N 0 ⟨p, by omega, by omega, by simpa using e⟩
  exact ⟨by unfold pl; omega, by unfold pl; simpa using this.1⟩
theorem GS_bd {nd od : Nat → Int} {N : Nat} (hR : R9 nd) (hN : N ≤ 8) (ho : OD (N : Int) od) : 0 ≤ GS nd od N ∧ GS nd od N ≤ 1000 := by
  have h1 : ∀ p, p < N → 0 ≤ sm (rowG nd od p) N ∧ sm (rowG nd od p) N ≤ 72 := fun p hp => by
    have := sm_bd (f := rowG nd od p) (b := 9) N (fun q hq => by
      have a1 := ho.1 p (by omega)
      have a2 := ho.1 q (by omega)
      have := hR.at (show (od p).toNat < 8 by omega) (show (od q).toNat < 8 by omega)
      unfold rowG ndo
      split <;> omega)
    omega
  have := sm_bd (f := fun p => sm (rowG nd od p) N) (b := 72) N h1
  unfold GS
  omega
theorem told_bd {a b u : Int} (ha : 0 ≤ a ∧ a < 1000000000000) (hb : 0 < b ∧ b < 1000000000000) : inL (toldF a b u) := by
  have h1 := gc_pos 80 a b ha.1 (by omega) (Or.inr hb.1) (gD80 ha.1 (by omega) hb.2)
  have t : ∀ x : Int, 0 ≤ x → x < 1000000000000 → 0 ≤ x.tdiv (gc 80 a b) ∧ x.tdiv (gc 80 a b) ≤ x := fun x hx _ => by
    refine ⟨Int.tdiv_nonneg hx (by omega), ?_⟩
    rw [Int.tdiv_eq_ediv_of_nonneg hx]
    exact Int.ediv_le_self _ hx
  have t1 := t a ha.1 ha.2
  have t2 := t b (by omega) hb.2
  unfold toldF
  split <;> omega
section BASE3
variable {sc : Nat → Int} {ar : Nat → Nat → Int} {Q : Option mV → mH → Prop} {d N : Nat} {x : Int}
theorem ct_isTask (hN : N ≤ 8) (h10 : sc 10 = (N : Int)) (i : inR x) (k1 : tk N x → Q (some (vI 1)) (sc, ar)) (k0 : ¬ tk N x → Q (some (vI 0)) (sc, ar)) : Ev d M_Dt_isTask (0, [some (vO 0), some (vI x)], [], (sc, ar)) Q :=
  Ev.deep (Nat.zero_le d) (sg_Dt_isTask_0 ⟨i, fun c => k0 (fun z => by have := z.1; omega), fun c => ⟨i, by omega, fun c2 => k0 (fun z => by have := z.2; omega), fun c2 => ⟨i, fun c3 => by omega, fun _ => k1 ⟨by omega, by omega⟩⟩⟩⟩)
theorem ct_isTime (i : inR x) (k1 : 1 ≤ x ∧ x ≤ 20 → Q (some (vI 1)) (sc, ar)) (k0 : ¬ (1 ≤ x ∧ x ≤ 20) → Q (some (vI 0)) (sc, ar)) : Ev d M_Dt_isTime (0, [some (vI x)], [], (sc, ar)) Q :=
  Ev.deep (Nat.zero_le d) (sg_Dt_isTime_0 ⟨i, fun c => k0 (by omega), fun c => ⟨i, fun c2 => k0 (by omega), fun c2 => k1 (by omega)⟩⟩)
theorem ct_isTeamSize (i : inR x) (k1 : 1 ≤ x ∧ x ≤ 8 → Q (some (vI 1)) (sc, ar)) (k0 : ¬ (1 ≤ x ∧ x ≤ 8) → Q (some (vI 0)) (sc, ar)) : Ev d M_Dt_isTeamSize (0, [some (vI x)], [], (sc, ar)) Q :=
  Ev.deep (Nat.zero_le d) (sg_Dt_isTeamSize_0 ⟨i, fun c => k0 (by omega), fun c => ⟨i, fun c2 => k0 (by omega), fun c2 => k1 (by omega)⟩⟩)
theorem lp_times : ∀ j i : Nat, i + j = 8 → Q (some (vI (sm (ar 0) 8))) (sc, ar) → Ev 0 M_Dt_sumOfTimes (13, [some (vO 0), some (vI (sm (ar 0) i)), some (vA 0), some (vI 8), some (vI i), none], [], (sc, ar)) Q := by
  intro j
  induction j with
  | zero =>
    intro i hi k
    have : i = 8 := by omega
    subst this
    exact sg_Dt_sumOfTimes_13 ⟨by omega, by omega, fun _ => k, fun c => by omega⟩
  | succ j ih =>
    intro i hi k
    have h1 := ih (i + 1) (by omega) k
    refine sg_Dt_sumOfTimes_13 ⟨by omega, by omega, fun c => by omega, fun _ => ⟨by omega, by omega, ?_⟩⟩
    rw [Int.toNat_natCast]
    exact h1
theorem ct_times (k : Q (some (vI (sm (ar 0) 8))) (sc, ar)) : Ev d M_Dt_sumOfTimes (0, [some (vO 0), none, none, none, none, none], [], (sc, ar)) Q :=
  Ev.deep (Nat.zero_le d) (sg_Dt_sumOfTimes_0 (lp_times 8 0 (by omega) k))
theorem ct_in {lo hi : Int} (i : inR x) (i1 : inR lo) (i2 : inR hi) (k1 : lo ≤ x ∧ x ≤ hi → Q (some (vI 1)) (sc, ar)) (k0 : ¬ (lo ≤ x ∧ x ≤ hi) → Q (some (vI 0)) (sc, ar)) : Ev d M_Md_in (0, [some (vL x), none, some (vL lo), none, some (vL hi), none], [], (sc, ar)) Q :=
  Ev.deep (Nat.zero_le d) (sg_Md_in_0 ⟨by omega, by omega, fun c => k0 (by omega), fun c => ⟨by omega, by omega, fun c2 => k0 (by omega), fun c2 => k1 (by omega)⟩⟩)
theorem ct_no (hN : N ≤ 8) (h177 : sc 177 = (N : Int)) (i : inR x) (k1 : tk N x → Q (some (vI 0)) (sc, ar)) (k0 : ¬ tk N x → Q (some (vI 1)) (sc, ar)) : Ev (d + 1) M_Md_no (0, [some (vO 11), some (vI x)], [], (sc, ar)) Q := by
  refine Ev.deep (Nat.le_add_left 1 d) (sg_Md_no_0 ⟨i, by omega, ct_in i (by omega) (by omega) (fun c => sg_Md_no_13 ⟨by omega, fun _ => k1 ?_, fun c => absurd (by decide) c⟩) (fun c => sg_Md_no_13 ⟨by omega, fun c => absurd rfl c, fun _ => k0 ?_⟩)⟩)
  · exact ⟨c.1, by have := c.2; omega⟩
  · intro z
    exact c ⟨z.1, by have := z.2; omega⟩
end BASE3

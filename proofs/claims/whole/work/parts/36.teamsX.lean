/-! TEAMS: the class -/
/-- what the search for teams leaves as it was -/
def TFr (sc : Nat → Int) (ar : Nat → Nat → Int) (sc2 : Nat → Int) (ar2 : Nat → Nat → Int) : Prop := (∀ i, i ≠ 149 → i ≠ 150 → sc2 i = sc i) ∧ ∀ a, a ≠ 144 → a ≠ 145 → a ≠ 146 → ar2 a = ar a
theorem TFr.rf {sc : Nat → Int} {ar : Nat → Nat → Int} : TFr sc ar sc ar := ⟨fun _ _ _ => rfl, fun _ _ _ _ => rfl⟩
theorem TFr.tr {sc sc2 sc3 : Nat → Int} {ar ar2 ar3 : Nat → Nat → Int} (h : TFr sc ar sc2 ar2) (h2 : TFr sc2 ar2 sc3 ar3) : TFr sc ar sc3 ar3 := ⟨fun i a b => (h2.1 i a b).trans (h.1 i a b), fun i a b c => (h2.2 i a b c).trans (h.2 i a b c)⟩
theorem TFr.pe {sc sc2 : Nat → Int} {ar ar2 : Nat → Nat → Int} (h : TFr sc ar sc2 ar2) : Pe sc ar sc2 ar2 := ⟨fun i hi => h.1 i (fun e => by rw [e] at hi; revert hi; decide) (fun e => by rw [e] at hi; revert hi; decide), fun a ha => h.2 a (fun e => by rw [e] at ha; revert ha; decide) (fun e => by rw [e] at ha; revert ha; decide) (fun e => by rw [e] at ha; revert ha; decide)⟩
theorem TFr.a {sc sc2 : Nat → Int} {ar ar2 : Nat → Nat → Int} (h : TFr sc ar sc2 ar2) (a : Nat) (f : Nat → Int) (ha : a = 144 ∨ a = 145 ∨ a = 146) : TFr sc ar sc2 (up ar2 a f) := ⟨h.1, fun i h1 h2 h3 => by
  rw [up_ne _ _ (by omega)]
  exact h.2 i h1 h2 h3⟩
theorem TFr.s {sc sc2 : Nat → Int} {ar ar2 : Nat → Nat → Int} (h : TFr sc ar sc2 ar2) (a : Nat) (v : Int) (ha : a = 149 ∨ a = 150) : TFr sc ar (up sc2 a v) ar2 := ⟨fun i h1 h2 => by
  rw [up_ne _ _ (by omega)]
  exact h.1 i h1 h2, h.2⟩
section TEAMX
variable {nd : Nat → Int} {N : Nat} {kk : Int}
theorem lp_cut {sc : Nat → Int} {ar : Nat → Nat → Int} {Q : Option mV → mH → Prop} {t : Nat} {v : Int} (hnd : ar 16 = nd) (ht : t < 8) (hp : ∀ o, o < t → inR (ar 144 o)) (hv : inR v) (k : Q (some (vI (tcb nd (ar 144) t v t))) (sc, ar)) : ∀ j i : Nat, i + j = t → Ev 3 M_Team_cutBefore (6, [some (vO 9), some (vI t), some (vI v), some (vO 1), some (vI (tcb nd (ar 144) t v i)), some (vI i)], [], (sc, ar)) Q := by
  intro j
  induction j with
  | zero =>
    intro i hi
    have : i = t := by omega
    subst this
    exact sg_Team_cutBefore_6 ⟨by omega, by omega, fun _ => k, fun c => by omega⟩
  | succ j ih =>
    intro i hi
    have h1 := ih (i + 1) (by omega)
    have e : tcb nd (ar 144) t v (i + 1) = tcb nd (ar 144) t v i + (if ar 144 i = v then 0 else nd (8 * t + i) + nd (8 * i + t)) := rfl
    rw [e] at h1
    refine sg_Team_cutBefore_6 ⟨by omega, by omega, fun c => by omega, fun _ => ⟨by omega, fun c => by omega, fun _ => ⟨by omega, by omega, by rw [Int.toNat_natCast]; exact hp i (by omega), hv, fun c => ?_, fun c => ?_⟩⟩⟩
    · rw [Int.toNat_natCast] at c
      rw [if_pos c] at h1
      exact h1
    · rw [Int.toNat_natCast] at c
      rw [if_neg c] at h1
      refine ct_bothWays (by omega) (by omega) (sg_Team_cutBefore_39 ?_)
      rw [hnd, show (8 * (t : Int) + (i : Int)).toNat = 8 * t + i by omega, show (8 * (i : Int) + (t : Int)).toNat = 8 * i + t by omega]
      exact h1
theorem ct_cut {d : Nat} {sc : Nat → Int} {ar : Nat → Nat → Int} {Q : Option mV → mH → Prop} {t : Nat} {v : Int} (hnd : ar 16 = nd) (ht : t < 8) (hp : ∀ o, o < t → inR (ar 144 o)) (hv : inR v) (k : Q (some (vI (tcb nd (ar 144) t v t))) (sc, ar)) : Ev (d + 3) M_Team_cutBefore (0, [some (vO 9), some (vI t), some (vI v), some (vO 1), none, none], [], (sc, ar)) Q :=
  Ev.deep (Nat.le_add_left 3 d) (sg_Team_cutBefore_0 (lp_cut hnd ht hp hv k t 0 (by omega)))
theorem ct_mayBe {d : Nat} {sc : Nat → Int} {ar : Nat → Nat → Int} {Q : Option mV → mH → Prop} {m c : Int} (hm : inR m) (hc : inR c) (hB : inR (sc 149)) (hF : inR (sc 150)) (k1 : (c < sc 149 ∨ (c = sc 149 ∧ m < sc 150)) → Q (some (vI 1)) (sc, ar)) (k0 : (sc 149 < c ∨ (sc 149 = c ∧ sc 150 ≤ m)) → Q (some (vI 0)) (sc, ar)) : Ev d M_Team_mayBeBetter (0, [some (vO 9), some (vI m), some (vI c)], [], (sc, ar)) Q :=
  Ev.deep (Nat.zero_le d) (sg_Team_mayBeBetter_0 ⟨hc, hB, fun q => k1 (Or.inl q), fun q => ⟨hc, hB, fun q2 => k0 (by omega), fun q2 => ⟨hm, hF, fun q3 => k0 (by omega), fun q3 => k1 (by omega)⟩⟩⟩)
/-- what assign is begun with -/
def TA (nd : Nat → Int) (N : Nat) (kk : Int) (t : Nat) (sc : Nat → Int) (ar : Nat → Nat → Int) : Prop := sc 147 = (N : Int) ∧ sc 148 = kk ∧ ar 16 = nd ∧ trg (ar 144) t ∧ (∀ v : Nat, v < 8 → ar 146 v = tct (ar 144) v t) ∧ ∀ v : Nat, v < 8 → tct (ar 144) v t ≤ kk
abbrev tIC (sc : Nat → Int) : Prop := sc 149 = 1000000 ∧ sc 150 = 1000000
theorem tS_rng {sc : Nat → Int} {P : (Nat → Int) → Prop} {w : Nat → Int} (hR : R9 nd) (hN : N ≤ 8) (h : tS nd N kk (tIC sc) P (sc 149) (sc 150) w) : (0 ≤ sc 149 ∧ sc 149 ≤ 1000000) ∧ 0 ≤ sc 150 ∧ sc 150 ≤ 1000000 := by
  rcases h with ⟨_, h1, h2⟩ | h
  · omega
  · have := tbs_bd hR hN h
    omega
theorem tS_prune {sc : Nat → Int} {p w : Nat → Int} {t : Nat} (hR : R9 nd) (hN : N ≤ 8) (ht : t ≤ N) (hp : trg p t) (h : tS nd N kk (tIC sc) (fun r => tcd r t < tcd p t) (sc 149) (sc 150) w) (hb : sc 149 < tcs nd p t ∨ (sc 149 = tcs nd p t ∧ sc 150 ≤ tmx p t)) : tS nd N kk (tIC sc) (fun r => tcd r t ≤ tcd p t) (sc 149) (sc 150) w := by
  have hc := tcs_bd (r := p) hR t (by omega)
  refine tS_old h (fun r _ q => Int.le_of_lt q) (fun r hr q => ?_)
  by_cases e : tcd r t = tcd p t
  · have e1 := tcd_eq t (by omega) (trg_le hr.1 ht) hp e
    have e2 := tcs_congr (nd := nd) t e1
    have e3 := tmx_congr t e1
    have e4 := tcs_mono (r := r) hR N ht hN
    have e5 := tmx_mono (r := r) N ht
    refine Or.inr ⟨fun hn => ?_, by omega, fun u hu hu2 => ?_⟩
    · rcases h with ⟨_, h1, _⟩ | ⟨h1, h2, _⟩
      · omega
      · exact hn _ h1 h2
    · have : tcd u t < tcd r t := by
        have : tcd u t < tcd p t := hu2
        omega
      have := tcd_lt N ht hN hu.1 hr.1 this
      omega
  · have q2 : tcd r t ≤ tcd p t := q
    exact Or.inl (by show tcd r t < tcd p t; omega)
set_option maxHeartbeats 1000000 in
theorem ct_assign (hR : R9 nd) (hN : N ≤ 8) (hkk : inR kk) : ∀ j t : Nat, t + j = N → ∀ (d : Nat) (sc : Nat → Int) (ar : Nat → Nat → Int) (Q : Option mV → mH → Prop), TA nd N kk t sc ar → tS nd N kk (tIC sc) (fun r => tcd r t < tcd (ar 144) t) (sc 149) (sc 150) (ar 145) →
    (∀ sc2 ar2, TFr sc ar sc2 ar2 → (∀ o, o < t → ar2 144 o = ar 144 o) → (∀ v : Nat, v < 8 → ar2 146 v = ar 146 v) → tS nd N kk (tIC sc2) (fun r => tcd r t ≤ tcd (ar 144) t) (sc2 149) (sc2 150) (ar2 145) → Q none (sc2, ar2)) →
    Ev (d + j + 4) M_Team_assign (0, [some (vO 9), some (vO 1), some (vI t), some (vI (tmx (ar 144) t)), some (vI (tcs nd (ar 144) t)), none, none], [], (sc, ar)) Q := by
  intro j
  induction j with
  | zero =>
    intro t ht d sc ar Q hA hS k
    obtain ⟨a1, a2, a3, a4, a5, a6⟩ := hA
    have htN : t = N := by omega
    have r1 := tS_rng hR hN hS
    have r2 := tmx_bd t a4
    have r3 := tcs_bd (r := ar 144) hR t (by omega)
    refine sgd_Team_assign_0 (ct_mayBe (by omega) (by omega) (by omega) (by omega) (fun hb => sgd_Team_assign_7 ⟨by omega, fun _ => ⟨by omega, fun c => by omega, fun _ => ⟨by omega, by omega, fun c => ?_, fun c => by omega⟩⟩, fun c => absurd (by decide) c⟩) (fun hb => sgd_Team_assign_7 ⟨by omega, fun c => absurd rfl c, fun _ => k sc ar TFr.rf (fun _ _ => rfl) (fun _ _ => rfl) (tS_prune hR hN (by omega) a4 hS hb)⟩))
    refine Ev.deep (Nat.zero_le _) (sg_Team_keep_0 (sgd_Team_assign_36 (k _ _ ((TFr.rf.s 149 _ (Or.inl rfl)).s 150 _ (Or.inr rfl) |>.a 145 _ (Or.inr (Or.inl rfl))) (fun o ho => by rw [up_ne _ _ (by decide)]) (fun v hv => by rw [up_ne _ _ (by decide)]) ?_)))
    have hT : TOK N kk (ar 144) := by
      rw [← htN]
      exact ⟨a4, a6⟩
    refine Or.inr ?_
    rw [up_eq, up_eq, up_ne (up sc 149 (tcs nd (ar 144) t)) _ (show (149 : Nat) ≠ 150 by decide), up_eq]
    have hw : ∀ i, i < N → cpy (ar 144) (ar 145) (0 : Int).toNat (0 : Int).toNat (8 : Int).toNat i = ar 144 i := fun i hi => by
      unfold cpy
      rw [if_pos ⟨by simp, by simp; omega⟩]
      simp
    subst htN
    refine tS_new hN hS hT (fun r hr q => ?_) ?_ hw (Or.inr hb)
    · have q2 : tcd r t ≤ tcd (ar 144) t := q
      by_cases e : tcd r t = tcd (ar 144) t
      · exact Or.inr e
      · exact Or.inl (by show tcd r t < tcd (ar 144) t; omega)
    · show tcd _ t ≤ tcd (ar 144) t
      rw [tcd_congr t hw]
      exact Int.le_refl _
  | succ j ih =>
    intro t ht d sc ar Q hA hS k
    obtain ⟨a1, a2, a3, a4, a5, a6⟩ := hA
    have r1 := tS_rng hR hN hS
    have r2 := tmx_bd t a4
    have r3 := tcs_bd (r := ar 144) hR t (by omega)
    have dig : ∀ r, TOK N kk r → 0 ≤ r t ∧ r t < 8 := fun r hr => by
      have := trg_at hr.1 (show t < N by omega)
      omega
    have lp : ∀ (i v : Nat), (v : Int) + i = tmx (ar 144) t + 1 → ∀ sc1 ar1, TFr sc ar sc1 ar1 → (∀ o, o < t → ar1 144 o = ar 144 o) → (∀ v : Nat, v < 8 → ar1 146 v = ar 146 v) → tS nd N kk (tIC sc1) (fun r => tcd r t < tcd (ar 144) t ∨ (tcd r t = tcd (ar 144) t ∧ r t < v)) (sc1 149) (sc1 150) (ar1 145) →
        Ev (d + j + 4 + 1) M_Team_assign (40, [some (vO 9), some (vO 1), some (vI t), some (vI (tmx (ar 144) t)), some (vI (tcs nd (ar 144) t)), some (vI v), none], [], (sc1, ar1)) Q := by
      intro i
      induction i with
      | zero =>
        intro v hv sc1 ar1 b1 b2 b3 b4
        refine sgd_Team_assign_40 ⟨by omega, by omega, fun _ => k sc1 ar1 b1 b2 b3 (tS_iff b4 (fun r hr => ⟨fun q => ?_, fun q => ?_⟩)), fun c => by omega⟩
        · show tcd r t ≤ tcd (ar 144) t
          omega
        · have q2 : tcd r t ≤ tcd (ar 144) t := q
          by_cases e : tcd r t = tcd (ar 144) t
          · have e1 := tmx_congr t (tcd_eq t (by omega) (trg_le hr.1 (by omega)) a4 e)
            have e2 := hr.1 t (by omega)
            exact Or.inr ⟨e, by omega⟩
          · exact Or.inl (by omega)
      | succ i ihv =>
        intro v hv sc1 ar1 b1 b2 b3 b4
        have hv8 : v < 8 := by omega
        have c147 : sc1 147 = (N : Int) := (b1.1 147 (by decide) (by decide)).trans a1
        have c148 : sc1 148 = kk := (b1.1 148 (by decide) (by decide)).trans a2
        have c16 : ar1 16 = nd := (b1.2 16 (by decide) (by decide) (by decide)).trans a3
        have hz := (b3 v hv8).trans (a5 v hv8)
        have hzb := tct_bd (r := ar 144) (v := v) t
        refine sgd_Team_assign_40 ⟨by omega, by omega, fun c => by omega, fun _ => ⟨by omega, fun c => by omega, fun _ => ⟨by omega, by omega, by rw [Int.toNat_natCast, hz]; omega, by rw [c148]; exact hkk, fun c => ?_, fun c => ⟨by omega, by omega, by omega, by omega, by omega, by omega, ?_⟩⟩⟩⟩
        · rw [Int.toNat_natCast, hz, c148] at c
          refine ihv (v + 1) (by omega) sc1 ar1 b1 b2 b3 (tS_old b4 (fun r _ q => ?_) (fun r hr q => Or.inl ?_))
          · rcases q with q | q
            · exact Or.inl q
            · exact Or.inr ⟨q.1, by omega⟩
          · rcases q with q | q
            · exact Or.inl q
            · refine Or.inr ⟨q.1, ?_⟩
              by_cases e : r t = v
              · exfalso
                have e1 := tct_congr (v := v) (tcd_eq t (by omega) (trg_le hr.1 (by omega)) a4 q.1)
                have e2 := tct_mono (r := r) (v := v) (n := t + 1) N (by omega)
                have e3 := hr.2 v hv8
                rw [tct_succ, if_pos e] at e2
                omega
              · omega
        · rw [Int.toNat_natCast, Int.toNat_natCast]
          have p1 : ∀ o, o < t → up (ar1 144) t (v : Int) o = ar 144 o := fun o ho => by
            rw [up_ne _ _ (by omega)]
            exact b2 o ho
          have p2 : up (ar1 144) t (v : Int) t = v := up_eq _ _ _
          have m1 : tmx (up (ar1 144) t (v : Int)) t = tmx (ar 144) t := tmx_congr t p1
          have m2 : tmx (up (ar1 144) t (v : Int)) (t + 1) = if tmx (ar 144) t < (v : Int) + 1 then (v : Int) + 1 else tmx (ar 144) t := by
            simp only [tmx]
            rw [m1, p2]
          have s1 : tcs nd (up (ar1 144) t (v : Int)) (t + 1) = tcs nd (ar 144) t + tcb nd (up (ar1 144) t (v : Int)) t v t := by
            simp only [tcs]
            rw [tcs_congr t p1, p2]
          have g1 : trg (up (ar1 144) t (v : Int)) t := trg_congr (fun o ho => (p1 o ho).symm) a4
          have g2 : trg (up (ar1 144) t (v : Int)) (t + 1) := fun o ho => by
            by_cases e : o = t
            · rw [e, p2, m1]
              omega
            · exact g1 o (by omega)
          have z1 : ∀ u : Nat, tct (up (ar1 144) t (v : Int)) u (t + 1) = tct (ar 144) u t + if (v : Int) = u then 1 else 0 := fun u => by
            rw [tct_succ, tct_congr p1, p2]
          have d1 : tcd (up (ar1 144) t (v : Int)) (t + 1) = 8 * tcd (ar 144) t + v := by
            simp only [tcd]
            rw [tcd_congr t p1, p2]
          have e144 : up (up ar1 144 (up (ar1 144) t (v : Int))) 146 (up (ar1 146) v (ar1 146 v + 1)) 144 = up (ar1 144) t (v : Int) := by
            rw [up_ne _ _ (by decide), up_eq]
          have e146 : up (up ar1 144 (up (ar1 144) t (v : Int))) 146 (up (ar1 146) v (ar1 146 v + 1)) 146 = up (ar1 146) v (ar1 146 v + 1) := up_eq _ _ _
          have e145 : up (up ar1 144 (up (ar1 144) t (v : Int))) 146 (up (ar1 146) v (ar1 146 v + 1)) 145 = ar1 145 := by
            rw [up_ne _ _ (by decide), up_ne _ _ (by decide)]
          have hc := tcb_bd (r := up (ar1 144) t (v : Int)) (v := v) hR (show t < 8 by omega) t (by omega)
          refine ct_cut (nd := nd) (by rw [up_ne _ _ (by decide), up_ne _ _ (by decide)]; exact c16) (by omega) (fun o ho => by
            rw [e144, p1 o ho]
            have := trg_at a4 ho
            omega) (by omega) (sgd_Team_assign_94 ⟨by omega, by omega, ?_⟩)
          rw [e144, ← m2, ← s1]
          have := ih (t + 1) (by omega) d sc1 (up (up ar1 144 (up (ar1 144) t (v : Int))) 146 (up (ar1 146) v (ar1 146 v + 1))) (fun r1 h1 => Ev (d + j + 4 + 1) M_Team_assign (117, [some (vO 9), some (vO 1), some (vI t), some (vI (tmx (ar 144) t)), some (vI (tcs nd (ar 144) t)), some (vI v), some (vI (tcb nd (up (ar1 144) t (v : Int)) t v t))], mPush r1 [], h1) Q) ⟨c147, c148, by rw [up_ne _ _ (by decide), up_ne _ _ (by decide)]; exact c16, by rw [e144]; exact g2, fun u hu => by
              rw [e146, e144, z1 u]
              by_cases e : u = v
              · rw [e, up_eq, hz, if_pos rfl]
              · rw [up_ne _ _ e, b3 u hu, a5 u hu, if_neg (by omega), Int.add_zero], fun u hu => by
              rw [e144, z1 u]
              have := a6 u hu
              rw [Int.toNat_natCast, hz, c148] at c
              by_cases e : u = v
              · rw [e, if_pos rfl]
                omega
              · rw [if_neg (by omega)]
                omega⟩ (by
              rw [e144, e145]
              refine tS_iff b4 (fun r hr => ?_)
              have := dig r hr
              show _ ↔ tcd r (t + 1) < _
              rw [d1]
              simp only [tcd]
              omega) (fun sc2 ar2 f1 f2 f3 f4 => by
              rw [e144] at f2 f4
              rw [e146] at f3
              refine sgd_Team_assign_117 ⟨by omega, by omega, by omega, by omega, ?_⟩
              rw [Int.toNat_natCast]
              refine ihv (v + 1) (by omega) sc2 _ (((b1.a 144 _ (Or.inl rfl)).a 146 _ (Or.inr (Or.inr rfl))).tr f1 |>.a 146 _ (Or.inr (Or.inr rfl))) (fun o ho => ?_) (fun u hu => ?_) ?_
              · rw [up_ne _ _ (by decide), f2 o (by omega)]
                exact p1 o ho
              · rw [up_eq]
                by_cases e : u = v
                · rw [e, up_eq, f3 v hv8, up_eq, b3 v hv8]
                  omega
                · rw [up_ne _ _ e, f3 u hu, up_ne _ _ e]
                  exact b3 u hu
              · rw [up_ne _ _ (by decide)]
                refine tS_iff f4 (fun r hr => ?_)
                have := dig r hr
                show tcd r (t + 1) ≤ _ ↔ _
                rw [d1]
                simp only [tcd]
                omega)
          exact this
    refine sgd_Team_assign_0 (ct_mayBe (by omega) (by omega) (by omega) (by omega) (fun hb => sgd_Team_assign_7 ⟨by omega, fun _ => ⟨by omega, fun c => by omega, fun _ => ⟨by omega, by omega, fun c => by omega, fun _ => ⟨by omega, fun _ => ?_, fun c => by omega⟩⟩⟩, fun c => absurd (by decide) c⟩) (fun hb => sgd_Team_assign_7 ⟨by omega, fun c => absurd rfl c, fun _ => k sc ar TFr.rf (fun _ _ => rfl) (fun _ _ => rfl) (tS_prune hR hN (by omega) a4 hS hb)⟩))
    refine lp ((tmx (ar 144) t).toNat + 1) 0 (by omega) sc ar TFr.rf (fun _ _ => rfl) (fun _ _ => rfl) (tS_iff hS (fun r hr => ⟨fun q => Or.inl q, fun q => ?_⟩))
    have := dig r hr
    rcases q with q | q
    · exact q
    · omega
/-- what the class's search finds -/
theorem ct_teamFind {d : Nat} {sc : Nat → Int} {ar : Nat → Nat → Int} {Q : Option mV → mH → Prop} (hR : R9 nd) (hN : N ≤ 8) (hnd : ar 16 = nd) (hk : 1 ≤ kk ∧ kk ≤ 8) (k : ∀ sc2 ar2, Pe sc ar sc2 ar2 → tbs nd N kk (fun _ => True) (sc2 149) (sc2 150) (ar2 145) → Q none (sc2, ar2)) : Ev (d + 13) M_Team_find (0, [some (vO 9), some (vI N), some (vO 1), some (vI kk)], [], (sc, ar)) Q := by
  refine sgd_Team_find_0 (ct_fillI (n := 8) (by decide) (by decide) (fun _ _ => rfl) (by decide) 0 (sgd_Team_find_8 ⟨by omega, ?_⟩))
  rw [if_neg (show ¬ 8 < (N : Int) by omega)]
  have e : (d + 12) = (d + 8 - N) + N + 4 := by omega
  rw [e]
  refine ct_assign (kk := kk) hR hN (by omega) N 0 (by omega) _ _ _ _ ⟨?_, ?_, ?_, fun t ht => by omega, fun v hv => ?_, fun v hv => ?_⟩ (Or.inl ⟨fun r _ => Int.lt_irrefl _, ?_, ?_⟩) (fun sc2 ar2 f1 f2 f3 f4 => sgd_Team_find_43 (k sc2 ar2 ?_ ?_))
  · rw [up_ne _ _ (by decide), up_ne _ _ (by decide), up_ne _ _ (by decide), up_eq]
  · rw [up_ne _ _ (by decide), up_ne _ _ (by decide), up_eq]
  · rw [up_ne _ _ (by decide)]
    exact hnd
  · rw [up_eq, wr_at, if_pos hv]
    rfl
  · show (0 : Int) ≤ kk
    omega
  · rw [up_ne _ _ (by decide), up_eq]
  · rw [up_eq]
  · exact (((((Pe.rf.a 146 _).s 147 _).s 148 _).s 149 _).s 150 _).tr f1.pe
  · have := tS_end (by omega) f4 (fun r _ => Int.le_refl _)
    obtain ⟨g1, _, g3, g4, g5⟩ := this
    exact ⟨g1, trivial, g3, g4, fun r hr _ => g5 r hr (Int.le_refl _)⟩
end TEAMX

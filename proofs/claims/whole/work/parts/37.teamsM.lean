/-! TEAMS: the reference -/
section TEAMM
variable {nd : Nat → Int} {N : Nat} {kk : Int} {sc : Nat → Int} {ar : Nat → Nat → Int} {Q : Option mV → mH → Prop} {d : Nat}
theorem lp_between {r : Nat → Int} {a : Nat} (hN : N ≤ 8) (hn : sc 177 = (N : Int)) (hnd : ar 179 = nd) (hr : ar 188 = r) (hg : trg r N) (ha : a < N) (base : Int) (k : Ev 0 M_Md_betweenOf (4, [some (vO 11), some (vI (base + sm (fun b => if r a = r b then 0 else nd (8 * a + b)) N)), some (vI ((a : Int) + 1)), none], [], (sc, ar)) Q) : ∀ j i : Nat, i + j = N → Ev 0 M_Md_betweenOf (14, [some (vO 11), some (vI (base + sm (fun b => if r a = r b then 0 else nd (8 * a + b)) i)), some (vI a), some (vI i)], [], (sc, ar)) Q := by
  intro j
  induction j with
  | zero =>
    intro i hi
    have : i = N := by omega
    subst this
    exact sg_Md_betweenOf_14 ⟨by omega, by omega, fun _ => k, fun c => by omega⟩
  | succ j ih =>
    intro i hi
    have h1 := ih (i + 1) (by omega)
    simp only [sm] at h1
    have g1 := trg_at hg ha
    have g2 := trg_at hg (show i < N by omega)
    refine sg_Md_betweenOf_14 ⟨by omega, by omega, fun c => by omega, fun _ => ⟨by omega, by omega, by omega, by omega, ?_⟩⟩
    rw [hr, hnd, Int.toNat_natCast, Int.toNat_natCast, show (8 * (a : Int) + (i : Int)).toNat = 8 * a + i by omega]
    refine ⟨by omega, by omega, fun c => ?_, fun c => ⟨by omega, by omega, ?_⟩⟩
    · rw [if_pos c, ← Int.add_assoc] at h1
      exact h1
    · rw [if_neg c, ← Int.add_assoc] at h1
      exact h1
theorem lp_betweenA {r : Nat → Int} (hN : N ≤ 8) (hn : sc 177 = (N : Int)) (hnd : ar 179 = nd) (hr : ar 188 = r) (hg : trg r N) (k : Q (some (vI (tcs nd r N))) (sc, ar)) : ∀ j a : Nat, a + j = N → Ev 0 M_Md_betweenOf (4, [some (vO 11), some (vI (sm (fun a => sm (fun b => if r a = r b then 0 else nd (8 * a + b)) N) a)), some (vI a), none], [], (sc, ar)) Q := by
  intro j
  induction j with
  | zero =>
    intro a ha
    have : a = N := by omega
    subst this
    rw [tw_eq]
    exact sg_Md_betweenOf_4 ⟨by omega, by omega, fun _ => k, fun c => by omega⟩
  | succ j ih =>
    intro a ha
    have h1 := ih (a + 1) (by omega)
    simp only [sm] at h1
    refine sg_Md_betweenOf_4 ⟨by omega, by omega, fun c => by omega, fun _ => ?_⟩
    have := lp_between hN hn hnd hr hg (show a < N by omega) _ h1 N 0 (by omega)
    simp only [sm, Int.add_zero] at this
    exact this
theorem ct_betweenOf {r : Nat → Int} (hN : N ≤ 8) (hn : sc 177 = (N : Int)) (hnd : ar 179 = nd) (hr : ar 188 = r) (hg : trg r N) (k : Q (some (vI (tcs nd r N))) (sc, ar)) : Ev d M_Md_betweenOf (0, [some (vO 11), none, none, none], [], (sc, ar)) Q :=
  Ev.deep (Nat.zero_le d) (sg_Md_betweenOf_0 (lp_betweenA hN hn hnd hr hg k N 0 (by omega)))
theorem lp_teamsOfI {r : Nat → Int} {t : Nat} {n : Int} (hN : N ≤ 8) (hk : 1 ≤ kk ∧ kk ≤ 8) (hn : sc 177 = (N : Int)) (hr : ar 188 = r) (hg : trg r N) (ht : t < N) (k : Ev 0 M_Md_teamsOf (4, [some (vO 11), some (vI kk), some (vI (n + tnT r kk N t)), some (vI ((t : Int) + 1)), none, none], [], (sc, ar)) Q) : ∀ j i : Nat, i + j = N → Ev 0 M_Md_teamsOf (18, [some (vO 11), some (vI kk), some (vI n), some (vI t), some (vI (tct r t i)), some (vI i)], [], (sc, ar)) Q := by
  intro j
  induction j with
  | zero =>
    intro i hi
    have : i = N := by omega
    subst this
    have hb := tct_bd (r := r) (v := t) i
    refine sg_Md_teamsOf_18 ⟨by omega, by omega, fun _ => ⟨by omega, fun c => ⟨by omega, by omega, fun c2 => ?_, fun c2 => ?_⟩, fun c => ?_⟩, fun c => by omega⟩
    · unfold tnT at k
      rw [if_neg c, if_pos c2] at k
      exact k
    · unfold tnT at k
      rw [if_neg c, if_neg c2] at k
      exact k
    · unfold tnT at k
      rw [if_pos (by omega)] at k
      exact k
  | succ j ih =>
    intro i hi
    have h1 := ih (i + 1) (by omega)
    rw [tct_succ] at h1
    have g2 := trg_at hg (show i < N by omega)
    refine sg_Md_teamsOf_18 ⟨by omega, by omega, fun c => by omega, fun _ => ⟨by omega, by omega, ?_⟩⟩
    rw [hr, Int.toNat_natCast]
    refine ⟨by omega, by omega, fun c => ?_, fun c => ?_⟩
    · rw [if_neg c] at h1
      exact h1
    · rw [if_pos (by omega)] at h1
      exact h1
theorem lp_teamsOf {r : Nat → Int} (hN : N ≤ 8) (hk : 1 ≤ kk ∧ kk ≤ 8) (hn : sc 177 = (N : Int)) (hr : ar 188 = r) (hg : trg r N) (k : Q (some (vI (sm (tnT r kk N) N))) (sc, ar)) : ∀ j t : Nat, t + j = N → Ev 0 M_Md_teamsOf (4, [some (vO 11), some (vI kk), some (vI (sm (tnT r kk N) t)), some (vI t), none, none], [], (sc, ar)) Q := by
  intro j
  induction j with
  | zero =>
    intro t ht
    have : t = N := by omega
    subst this
    exact sg_Md_teamsOf_4 ⟨by omega, by omega, fun _ => k, fun c => by omega⟩
  | succ j ih =>
    intro t ht
    have h1 := ih (t + 1) (by omega)
    simp only [sm] at h1
    exact sg_Md_teamsOf_4 ⟨by omega, by omega, fun c => by omega, fun _ => lp_teamsOfI hN hk hn hr hg (by omega) h1 N 0 (by omega)⟩
theorem ct_teamsOf {r : Nat → Int} (hN : N ≤ 8) (hk : 1 ≤ kk ∧ kk ≤ 8) (hn : sc 177 = (N : Int)) (hr : ar 188 = r) (hg : trg r N) (k : Q (some (vI (sm (tnT r kk N) N))) (sc, ar)) : Ev d M_Md_teamsOf (0, [some (vO 11), some (vI kk), none, none, none, none], [], (sc, ar)) Q :=
  Ev.deep (Nat.zero_le d) (sg_Md_teamsOf_0 (lp_teamsOf hN hk hn hr hg k N 0 (by omega)))
theorem lp_greatest {r : Nat → Int} {t : Nat} (ht : t < 8) (hr : ar 188 = r) (hg : trg r t) (k : Q (some (vI (tgr r t))) (sc, ar)) : ∀ j i : Nat, i + j = t → Ev 0 M_Md_greatest (4, [some (vO 11), some (vI t), some (vI (tgr r i)), some (vI i)], [], (sc, ar)) Q := by
  intro j
  induction j with
  | zero =>
    intro i hi
    have : i = t := by omega
    subst this
    exact sg_Md_greatest_4 ⟨by omega, by omega, fun _ => k, fun c => by omega⟩
  | succ j ih =>
    intro i hi
    have h1 := ih (i + 1) (by omega)
    simp only [tgr] at h1
    have g2 := trg_at hg (show i < t by omega)
    have g3 := tgr_eq i (trg_le hg (by omega))
    have g4 := tmx_bd i (trg_le hg (by omega))
    have g5 : inR (tgr r i) := by
      rw [g3]
      split <;> omega
    refine sg_Md_greatest_4 ⟨by omega, by omega, fun c => by omega, fun _ => ⟨by omega, by omega, ?_⟩⟩
    rw [hr, Int.toNat_natCast]
    refine ⟨by omega, g5, fun c => ?_, fun c => ⟨by omega, by omega, ?_⟩⟩
    · rw [if_pos c] at h1
      exact h1
    · rw [if_neg c] at h1
      exact h1
theorem ct_greatest {r : Nat → Int} {t : Nat} (ht : t < 8) (hr : ar 188 = r) (hg : trg r t) (k : Q (some (vI (tgr r t))) (sc, ar)) : Ev d M_Md_greatest (0, [some (vO 11), some (vI t), none, none], [], (sc, ar)) Q :=
  Ev.deep (Nat.zero_le d) (sg_Md_greatest_0 (lp_greatest ht hr hg k t 0 (by omega)))
/-- zeros behind place t -/
def tzf (r : Nat → Int) (t i : Nat) : Nat → Int := fun x => if t < x ∧ x < i then 0 else if x = t then r t + 1 else r x
theorem lp_isMore51 {r : Nat → Int} {t : Nat} {a0 : Nat → Nat → Int} (hN : N ≤ 8) (hn : sc 177 = (N : Int)) (ht : t < N) (k : Q (some (vI 1)) (sc, up a0 188 (tnx r t N))) : ∀ j i : Nat, i + j = N → t < i → Ev 1 M_Md_isMore (51, [some (vO 11), some (vI t), some (vI i)], [], (sc, up a0 188 (tzf r t i))) Q := by
  intro j
  induction j with
  | zero =>
    intro i hi h2
    have : i = N := by omega
    subst this
    exact sg_Md_isMore_51 ⟨by omega, by omega, fun _ => k, fun c => by omega⟩
  | succ j ih =>
    intro i hi h2
    have h1 := ih (i + 1) (by omega) (by omega)
    refine sg_Md_isMore_51 ⟨by omega, by omega, fun c => by omega, fun _ => ⟨by omega, by omega, ?_⟩⟩
    rw [up_eq, up_up, Int.toNat_natCast]
    have e : up (tzf r t i) i 0 = tzf r t (i + 1) := by
      funext x
      unfold up tzf
      by_cases e : x = i
      · subst e
        rw [if_pos rfl, if_pos (by omega)]
      · rw [if_neg e]
        by_cases c : t < x ∧ x < i
        · rw [if_pos c, if_pos (by omega)]
        · rw [if_neg c, if_neg (show ¬ (t < x ∧ x < i + 1) by omega)]
    rw [e]
    exact h1
theorem lp_isMore7 {r : Nat → Int} (hN : N ≤ 8) (hn : sc 177 = (N : Int)) (hr : ar 188 = r) (hg : trg r N) (k0 : (∀ s, 0 < s → s < N → r s = tmx r s) → Q (some (vI 0)) (sc, ar)) (k1 : ∀ t : Nat, 0 < t → t < N → r t < tmx r t → (∀ s, t < s → s < N → r s = tmx r s) → Q (some (vI 1)) (sc, up ar 188 (tnx r t N))) : ∀ t : Nat, t < N → (∀ s, t < s → s < N → r s = tmx r s) → Ev 1 M_Md_isMore (7, [some (vO 11), some (vI t), none], [], (sc, ar)) Q := by
  intro t
  induction t with
  | zero =>
    intro ht h
    exact sg_Md_isMore_7 ⟨by omega, fun _ => ⟨by omega, fun c => by omega, fun _ => k0 h⟩, fun c => by omega⟩
  | succ t ih =>
    intro ht h
    have g1 := hg (t + 1) ht
    have g2 := tmx_bd (t + 1) (trg_le hg (by omega))
    have g3 := tgr_eq (t + 1) (trg_le hg (by omega))
    rw [if_neg (by omega)] at g3
    refine sg_Md_isMore_7 ⟨by omega, fun c => by omega, fun _ => ⟨by omega, by omega, ct_greatest (by omega) hr (trg_le hg (by omega)) (sg_Md_isMore_22 ?_)⟩⟩
    rw [hr, Int.toNat_natCast, g3]
    refine ⟨by omega, by omega, fun c => ⟨by omega, fun _ => ⟨by omega, by omega, by omega, by omega, ?_⟩, fun c => by omega⟩, fun c => ?_⟩
    · have h1 := lp_isMore51 (sc := sc) (Q := Q) (r := r) (a0 := ar) hN hn ht (k1 (t + 1) (by omega) ht (by omega) h) (N - (t + 2)) (t + 2) (by omega) (by omega)
      have e : tzf r (t + 1) (t + 2) = up r (t + 1) (r (t + 1) + 1) := by
        funext x
        unfold up tzf
        rw [if_neg (show ¬ (t + 1 < x ∧ x < t + 2) by omega)]
      rw [e] at h1
      exact h1
    · have e : ((t + 1 : Nat) : Int) + (-1) = t := by omega
      rw [e]
      refine ih (by omega) (fun s h1 h2 => ?_)
      by_cases e2 : s = t + 1
      · rw [e2]
        omega
      · exact h s (by omega) h2
theorem ct_isMore {r : Nat → Int} (hN : N ≤ 8) (hn : sc 177 = (N : Int)) (hr : ar 188 = r) (hg : trg r N) (k0 : (∀ s, 0 < s → s < N → r s = tmx r s) → Q (some (vI 0)) (sc, ar)) (k1 : ∀ t : Nat, 0 < t → t < N → r t < tmx r t → (∀ s, t < s → s < N → r s = tmx r s) → Q (some (vI 1)) (sc, up ar 188 (tnx r t N))) : Ev (d + 1) M_Md_isMore (0, [some (vO 11), none, none], [], (sc, ar)) Q := by
  refine Ev.deep (Nat.le_add_left 1 d) (sg_Md_isMore_0 ?_)
  rw [hn]
  by_cases h : N = 0
  · subst h
    exact sg_Md_isMore_7 ⟨by omega, fun _ => ⟨by omega, fun c => by omega, fun _ => k0 (fun s _ h => by omega)⟩, fun c => by omega⟩
  · have := lp_isMore7 hN hn hr hg k0 k1 (N - 1) (by omega) (fun s _ _ => by omega)
    rw [show ((N - 1 : Nat) : Int) = (N : Int) - 1 by omega] at this
    exact this
theorem lp_teams107 {x1 x2 x3 x4 x5 : Int} {r w : Nat → Int} {a0 : Nat → Nat → Int} (hN : N ≤ 8) (hn : sc 177 = (N : Int)) (hr : a0 188 = r) (k : Ev 1 M_Md_isMore (0, [some (vO 11), none, none], [], (sc, up a0 189 (wr w r N))) (fun r1 h1 => Ev 2 M_Md_teams (140, [some (vO 11), some (vI x1), some (vI x2), some (vI x3), some (vI x4), some (vI x5), none], mPush r1 [], h1) Q)) : ∀ j i : Nat, i + j = N → Ev 2 M_Md_teams (107, [some (vO 11), some (vI x1), some (vI x2), some (vI x3), some (vI x4), some (vI x5), some (vI i)], [], (sc, up a0 189 (wr w r i))) Q := by
  intro j
  induction j with
  | zero =>
    intro i hi
    have : i = N := by omega
    subst this
    exact sg_Md_teams_107 ⟨by omega, by omega, fun _ => k, fun c => by omega⟩
  | succ j ih =>
    intro i hi
    have h1 := ih (i + 1) (by omega)
    refine sg_Md_teams_107 ⟨by omega, by omega, fun c => by omega, fun _ => ⟨by omega, by omega, by omega, by omega, ?_⟩⟩
    rw [up_eq, up_up, up_ne _ _ (show (188 : Nat) ≠ 189 by decide), hr, Int.toNat_natCast]
    exact h1
/-- what the reference's search finds -/
theorem lp_teams38 {sc : Nat → Int} {ar : Nat → Nat → Int} (hR : R9 nd) (hN : N ≤ 8) (hk : 1 ≤ kk ∧ kk ≤ 8) (hn : sc 177 = (N : Int)) (hnd : ar 179 = nd) (k : ∀ B F r w, tbs nd N kk (fun _ => True) B F w → Q none (up sc 190 B, up (up ar 188 r) 189 w)) : ∀ (n : Nat) (r w : Nat → Int) (B F : Int), trg r N → 16777216 - tcd r N ≤ n → tS nd N kk (B = -9) (fun q => tcd q N < tcd r N) B F w → inR F → Ev 2 M_Md_teams (38, [some (vO 11), some (vI kk), some (vI F), some (vI 1), none, none, none], [], (up sc 190 B, up (up ar 188 r) 189 w)) Q := by
  intro n
  induction n with
  | zero =>
    intro r w B F hg hb
    have h1 := tcd_bd N hN hg
    have h2 := e8_bd N (by omega)
    omega
  | succ n ih =>
    intro r w B F hg hb hS hF
    have hB : inR B := by
      rcases hS with ⟨_, h⟩ | h
      · omega
      · have := tbs_bd hR hN h
        omega
    have s177 : ∀ v, up sc 190 v 177 = (N : Int) := fun v => by
      rw [up_ne _ _ (by decide)]
      exact hn
    have e188 : ∀ w, up (up ar 188 r) 189 w 188 = r := fun w => by
      rw [up_ne _ _ (by decide), up_eq]
    have e179 : up (up ar 188 r) 189 w 179 = nd := by
      rw [up_ne _ _ (by decide), up_ne _ _ (by decide)]
      exact hnd
    have hc := tcs_bd (r := r) hR N hN
    have hm := tmx_bd N hg
    -- behind the row: the next one, or the end
    have fin : ∀ (B2 F2 : Int) (w2 : Nat → Int) (x4 x5 : Int), tS nd N kk (B2 = -9) (fun q => tcd q N ≤ tcd r N) B2 F2 w2 → inR F2 → Ev 1 M_Md_isMore (0, [some (vO 11), none, none], [], (up sc 190 B2, up (up ar 188 r) 189 w2)) (fun r1 h1 => Ev 2 M_Md_teams (140, [some (vO 11), some (vI kk), some (vI F2), some (vI 1), some (vI x4), some (vI x5), none], mPush r1 [], h1) Q) := by
      intro B2 F2 w2 x4 x5 hS2 hF2
      refine ct_isMore hN (s177 _) (e188 _) hg (fun hl => sg_Md_teams_140 (sg_Md_teams_38 ⟨by omega, fun _ => ?_, fun c => absurd rfl c⟩)) (fun t h1 h2 h3 h4 => sg_Md_teams_140 ?_)
      · have := tS_end (by omega) hS2 (fun q hq => t_last hN hg hq.1 hl)
        obtain ⟨g1, _, g3, g4, g5⟩ := this
        exact k B2 F2 r w2 ⟨g1, trivial, g3, g4, fun q hq _ => g5 q hq (t_last hN hg hq.1 hl)⟩
      · obtain ⟨g1, g2, g3⟩ := tnx_ok hN hg h2 h3 h4
        have e : up (up (up ar 188 r) 189 w2) 188 (tnx r t N) = up (up ar 188 (tnx r t N)) 189 w2 := by
          funext i
          by_cases c : i = 188 <;> by_cases c2 : i = 189 <;> simp [up, c, c2]
        rw [e]
        refine ih (tnx r t N) w2 B2 F2 g1 (by omega) (tS_iff hS2 (fun q hq => ⟨fun c => ?_, fun c => ?_⟩)) hF2
        · have c2 : tcd q N ≤ tcd r N := c
          show tcd q N < tcd (tnx r t N) N
          omega
        · have c2 : tcd q N < tcd (tnx r t N) N := c
          show tcd q N ≤ tcd r N
          rcases Classical.em (tcd r N < tcd q N) with z | z
          · have := g3 q hq.1 z
            omega
          · omega
    have new : TOK N kk r → (tno N kk (fun q => tcd q N < tcd r N) ∨ tcs nd r N < B ∨ (tcs nd r N = B ∧ tmx r N < F)) → Ev 2 M_Md_teams (107, [some (vO 11), some (vI kk), some (vI (sm (tnT r kk N) N)), some (vI 1), some (vI (sm (tnT r kk N) N)), some (vI (tcs nd r N)), some (vI 0)], [], (up (up sc 190 B) 190 (tcs nd r N), up (up ar 188 r) 189 w)) Q := by
      intro hT hb2
      rw [up_up]
      have := lp_teams107 (sc := up sc 190 (tcs nd r N)) (Q := Q) (x1 := kk) (x2 := sm (tnT r kk N) N) (x3 := 1) (x4 := sm (tnT r kk N) N) (x5 := tcs nd r N) (r := r) (w := w) (a0 := up ar 188 r) hN (s177 _) (up_eq _ _ _) (by
        rw [tn_ok hN hT]
        refine fin _ _ _ _ _ (Or.inr ?_) (by omega)
        have hw : ∀ t, t < N → wr w r N t = r t := fun t ht => by rw [wr_at, if_pos ht]
        refine tS_new hN hS hT (fun q _ c => ?_) ?_ hw hb2
        · have c2 : tcd q N ≤ tcd r N := c
          by_cases e : tcd q N = tcd r N
          · exact Or.inr e
          · exact Or.inl (by show tcd q N < tcd r N; omega)
        · show tcd _ N ≤ tcd r N
          rw [tcd_congr N hw]
          exact Int.le_refl _) N 0 (by omega)
      exact this
    refine sg_Md_teams_38 ⟨by omega, fun c => by omega, fun _ => ct_teamsOf hN hk (s177 _) (e188 _) hg (sg_Md_teams_47 (ct_betweenOf hN (s177 _) e179 (e188 _) hg (sg_Md_teams_53 ?_)))⟩
    rw [up_eq]
    rcases Classical.em (TOK N kk r) with hT | hT
    · have e := tn_ok hN hT
      have old : (B < tcs nd r N ∨ (B = tcs nd r N ∧ F ≤ tmx r N)) → ¬ B = -9 → tS nd N kk (B = -9) (fun q => tcd q N ≤ tcd r N) B F w := fun h1 h2 => by
        refine tS_old hS (fun q _ c => Int.le_of_lt c) (fun q hq c => ?_)
        have c2 : tcd q N ≤ tcd r N := c
        by_cases e2 : tcd q N = tcd r N
        · have e3 := tcd_eq N hN hq.1 hg e2
          have e4 := tcs_congr (nd := nd) N e3
          have e5 := tmx_congr N e3
          refine Or.inr ⟨fun hno => ?_, by omega, fun u hu hu2 => ?_⟩
          · rcases hS with ⟨_, h⟩ | ⟨h3, h4, _⟩
            · exact h2 h
            · exact hno _ h3 h4
          · have : tcd u N < tcd r N := hu2
            omega
        · exact Or.inl (by show tcd q N < tcd r N; omega)
      refine ⟨by omega, fun c => by omega, fun _ => ⟨hB, fun c => new hT ?_, fun c => ⟨by omega, hB, fun c2 => new hT (Or.inr (Or.inl c2)), fun c2 => ⟨by omega, hB, fun c3 => fin _ _ _ _ _ (old (by omega) c) hF, fun c3 => ⟨by omega, hF, fun c4 => fin _ _ _ _ _ (old (by omega) c) hF, fun c4 => new hT (Or.inr (Or.inr ⟨by omega, by omega⟩))⟩⟩⟩⟩⟩
      rcases hS with ⟨h, _⟩ | h
      · exact Or.inl h
      · have := tbs_bd hR hN h
        omega
    · have e := tn_no hN (by omega) hg hT
      have e2 : sm (tnT r kk N) N ≤ 800 := by
        have := sm_bd (f := tnT r kk N) (b := 100) N (fun i hi => by unfold tnT; split <;> (try split) <;> omega)
        omega
      refine ⟨by omega, fun _ => fin _ _ _ _ _ (tS_iff hS (fun q hq => ⟨fun c => Int.le_of_lt c, fun c => ?_⟩)) hF, fun c => by omega⟩
      have c2 : tcd q N ≤ tcd r N := c
      show tcd q N < tcd r N
      by_cases e3 : tcd q N = tcd r N
      · exact absurd (TOK_congr (tcd_eq N hN hq.1 hg e3) hq) hT
      · omega
theorem lp_teams2 {s0 : Nat → Int} {a0 : Nat → Nat → Int} (k : ∀ r w, (∀ i, i < 8 → r i = 0) → Ev 2 M_Md_teams (38, [some (vO 11), some (vI kk), some (vI 0), some (vI 1), none, none, none], [], (up s0 190 (-9), up (up a0 188 r) 189 w)) Q) : ∀ j i : Nat, i + j = 8 → ∀ r w : Nat → Int, (∀ x, x < i → r x = 0) → Ev 2 M_Md_teams (2, [some (vO 11), some (vI kk), some (vI i), none, none, none, none], [], (s0, up (up a0 188 r) 189 w)) Q := by
  intro j
  induction j with
  | zero =>
    intro i hi r w h
    have : i = 8 := by omega
    subst this
    exact sg_Md_teams_2 ⟨by omega, fun _ => k r w h, fun c => by omega⟩
  | succ j ih =>
    intro i hi r w h
    have h1 := ih (i + 1) (by omega) (up r i 0) (up w i 0) (fun x hx => by
      by_cases e : x = i
      · rw [e, up_eq]
      · rw [up_ne _ _ e]
        exact h x (by omega))
    refine sg_Md_teams_2 ⟨by omega, fun c => by omega, fun _ => ⟨by omega, by omega, by omega, by omega, ?_⟩⟩
    have e1 : up (up a0 188 r) 189 w 188 = r := by rw [up_ne _ _ (by decide), up_eq]
    rw [Int.toNat_natCast, e1]
    have e2 : up (up (up (up a0 188 r) 189 w) 188 (up r i 0)) 189 (up (up (up a0 188 r) 189 w 189) i 0) = up (up a0 188 (up r i 0)) 189 (up w i 0) := by
      rw [up_eq]
      funext x
      by_cases c : x = 188 <;> by_cases c2 : x = 189 <;> simp [up, c, c2]
    first
      | (rw [e2]; exact h1)
      | (rw [up_ne _ _ (show (189 : Nat) ≠ 188 by decide), e2]; exact h1)
theorem ct_teams (hR : R9 nd) (hN : N ≤ 8) (hk : 1 ≤ kk ∧ kk ≤ 8) (hn : sc 177 = (N : Int)) (hnd : ar 179 = nd) (k : ∀ B F r w, tbs nd N kk (fun _ => True) B F w → Q none (up sc 190 B, up (up ar 188 r) 189 w)) : Ev (d + 2) M_Md_teams (0, [some (vO 11), some (vI kk), none, none, none, none, none], [], (sc, ar)) Q := by
  refine Ev.deep (Nat.le_add_left 2 d) (sg_Md_teams_0 ?_)
  have := lp_teams2 (kk := kk) (Q := Q) (s0 := sc) (a0 := ar) (fun r w h => by
    have z : ∀ m, m ≤ 8 → tcd r m = 0 := by
      intro m
      induction m with
      | zero => intro _; rfl
      | succ m ih =>
        intro hm
        simp only [tcd]
        rw [ih (by omega), h m (by omega)]
        rfl
    have y : ∀ m, m ≤ 8 → 0 ≤ tmx r m := by
      intro m
      induction m with
      | zero => intro _; exact Int.le_refl _
      | succ m ih =>
        intro hm
        have := ih (by omega)
        simp only [tmx]
        split
        · rw [h m (by omega)]
          omega
        · exact this
    have hg : trg r N := fun t ht => by
      have := y t (by omega)
      rw [h t (by omega)]
      omega
    refine lp_teams38 hR hN hk hn hnd k 16777216 r w (-9) 0 hg (by rw [z N hN]; omega) (Or.inl ⟨fun q hq c => ?_, rfl⟩) (by omega)
    have c2 : tcd q N < tcd r N := c
    have := tcd_bd N hN hq.1
    rw [z N hN] at c2
    omega) 8 0 (by omega) (ar 188) (ar 189) (fun x h => by omega)
  have e : up (up ar 188 (ar 188)) 189 (ar 189) = ar := by
    rw [up_id, up_id]
  rw [e] at this
  exact this
end TEAMM

/-! TEAMS: rows of teams, which is best -/
/-- how many teams the first n tasks have -/
def tmx (r : Nat → Int) : Nat → Int
  | 0 => 0
  | n + 1 => if tmx r n < r n + 1 then r n + 1 else tmx r n
/-- a row as a number -/
def tcd (r : Nat → Int) : Nat → Int
  | 0 => 0
  | n + 1 => 8 * tcd r n + r n
def tct (r : Nat → Int) (v : Int) (n : Nat) : Int := sm (fun o => if r o = v then 1 else 0) n
def tcb (nd : Nat → Int) (r : Nat → Int) (t : Nat) (v : Int) (n : Nat) : Int := sm (fun o => if r o = v then 0 else nd (8 * t + o) + nd (8 * o + t)) n
def tcs (nd : Nat → Int) (r : Nat → Int) : Nat → Int
  | 0 => 0
  | n + 1 => tcs nd r n + tcb nd r n (r n) n
/-- numbered as they are met -/
def trg (r : Nat → Int) (n : Nat) : Prop := ∀ t, t < n → 0 ≤ r t ∧ r t ≤ tmx r t
def TOK (N : Nat) (k : Int) (r : Nat → Int) : Prop := trg r N ∧ ∀ v : Nat, v < 8 → tct r v N ≤ k
theorem tmx_bd {r : Nat → Int} : ∀ n, trg r n → 0 ≤ tmx r n ∧ tmx r n ≤ n
  | 0, _ => by simp [tmx]
  | n + 1, h => by
    have h1 := tmx_bd n (fun t ht => h t (by omega))
    have h2 := h n (by omega)
    simp only [tmx]
    split <;> omega
theorem trg_at {r : Nat → Int} {n t : Nat} (h : trg r n) (ht : t < n) : 0 ≤ r t ∧ r t ≤ t := by
  have h1 := tmx_bd t (fun s hs => h s (by omega))
  have h2 := h t ht
  omega
theorem trg_le {r : Nat → Int} {n m : Nat} (h : trg r m) (hn : n ≤ m) : trg r n := fun t ht => h t (by omega)
theorem tmx_mono {r : Nat → Int} {n : Nat} : ∀ m, n ≤ m → tmx r n ≤ tmx r m := by
  intro m h
  induction h with
  | refl => exact Int.le_refl _
  | step _ ih =>
    simp only [tmx]
    split <;> omega
theorem tmx_congr {r s : Nat → Int} : ∀ n, (∀ t, t < n → r t = s t) → tmx r n = tmx s n
  | 0, _ => rfl
  | n + 1, h => by
    simp only [tmx]
    rw [tmx_congr n (fun t ht => h t (by omega)), h n (by omega)]
theorem tcd_congr {r s : Nat → Int} : ∀ n, (∀ t, t < n → r t = s t) → tcd r n = tcd s n
  | 0, _ => rfl
  | n + 1, h => by
    simp only [tcd]
    rw [tcd_congr n (fun t ht => h t (by omega)), h n (by omega)]
theorem tct_congr {r s : Nat → Int} {v : Int} {n : Nat} (h : ∀ t, t < n → r t = s t) : tct r v n = tct s v n :=
  sm_congr n (fun i hi => by show (if r i = v then (1 : Int) else 0) = _; rw [h i hi])
theorem tcb_congr {nd r s : Nat → Int} {t : Nat} {v : Int} {n : Nat} (h : ∀ t, t < n → r t = s t) : tcb nd r t v n = tcb nd s t v n :=
  sm_congr n (fun i hi => by show (if r i = v then (0 : Int) else _) = _; rw [h i hi])
theorem tcs_congr {nd r s : Nat → Int} : ∀ n, (∀ t, t < n → r t = s t) → tcs nd r n = tcs nd s n
  | 0, _ => rfl
  | n + 1, h => by
    simp only [tcs]
    rw [tcs_congr n (fun t ht => h t (by omega)), h n (by omega), tcb_congr (fun t ht => h t (by omega))]
theorem trg_congr {r s : Nat → Int} {n : Nat} (h : ∀ t, t < n → r t = s t) (k : trg r n) : trg s n := fun t ht => by
  rw [← h t ht, ← tmx_congr t (fun u hu => h u (by omega))]
  exact k t ht
theorem TOK_congr {N : Nat} {k : Int} {r s : Nat → Int} (h : ∀ t, t < N → r t = s t) (w : TOK N k r) : TOK N k s :=
  ⟨trg_congr h w.1, fun v hv => by
    rw [← tct_congr h]
    exact w.2 v hv⟩
theorem tct_succ {r : Nat → Int} {v : Int} {n : Nat} : tct r v (n + 1) = tct r v n + if r n = v then 1 else 0 := rfl
theorem tct_bd {r : Nat → Int} {v : Int} : ∀ n, 0 ≤ tct r v n ∧ tct r v n ≤ n
  | 0 => by simp [tct, sm]
  | n + 1 => by
    have := tct_bd (r := r) (v := v) n
    rw [tct_succ]
    split <;> omega
theorem tct_mono {r : Nat → Int} {v : Int} {n : Nat} : ∀ m, n ≤ m → tct r v n ≤ tct r v m := by
  intro m h
  induction h with
  | refl => exact Int.le_refl _
  | step _ ih =>
    rw [tct_succ]
    split <;> omega
theorem tcb_bd {nd r : Nat → Int} {t : Nat} {v : Int} (hR : R9 nd) (ht : t < 8) : ∀ n, n ≤ 8 → 0 ≤ tcb nd r t v n ∧ tcb nd r t v n ≤ 18 * n
  | 0, _ => by simp [tcb, sm]
  | n + 1, hn => by
    have h1 := tcb_bd (r := r) (v := v) hR ht n (by omega)
    have h2 := hR.at ht (show n < 8 by omega)
    have h3 := hR.at (show n < 8 by omega) ht
    show 0 ≤ tcb nd r t v n + (if r n = v then 0 else nd (8 * t + n) + nd (8 * n + t)) ∧ tcb nd r t v n + (if r n = v then 0 else nd (8 * t + n) + nd (8 * n + t)) ≤ _
    split <;> omega
theorem tcs_bd {nd r : Nat → Int} (hR : R9 nd) : ∀ n, n ≤ 8 → 0 ≤ tcs nd r n ∧ tcs nd r n ≤ 144 * n
  | 0, _ => by simp [tcs]
  | n + 1, hn => by
    have h1 := tcs_bd (r := r) hR n (by omega)
    have h2 := tcb_bd (r := r) (v := r n) hR (show n < 8 by omega) n (by omega)
    simp only [tcs]
    omega
theorem tcs_mono {nd r : Nat → Int} (hR : R9 nd) {n : Nat} : ∀ m, n ≤ m → m ≤ 8 → tcs nd r n ≤ tcs nd r m := by
  intro m h
  induction h with
  | refl => intro _; exact Int.le_refl _
  | step _ ih =>
    rename_i m _
    intro h8
    have h1 := ih (by omega)
    have h2 := tcb_bd (r := r) (v := r m) hR (show m < 8 by omega) m (by omega)
    simp only [tcs]
    omega
def e8 : Nat → Int
  | 0 => 1
  | n + 1 => 8 * e8 n
theorem e8_bd : ∀ n, n < 9 → e8 n ≤ 16777216 := by decide
theorem tcd_bd {r : Nat → Int} : ∀ n, n ≤ 8 → trg r n → 0 ≤ tcd r n ∧ tcd r n < e8 n
  | 0, _, _ => by simp [tcd, e8]
  | n + 1, hn, h => by
    have h1 := tcd_bd n (by omega) (trg_le h (by omega))
    have h2 := trg_at h (show n < n + 1 by omega)
    simp only [tcd, e8]
    omega
theorem tcd_lt {r s : Nat → Int} {n : Nat} : ∀ m, n ≤ m → m ≤ 8 → trg r m → trg s m → tcd r n < tcd s n → tcd r m < tcd s m := by
  intro m h
  induction h with
  | refl => intro _ _ _ h; exact h
  | step _ ih =>
    rename_i m _
    intro h8 hr hs h
    have h1 := ih (by omega) (trg_le hr (by omega)) (trg_le hs (by omega)) h
    have h2 := trg_at hr (show m < m + 1 by omega)
    have h3 := trg_at hs (show m < m + 1 by omega)
    simp only [tcd]
    omega
theorem tcd_eq {r s : Nat → Int} : ∀ n, n ≤ 8 → trg r n → trg s n → tcd r n = tcd s n → ∀ t, t < n → r t = s t
  | 0, _, _, _, _ => fun t ht => by omega
  | n + 1, h8, hr, hs, h => by
    have h2 := trg_at hr (show n < n + 1 by omega)
    have h3 := trg_at hs (show n < n + 1 by omega)
    simp only [tcd] at h
    have h4 : tcd r n = tcd s n ∧ r n = s n := by omega
    have h5 := tcd_eq n (by omega) (trg_le hr (by omega)) (trg_le hs (by omega)) h4.1
    intro t ht
    by_cases e : t = n
    · rw [e]; exact h4.2
    · exact h5 t (by omega)
/-! what is best among P -/
def tbs (nd : Nat → Int) (N : Nat) (k : Int) (P : (Nat → Int) → Prop) (B F : Int) (w : Nat → Int) : Prop := TOK N k w ∧ P w ∧ tcs nd w N = B ∧ tmx w N = F ∧ ∀ r, TOK N k r → P r → B < tcs nd r N ∨ (B = tcs nd r N ∧ (F < tmx r N ∨ (F = tmx r N ∧ tcd w N ≤ tcd r N)))
def tno (N : Nat) (k : Int) (P : (Nat → Int) → Prop) : Prop := ∀ r, TOK N k r → ¬ P r
def tS (nd : Nat → Int) (N : Nat) (k : Int) (I : Prop) (P : (Nat → Int) → Prop) (B F : Int) (w : Nat → Int) : Prop := (tno N k P ∧ I) ∨ tbs nd N k P B F w
section TEAMS
variable {nd : Nat → Int} {N : Nat} {k : Int} {I : Prop} {P P2 : (Nat → Int) → Prop} {B F : Int} {w : Nat → Int}
theorem tS_new {p w2 : Nat → Int} (hN : N ≤ 8) (h : tS nd N k I P B F w) (hp : TOK N k p) (h2 : ∀ r, TOK N k r → P2 r → P r ∨ tcd r N = tcd p N) (hP : P2 w2) (hw : ∀ t, t < N → w2 t = p t) (hb : tno N k P ∨ tcs nd p N < B ∨ (tcs nd p N = B ∧ tmx p N < F)) : tbs nd N k P2 (tcs nd p N) (tmx p N) w2 := by
  have hw' : ∀ t, t < N → p t = w2 t := fun t ht => (hw t ht).symm
  refine ⟨TOK_congr hw' hp, hP, tcs_congr N hw, tmx_congr N hw, fun r hr hr2 => ?_⟩
  rcases h2 r hr hr2 with q | q
  · rcases h with ⟨h, _⟩ | ⟨_, h1, _, _, h5⟩
    · exact absurd q (h r hr)
    · rcases hb with hb | hb
      · exact absurd h1 (hb _ (by assumption))
      · have := h5 r hr q
        omega
  · have e := tcd_eq N hN hr.1 hp.1 q
    have e1 := tcs_congr (nd := nd) N e
    have e2 := tmx_congr N e
    have e3 := tcd_congr N hw
    refine Or.inr ⟨e1.symm, Or.inr ⟨e2.symm, ?_⟩⟩
    omega
theorem tS_old (h : tS nd N k I P B F w) (h1 : ∀ r, TOK N k r → P r → P2 r) (h2 : ∀ r, TOK N k r → P2 r → P r ∨ (¬ tno N k P ∧ (B < tcs nd r N ∨ (B = tcs nd r N ∧ F ≤ tmx r N)) ∧ ∀ w, TOK N k w → P w → tcd w N ≤ tcd r N)) : tS nd N k I P2 B F w := by
  rcases h with ⟨h, hI⟩ | ⟨a1, a2, a3, a4, a5⟩
  · refine Or.inl ⟨fun r hr hp => ?_, hI⟩
    rcases h2 r hr hp with q | q
    · exact h r hr q
    · exact q.1 h
  · refine Or.inr ⟨a1, h1 w a1 a2, a3, a4, fun r hr hp => ?_⟩
    rcases h2 r hr hp with q | ⟨_, q, q2⟩
    · exact a5 r hr q
    · have := q2 w a1 a2
      omega
theorem tS_iff (h : tS nd N k I P B F w) (h1 : ∀ r, TOK N k r → (P r ↔ P2 r)) : tS nd N k I P2 B F w :=
  tS_old h (fun r hr => (h1 r hr).mp) (fun r hr q => Or.inl ((h1 r hr).mpr q))
theorem tmx_id : ∀ n : Nat, tmx (fun t => (t : Int)) n = n
  | 0 => rfl
  | n + 1 => by
    simp only [tmx]
    rw [tmx_id n, if_pos (by omega)]
    omega
theorem tct_id : ∀ (n : Nat) (v : Nat), tct (fun t => (t : Int)) v n = if v < n then 1 else 0
  | 0, v => by simp [tct, sm]
  | n + 1, v => by
    rw [tct_succ, tct_id n v]
    try dsimp only
    by_cases e : n = v
    · rw [if_pos (show (n : Int) = v by omega), if_neg (show ¬ v < n by omega), if_pos (show v < n + 1 by omega)]
      rfl
    · rw [if_neg (show ¬ (n : Int) = v by omega)]
      by_cases h : v < n
      · rw [if_pos h, if_pos (by omega)]
        rfl
      · rw [if_neg h, if_neg (by omega)]
        rfl
theorem TOK_id (hk : 1 ≤ k) : TOK N k (fun t => (t : Int)) := ⟨fun t ht => by
    rw [tmx_id]
    try dsimp only
    omega, fun v hv => by
    rw [tct_id]
    split <;> omega⟩
theorem tS_end (hk : 1 ≤ k) (h : tS nd N k I P B F w) (ha : ∀ r, TOK N k r → P r) : tbs nd N k P B F w := by
  rcases h with ⟨h, _⟩ | h
  · exact absurd (ha _ (TOK_id hk)) (h _ (TOK_id hk))
  · exact h
theorem tbs_uniq {B2 F2 : Int} {w2 : Nat → Int} (hN : N ≤ 8) (h : tbs nd N k P B F w) (ha : ∀ r, TOK N k r → P r) (h2 : tbs nd N k P2 B2 F2 w2) (ha2 : ∀ r, TOK N k r → P2 r) : B = B2 ∧ ∀ t, t < N → w t = w2 t := by
  obtain ⟨a1, _, a3, a4, a5⟩ := h
  obtain ⟨b1, _, b3, b4, b5⟩ := h2
  have c1 := a5 w2 b1 (ha _ b1)
  have c2 := b5 w a1 (ha2 _ a1)
  rw [b3, b4] at c1
  rw [a3, a4] at c2
  exact ⟨by omega, tcd_eq N hN a1.1 b1.1 (by omega)⟩
theorem tbs_bd (hR : R9 nd) (hN : N ≤ 8) (h : tbs nd N k P B F w) : (0 ≤ B ∧ B ≤ 1152) ∧ 0 ≤ F ∧ F ≤ 8 := by
  obtain ⟨a1, _, a3, a4, _⟩ := h
  have h1 := tcs_bd (r := w) hR N hN
  have h2 := tmx_bd N a1.1
  omega
/-! the reference's count, its sum, its next row -/
theorem tct_pos {r : Nat → Int} : ∀ n, trg r n → ∀ v : Nat, (0 < tct r v n ↔ (v : Int) < tmx r n)
  | 0, _, v => by simp [tct, sm, tmx]
  | n + 1, h, v => by
    have h1 := tct_pos n (trg_le h (by omega)) v
    have h2 := h n (by omega)
    have h3 := tct_bd (r := r) (v := v) n
    rw [tct_succ]
    simp only [tmx]
    split <;> split <;> omega
def tnT (r : Nat → Int) (k : Int) (N : Nat) (t : Nat) : Int := if tct r t N = 0 then 0 else if tct r t N ≤ k then 1 else 100
theorem sm_below (m : Int) (hm : 0 ≤ m) : ∀ n : Nat, sm (fun t => if (t : Int) < m then 1 else 0) n = if (n : Int) ≤ m then (n : Int) else m
  | 0 => by simp [sm]; omega
  | n + 1 => by
    show sm _ n + (if (n : Int) < m then (1 : Int) else 0) = _
    rw [sm_below m hm n]
    split <;> split <;> split <;> omega
theorem tn_ok {r : Nat → Int} (hN : N ≤ 8) (h : TOK N k r) : sm (tnT r k N) N = tmx r N := by
  have e : sm (tnT r k N) N = sm (fun t => if (t : Int) < tmx r N then 1 else 0) N := by
    apply sm_congr
    intro t ht
    have h1 := tct_pos N h.1 t
    have h2 := h.2 t (by omega)
    have h3 := tct_bd (r := r) (v := t) N
    unfold tnT
    by_cases c : tct r t N = 0
    · rw [if_pos c, if_neg (by omega)]
    · rw [if_neg c, if_pos h2, if_pos (by omega)]
  have h4 := tmx_bd N h.1
  rw [e, sm_below _ h4.1]
  split <;> omega
theorem sm_one_le {f : Nat → Int} {j : Nat} : ∀ n, j < n → (∀ i, i < n → 0 ≤ f i) → f j ≤ sm f n
  | 0, h, _ => by omega
  | n + 1, h, k => by
    have h1 : 0 ≤ sm f n := by
      have := sm_le n (f := fun _ => 0) (g := f) (fun i hi => k i (by omega))
      rw [sm_zero] at this
      exact this
    have h2 := k n (by omega)
    show f j ≤ sm f n + f n
    by_cases e : j = n
    · rw [e]; omega
    · have := sm_one_le n (show j < n by omega) (fun i hi => k i (by omega))
      omega
theorem tn_no {r : Nat → Int} (hN : N ≤ 8) (hk : 1 ≤ k) (hg : trg r N) (h : ¬ TOK N k r) : 100 ≤ sm (tnT r k N) N := by
  have : ∃ v : Nat, v < 8 ∧ k < tct r v N := by
    rcases Classical.em (∃ v : Nat, v < 8 ∧ k < tct r v N) with q | q
    · exact q
    · refine absurd ⟨hg, fun v hv => ?_⟩ h
      have : ¬ k < tct r v N := fun c => q ⟨v, hv, c⟩
      omega
  obtain ⟨v, hv, hc⟩ := this
  have hvN : v < N := by
    have h1 := (tct_pos N hg v).mp (by omega)
    have h2 := tmx_bd N hg
    omega
  have e : tnT r k N v = 100 := by
    unfold tnT
    rw [if_neg (by omega), if_neg (by omega)]
  have := sm_one_le (f := tnT r k N) N hvN (fun i hi => by unfold tnT; split <;> (try split) <;> omega)
  omega
theorem sm_sq (f : Nat → Nat → Int) (n : Nat) : sm (fun a => sm (f a) (n + 1)) (n + 1) = sm (fun a => sm (f a) n) n + sm (fun a => f n a + f a n) n + f n n := by
  show sm (fun a => sm (f a) n + f a n) n + (sm (f n) n + f n n) = _
  rw [sm_add, sm_add]
  have e1 : sm (fun i => f n i) n = sm (f n) n := rfl
  omega
theorem tw_eq (r : Nat → Int) (n : Nat) : sm (fun a => sm (fun b => if r a = r b then 0 else nd (8 * a + b)) n) n = tcs nd r n := by
  induction n with
  | zero => rfl
  | succ n ih =>
    rw [sm_sq, ih]
    simp only [tcs]
    have : sm (fun a => (if r n = r a then 0 else nd (8 * n + a)) + (if r a = r n then 0 else nd (8 * a + n))) n = tcb nd r n (r n) n := by
      apply sm_congr
      intro i _
      try dsimp only
      by_cases e : r i = r n
      · rw [if_pos e.symm, if_pos e, if_pos e]
        rfl
      · rw [if_neg (fun c => e c.symm), if_neg e, if_neg e]
    rw [this]
    simp
def tgr (r : Nat → Int) : Nat → Int
  | 0 => 0
  | n + 1 => if r n ≤ tgr r n then tgr r n else r n
theorem tgr_eq {r : Nat → Int} : ∀ n, trg r n → tgr r n = if n = 0 then 0 else tmx r n - 1
  | 0, _ => rfl
  | n + 1, h => by
    have h1 := tgr_eq n (trg_le h (by omega))
    have h2 := h n (by omega)
    simp only [tgr, tmx]
    rw [h1, if_neg (show ¬ n + 1 = 0 by omega)]
    by_cases e : n = 0
    · subst e
      have h3 : r 0 = 0 := by
        have : tmx r 0 = 0 := rfl
        omega
      simp [tmx, h3]
    · rw [if_neg e]
      split <;> split <;> omega
/-- behind place t the row is at its most -/
theorem t_most {r q : Nat → Int} {t : Nat} (h8 : N ≤ 8) (hr : trg r N) (hq : trg q N) (ht : t < N) (hm : ∀ s, t < s → s < N → r s = tmx r s) (h : tcd q (t + 1) ≤ tcd r (t + 1)) : tcd q N ≤ tcd r N := by
  have : ∀ m, t + 1 ≤ m → m ≤ N → tcd q m ≤ tcd r m := by
    intro m hm2
    induction hm2 with
    | refl => intro _; exact h
    | step hm3 ih =>
      rename_i m
      have hm4 : t + 1 ≤ m := hm3
      intro hN
      have h1 := ih (by omega)
      have h2 := trg_at hr (show m < N by omega)
      have h3 := trg_at hq (show m < N by omega)
      simp only [tcd]
      by_cases e : tcd q m = tcd r m
      · have e2 := tmx_congr m (tcd_eq m (by omega) (trg_le hq (by omega)) (trg_le hr (by omega)) e)
        have e3 := hm m (by omega) (by omega)
        have e4 := hq m (by omega)
        omega
      · omega
  exact this N (by omega) (Nat.le_refl _)
theorem t_last {r q : Nat → Int} (h8 : N ≤ 8) (hr : trg r N) (hq : trg q N) (hm : ∀ s, 0 < s → s < N → r s = tmx r s) : tcd q N ≤ tcd r N := by
  by_cases e : N = 0
  · subst e
    simp [tcd]
  · refine t_most (t := 0) h8 hr hq (by omega) hm ?_
    have h1 := trg_at hr (show 0 < N by omega)
    have h2 := trg_at hq (show 0 < N by omega)
    simp only [tcd]
    omega
/-- the next row -/
def tnx (r : Nat → Int) (t n : Nat) : Nat → Int := fun i => if t < i ∧ i < n then 0 else if i = t then r t + 1 else r i
theorem tnx_ok {r : Nat → Int} {t : Nat} (h8 : N ≤ 8) (hr : trg r N) (ht : t < N) (h : r t < tmx r t) (hm : ∀ s, t < s → s < N → r s = tmx r s) : trg (tnx r t N) N ∧ tcd r N < tcd (tnx r t N) N ∧ ∀ q, trg q N → tcd r N < tcd q N → tcd (tnx r t N) N ≤ tcd q N := by
  have lo : ∀ i, i < t → tnx r t N i = r i := fun i hi => by
    unfold tnx
    rw [if_neg (by omega), if_neg (by omega)]
  have at_ : tnx r t N t = r t + 1 := by
    unfold tnx
    rw [if_neg (by omega), if_pos rfl]
  have hi_ : ∀ i, t < i → i < N → tnx r t N i = 0 := fun i h1 h2 => by
    unfold tnx
    rw [if_pos ⟨h1, h2⟩]
  have g : ∀ m, m ≤ N → trg (tnx r t N) m := by
    intro m
    induction m with
    | zero => intro _ s hs; omega
    | succ m ih =>
      intro hm2 s hs
      have h1 := ih (by omega)
      have h2 := tmx_bd m h1
      by_cases e : s = m
      · subst e
        by_cases c : s < t
        · rw [lo s c, tmx_congr s (fun u hu => lo u (by omega))]
          exact hr s (by omega)
        · by_cases c2 : s = t
          · subst c2
            rw [at_, tmx_congr s (fun u hu => lo u hu)]
            have := hr s ht
            omega
          · rw [hi_ s (by omega) (by omega)]
            omega
      · exact h1 s (by omega)
  have gN := g N (Nat.le_refl _)
  have e0 : tcd (tnx r t N) t = tcd r t := tcd_congr t lo
  have e1 : tcd (tnx r t N) (t + 1) = tcd r (t + 1) + 1 := by
    simp only [tcd]
    rw [e0, at_]
    omega
  refine ⟨gN, tcd_lt (n := t + 1) N (by omega) h8 hr gN (by omega), fun q hq hlt => ?_⟩
  have h1 : tcd r (t + 1) < tcd q (t + 1) := by
    rcases Classical.em (tcd q (t + 1) ≤ tcd r (t + 1)) with c | c
    · have := t_most h8 hr hq ht hm c
      omega
    · omega
  have : ∀ m, t + 1 ≤ m → m ≤ N → tcd (tnx r t N) m ≤ tcd q m := by
    intro m hm2
    induction hm2 with
    | refl => intro _; omega
    | step hm3 ih =>
      rename_i m
      have hm4 : t + 1 ≤ m := hm3
      intro hN
      have h1 := ih (by omega)
      have h3 := trg_at hq (show m < N by omega)
      simp only [tcd]
      rw [hi_ m (by omega) (by omega)]
      omega
  exact this N (by omega) (Nat.le_refl _)
end TEAMS

/-! small things for the segments -/
theorem sgn_in (x y : Int) : inR (sgn x y) := by
  unfold sgn
  split
  · omega
  · split <;> omega
theorem sgn_ge {x y : Int} : 0 ≤ sgn x y ↔ y ≤ x := by
  unfold sgn
  split
  · omega
  · split <;> omega
theorem sgn_lt {x y : Int} : sgn x y < 0 ↔ x < y := by
  unfold sgn
  split
  · omega
  · split <;> omega
theorem sgn_gt {x y : Int} : 0 < sgn x y ↔ y < x := by
  unfold sgn
  split
  · omega
  · split <;> omega
theorem sgn_le {x y : Int} : sgn x y ≤ 0 ↔ x ≤ y := by
  unfold sgn
  split
  · omega
  · split <;> omega
theorem sgn_eq {x y : Int} : sgn x y = 0 ↔ x = y := by
  unfold sgn
  split
  · omega
  · split <;> omega
theorem sgn_ne {x y : Int} : sgn x y ≠ 0 ↔ x ≠ y := not_congr sgn_eq
theorem run_deep : ∀ (n d m : Nat) (c : mC) (r : Option mV) (t : mH), run n d m c r t → run n (d + 1) m c r t := by
  intro n
  induction n with
  | zero => intro d m c r t h; exact h.elim
  | succ n ih =>
    intro d m c r t h
    unfold run at h ⊢
    split at h
    next => exact h.elim
    next e he =>
      split at h
      next => exact h.elim
      next => exact gd_imp h (ih _ _ _ _ _)
      next => exact ⟨h.1, h.2.elim (fun q => Or.inl ⟨q.1, ih _ _ _ _ _ q.2⟩) (fun q => Or.inr ⟨q.1, ih _ _ _ _ _ q.2⟩)⟩
      next =>
        refine gd_imp h (fun h2 => ?_)
        cases d with
        | zero => exact h2.elim
        | succ d =>
          obtain ⟨r1, h1, a, b⟩ := h2
          exact ⟨r1, h1, ih _ _ _ _ _ a, ih _ _ _ _ _ b⟩
      next => exact h
theorem Ev.deep {d d2 m : Nat} {c : mC} {Q : Option mV → mH → Prop} (h : d ≤ d2) (k : Ev d m c Q) : Ev d2 m c Q := by
  induction h with
  | refl => exact k
  | step _ ih =>
    obtain ⟨n, r, t, a, b⟩ := ih
    exact ⟨n, r, t, run_deep _ _ _ _ _ _ a, b⟩
/-- a call: its contract, and what follows it -/
theorem Ev.then {d d2 m : Nat} {c : mC} {Q Q2 : Option mV → mH → Prop} (k : Ev d m c Q) (h : d ≤ d2) (f : ∀ r t, Q r t → Q2 r t) : Ev d2 m c Q2 := Ev.mono (Ev.deep h k) f
theorem up_eq {α : Type} (f : Nat → α) (k : Nat) (x : α) : up f k x k = x := by simp [up]
theorem up_ne {α : Type} (f : Nat → α) {k i : Nat} (x : α) (h : i ≠ k) : up f k x i = f i := by simp [up, h]
theorem up_up {α : Type} (f : Nat → α) (k : Nat) (x y : α) : up (up f k x) k y = up f k y := by
  funext i
  by_cases h : i = k <;> simp [up, h]
theorem up_id {α : Type} (f : Nat → α) (k : Nat) : up f k (f k) = f := by
  funext i
  by_cases h : i = k <;> simp [up, h]

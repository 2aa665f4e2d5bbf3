/-! FEWER LOCALS do no harm; segments up to given places -/
def Lle (L L2 : mL) : Prop := L.length = L2.length ∧ ∀ (i : Nat) (v : mV), mNth L i = some (some v) → mNth L2 i = some (some v)
theorem mLt_of {α : Type} : ∀ (l : List α) (i : Nat), i < l.length → mLt l i = true
  | [], i, h => by simp at h
  | a :: l, 0, _ => rfl
  | a :: l, i + 1, h => by
    have := mLt_of l i (by simpa using h)
    simpa [mLt] using this
theorem mCut_put {L : mL} {i j : Nat} {w : mV} (h : mNth L j = some (some w)) (h2 : ¬ (j + 1 = i ∧ m2 w = true)) : mNth (mCut L i) j = some (some w) := by
  cases i with
  | zero => exact h
  | succ i =>
    simp only [mCut]
    split
    next z hz =>
      by_cases e : j = i
      · subst e
        rw [h] at hz
        cases hz
        exact absurd ⟨rfl, rfl⟩ h2
      · rw [mSet_ne _ e]
        exact h
    next => exact h
theorem mPut_2 {L : mL} {i : Nat} {z : Int} : mPut L i (vL z) = mSet (mSet (mCut L i) i (some (vL z))) (i + 1) none := rfl
theorem Lle.put {L L2 : mL} (h : Lle L L2) {i : Nat} {v : mV} (hi : i < L.length) : Lle (mPut L i v) (mPut L2 i v) := by
  have hi2 : i < L2.length := by rw [← h.1]; exact hi
  cases hv : m2 v with
  | false =>
    rw [mPut_1 hv, mPut_1 hv]
    refine ⟨by rw [mSet_len, mSet_len, mCut_len, mCut_len]; exact h.1, fun j w hw => ?_⟩
    by_cases e : j = i
    · subst e
      rw [mSet_eq _ (by rw [mCut_len]; exact hi)] at hw
      rw [mSet_eq _ (by rw [mCut_len]; exact hi2)]
      exact hw
    · rw [mSet_ne _ e] at hw ⊢
      obtain ⟨h1, h2⟩ := mCut_get hw
      exact mCut_put (h.2 _ _ h1) h2
  | true =>
    obtain ⟨z, rfl⟩ : ∃ z, v = vL z := by
      rcases v with z | z | z | z
      · cases hv
      · exact ⟨z, rfl⟩
      · cases hv
      · cases hv
    rw [mPut_2, mPut_2]
    refine ⟨by rw [mSet_len, mSet_len, mSet_len, mSet_len, mCut_len, mCut_len]; exact h.1, fun j w hw => ?_⟩
    by_cases e2 : j = i + 1
    · subst e2
      have hl := mNth_lt hw
      rw [mSet_len] at hl
      rw [mSet_eq _ hl] at hw
      cases hw
    rw [mSet_ne _ e2] at hw ⊢
    by_cases e : j = i
    · subst e
      rw [mSet_eq _ (by rw [mCut_len]; exact hi)] at hw
      rw [mSet_eq _ (by rw [mCut_len]; exact hi2)]
      exact hw
    · rw [mSet_ne _ e] at hw ⊢
      obtain ⟨h1, h2⟩ := mCut_get hw
      exact mCut_put (h.2 _ _ h1) h2
abbrev mRr : Type := (Option Prop × mC) ⊕ (Prop × Prop × Nat × Nat × mL × List mV × mH) ⊕ (Option Prop × Nat × List mV × Nat × mL × List mV × mH) ⊕ (Option Prop × Option mV × mH)
def Rle (r r2 : mRr) : Prop := match r, r2 with
  | .inl (g, pc, L, S, h), .inl (g2, pc2, L2, S2, h2) => g = g2 ∧ pc = pc2 ∧ S = S2 ∧ h = h2 ∧ Lle L L2
  | .inr (.inl (g, k, p, q, L, S, h)), .inr (.inl (g2, k2, p2, q2, L2, S2, h2)) => g = g2 ∧ k = k2 ∧ p = p2 ∧ q = q2 ∧ S = S2 ∧ h = h2 ∧ Lle L L2
  | .inr (.inr (.inl (g, k, a, pc, L, S, h))), .inr (.inr (.inl (g2, k2, a2, pc2, L2, S2, h2))) => g = g2 ∧ k = k2 ∧ a = a2 ∧ pc = pc2 ∧ S = S2 ∧ h = h2 ∧ Lle L L2
  | .inr (.inr (.inr x)), .inr (.inr (.inr y)) => x = y
  | _, _ => False
theorem mkS {X : mR} {g : Option Prop} {pc : Nat} {L L2 : mL} {S : List mV} {h : mH} (hL : Lle L L2) (e : X = some (.inl (g, pc, L2, S, h))) : ∃ r2, X = some r2 ∧ Rle (.inl (g, pc, L, S, h)) r2 := ⟨_, e, rfl, rfl, rfl, rfl, hL⟩
theorem mkB {X : mR} {g k : Prop} {p q : Nat} {L L2 : mL} {S : List mV} {h : mH} (hL : Lle L L2) (e : X = some (.inr (.inl (g, k, p, q, L2, S, h)))) : ∃ r2, X = some r2 ∧ Rle (.inr (.inl (g, k, p, q, L, S, h))) r2 := ⟨_, e, rfl, rfl, rfl, rfl, rfl, rfl, hL⟩
theorem mkC {X : mR} {g : Option Prop} {k pc : Nat} {a : List mV} {L L2 : mL} {S : List mV} {h : mH} (hL : Lle L L2) (e : X = some (.inr (.inr (.inl (g, k, a, pc, L2, S, h))))) : ∃ r2, X = some r2 ∧ Rle (.inr (.inr (.inl (g, k, a, pc, L, S, h)))) r2 := ⟨_, e, rfl, rfl, rfl, rfl, rfl, rfl, hL⟩
theorem mkE {X : mR} {x : Option Prop × Option mV × mH} (e : X = some (.inr (.inr (.inr x)))) : ∃ r2, X = some r2 ∧ Rle (.inr (.inr (.inr x))) r2 := ⟨_, e, rfl⟩
theorem mCall_weak {pc : Nat} {L L2 : mL} {S : List mV} {h : mH} {m : Nat} {st : Bool} {r : mRr} (hL : Lle L L2) (hs : mCall pc L S h m st = some r) : ∃ r2, mCall pc L2 S h m st = some r2 ∧ Rle r r2 := by
  obtain ⟨args, rest, ht, h1, h2, h5⟩ := mCall_out hs
  rcases h5 with ⟨rfl, hm, rfl⟩ | ⟨rfl, hm, o, as, rfl, rfl⟩
  · refine mkC hL ?_
    unfold mCall
    rw [ht]
    dsimp only
    rw [Nat.ble_eq_true_of_le h1, Nat.ble_eq_true_of_le h2]
    dsimp only
    rw [hm]
  · refine mkC hL ?_
    unfold mCall
    rw [ht]
    dsimp only
    rw [Nat.ble_eq_true_of_le h1, Nat.ble_eq_true_of_le h2]
    dsimp only
    rw [hm]
set_option maxHeartbeats 4000000 in
theorem stp_weak {e : mE} {pc : Nat} {L L2 : mL} {S : List mV} {h : mH} {r : mRr} (hL : Lle L L2) (hs : stp e pc L S h = some r) : ∃ r2, stp e pc L2 S h = some r2 ∧ Rle r r2 := by
  obtain ⟨i, x, y, z⟩ := e
  have ld : ∀ (pc i k : Nat), mLoad pc L S h i k = some r → ∃ r2, mLoad pc L2 S h i k = some r2 ∧ Rle r r2 := by
    intro pc i k q
    rcases mLoad_out q with ⟨z, rfl, hz, rfl⟩ | ⟨z, rfl, hz, rfl⟩ | ⟨z, rfl, hz, rfl⟩ | ⟨z, rfl, hz, rfl⟩ <;> exact mkS hL (by simp only [mLoad, hL.2 _ _ hz])
  have st : ∀ (pc i k : Nat), mStore pc L S h i k = some r → ∃ r2, mStore pc L2 S h i k = some r2 ∧ Rle r r2 := by
    intro pc i k q
    rcases mStore_out q with ⟨z, T, rfl, rfl, hi, rfl⟩ | ⟨z, T, rfl, rfl, hi, rfl⟩ | ⟨z, T, rfl, rfl, hi, rfl⟩ | ⟨z, T, rfl, rfl, hi, rfl⟩
    · exact mkS (hL.put hi) (by unfold mStore; rw [mLt_of L2 i (by rw [← hL.1]; exact hi)]; cases mLt L2 (i + 1) <;> rfl)
    · exact mkS (hL.put (by omega)) (by unfold mStore; rw [mLt_of L2 (i + 1) (by rw [← hL.1]; exact hi)]; cases mLt L2 i <;> rfl)
    · exact mkS (hL.put hi) (by unfold mStore; rw [mLt_of L2 i (by rw [← hL.1]; exact hi)]; cases mLt L2 (i + 1) <;> rfl)
    · exact mkS (hL.put hi) (by unfold mStore; rw [mLt_of L2 i (by rw [← hL.1]; exact hi)]; cases mLt L2 (i + 1) <;> rfl)
  cases i
  case iinc i n =>
    dsimp only [stp] at hs
    split at hs
    next v h1 h2 =>
      cases hs
      exact mkS (hL.put (mLt_lt _ _ h2)) (by simp only [stp, hL.2 _ _ h1, mLt_of L2 i (by rw [← hL.1]; exact mLt_lt _ _ h2)])
    next => cases hs
  case invokevirtual i => exact mCall_weak hL hs
  case invokestatic i =>
    dsimp only [stp] at hs
    split at hs
    next =>
      split at hs
      · cases hs
        exact mkS hL rfl
      · cases hs
    next =>
      split at hs
      · cases hs
        exact mkS hL rfl
      · cases hs
    next =>
      split at hs
      · cases hs
        exact mkS hL rfl
      · cases hs
    next n1 n2 n3 =>
      dsimp only [stp]
      split
      next => exact absurd rfl n1
      next => exact absurd rfl n2
      next => exact absurd rfl n3
      next => exact mCall_weak hL hs
  case getfield =>
    dsimp only [stp] at hs
    split at hs
    · unfold mGet at hs
      split at hs
      next q => cases hs; exact mkS hL (by simp only [stp, mGet, q])
      next q => cases hs; exact mkS hL (by simp only [stp, mGet, q])
      next q => cases hs; exact mkS hL (by simp only [stp, mGet, q])
      next k0 k1 k2 =>
        cases hs
        refine mkS hL ?_
        dsimp only [stp]
        unfold mGet
        split
        next q => exact absurd q k0
        next q => exact absurd q k1
        next q => exact absurd q k2
        next => rfl
    · cases hs
  case putfield =>
    dsimp only [stp] at hs
    split at hs
    · unfold mPutf at hs
      split at hs
      next q => cases hs; exact mkS hL (by simp only [stp, mPutf, q])
      next q => cases hs; exact mkS hL (by simp only [stp, mPutf, q])
      · cases hs
    · cases hs
  case ireturn =>
    dsimp only [stp] at hs
    split at hs
    next => cases hs; exact mkE rfl
    next q => cases hs; exact mkE (by simp only [stp])
    next => cases hs
  all_goals first
    | exact ld _ _ _ hs
    | exact st _ _ _ hs
    | (cases hs; exact mkS hL rfl)
    | (dsimp only [stp] at hs; split at hs <;> first | (cases hs; exact mkS hL rfl) | (cases hs; exact mkB hL rfl) | (cases hs; exact mkE rfl) | (cases hs; done))
    | (cases hs; done)
theorem run_weak : ∀ (n d m pc : Nat) (L L2 : mL) (S : List mV) (h : mH) (r : Option mV) (t : mH), Lle L L2 → run n d m (pc, L, S, h) r t → run n d m (pc, L2, S, h) r t := by
  intro n
  induction n with
  | zero => intro d m pc L L2 S h r t hL k; exact k.elim
  | succ n ih =>
    intro d m pc L L2 S h r t hL k
    unfold run at k ⊢
    dsimp only at k ⊢
    cases he : pg m pc with
    | none =>
      rw [he] at k
      exact k.elim
    | some e =>
      rw [he] at k
      dsimp only at k ⊢
      cases hs : stp e pc L S h with
      | none =>
        rw [hs] at k
        exact k.elim
      | some r1 =>
        obtain ⟨r2, hs2, hr⟩ := stp_weak hL hs
        rw [hs] at k
        rw [hs2]
        rcases r1 with ⟨g, pc1, L1, S1, h1⟩ | ⟨g, kk, p, q, L1, S1, h1⟩ | ⟨g, kk, a, pc1, L1, S1, h1⟩ | ⟨g, v, h1⟩ <;> rcases r2 with ⟨g2, pc2, L2', S2, h2⟩ | ⟨g2, k2, p2, q2, L2', S2, h2⟩ | ⟨g2, k2, a2, pc2, L2', S2, h2⟩ | ⟨g2, v2, h2⟩ <;> first | exact hr.elim | skip
        · obtain ⟨rfl, rfl, rfl, rfl, hl⟩ := hr
          exact gd_imp k (ih _ _ _ _ _ _ _ _ _ hl)
        · obtain ⟨rfl, rfl, rfl, rfl, rfl, rfl, hl⟩ := hr
          exact ⟨k.1, k.2.elim (fun z => Or.inl ⟨z.1, ih _ _ _ _ _ _ _ _ _ hl z.2⟩) (fun z => Or.inr ⟨z.1, ih _ _ _ _ _ _ _ _ _ hl z.2⟩)⟩
        · obtain ⟨rfl, rfl, rfl, rfl, rfl, rfl, hl⟩ := hr
          refine gd_imp k (fun z => ?_)
          cases d with
          | zero => exact z.elim
          | succ d =>
            obtain ⟨r1, t1, a1, b1⟩ := z
            exact ⟨r1, t1, a1, ih _ _ _ _ _ _ _ _ _ hl b1⟩
        · cases hr
          exact k
theorem Ev.weak {d m pc : Nat} {L L2 : mL} {S : List mV} {h : mH} {Q : Option mV → mH → Prop} (hL : Lle L L2) (k : Ev d m (pc, L, S, h) Q) : Ev d m (pc, L2, S, h) Q := by
  obtain ⟨n, r, t, a, b⟩ := k
  exact ⟨n, r, t, run_weak _ _ _ _ _ _ _ _ _ _ hL a, b⟩
/-- only the first k locals -/
def mKeep : Nat → mL → mL
  | _, [] => []
  | 0, _ :: L => none :: mKeep 0 L
  | k + 1, a :: L => a :: mKeep k L
theorem mKeep_le : ∀ (k : Nat) (L : mL), Lle (mKeep k L) L
  | k, [] => by cases k <;> exact ⟨rfl, fun _ _ h => h⟩
  | 0, a :: L => by
    have := mKeep_le 0 L
    refine ⟨by simp [mKeep, this.1], fun i v h => ?_⟩
    cases i with
    | zero => simp [mKeep, mNth] at h
    | succ i => exact this.2 i v h
  | k + 1, a :: L => by
    have := mKeep_le k L
    refine ⟨by simp [mKeep, this.1], fun i v h => ?_⟩
    cases i with
    | zero => exact h
    | succ i => exact this.2 i v h
def atP : List (Nat × Nat) → Nat → Option Nat
  | [], _ => none
  | (p, k) :: ps, pc => match Nat.beq p pc with
    | true => some k
    | false => atP ps pc
def wq : Nat → Nat → Nat → List (Nat × Nat) → Nat → mL → List mV → mH → (Option mV → mH → Prop) → Prop
  | 0, d, m, _, pc, L, S, h, Q => Ev d m (pc, L, S, h) Q
  | n + 1, d, m, ps, pc, L, S, h, Q => match pg m pc with
    | none => False
    | some e => match stp e pc L S h with
      | none => False
      | some (.inl (g, pc, L, S, h)) => gd g (match atP ps pc with
        | some k => Ev d m (pc, mKeep k L, S, h) Q
        | none => wq n d m ps pc L S h Q)
      | some (.inr (.inl (g, k, p, q, L, S, h))) => g ∧ (k → (match atP ps p with
        | some k => Ev d m (p, mKeep k L, S, h) Q
        | none => wq n d m ps p L S h Q)) ∧ (¬ k → (match atP ps q with
        | some k => Ev d m (q, mKeep k L, S, h) Q
        | none => wq n d m ps q L S h Q))
      | some (.inr (.inr (.inl (g, k, a, pc, L, S, h)))) => gd g (match d with
        | 0 => False
        | d2 + 1 => Ev d2 k (0, mIn k a, [], h) (fun r1 h1 => match atP ps pc with
          | some k => Ev d m (pc, mKeep k L, mPush r1 S, h1) Q
          | none => Ev d m (pc, L, mPush r1 S, h1) Q))
      | some (.inr (.inr (.inr (g, v, h)))) => gd g (Q v h)
theorem wq_ok : ∀ (n d m : Nat) (ps : List (Nat × Nat)) (pc : Nat) (L : mL) (S : List mV) (h : mH) (Q : Option mV → mH → Prop), wq n d m ps pc L S h Q → Ev d m (pc, L, S, h) Q := by
  intro n
  induction n with
  | zero => intro d m ps pc L S h Q k; exact k
  | succ n ih =>
    intro d m ps pc L S h Q k
    have pick : ∀ (pc : Nat) (L : mL) (S : List mV) (h : mH), (match atP ps pc with
        | some k => Ev d m (pc, mKeep k L, S, h) Q
        | none => wq n d m ps pc L S h Q) → Ev d m (pc, L, S, h) Q := by
      intro pc L S h k
      split at k
      next => exact Ev.weak (mKeep_le _ _) k
      next => exact ih _ _ _ _ _ _ _ _ k
    unfold wq at k
    have one : ∀ (j : Nat) (r : Option mV) (t : mH), run (j + 1) d m (pc, L, S, h) r t → Q r t → Ev d m (pc, L, S, h) Q := fun j r t a b => ⟨j + 1, r, t, a, b⟩
    unfold run at one
    dsimp only at one
    split at k
    next => exact k.elim
    next e he =>
      rw [he] at one
      dsimp only at one
      split at k
      next => exact k.elim
      next hs =>
        rw [hs] at one
        obtain ⟨j, r, t, a, b⟩ := pick _ _ _ _ (gd_out k)
        exact one j r t (gd_imp k (fun _ => a)) b
      next hs =>
        rw [hs] at one
        rename_i g kk p q L S hh
        rcases Classical.em kk with z | z
        · obtain ⟨j, r, t, a, b⟩ := pick _ _ _ _ (k.2.1 z)
          exact one j r t ⟨k.1, Or.inl ⟨z, a⟩⟩ b
        · obtain ⟨j, r, t, a, b⟩ := pick _ _ _ _ (k.2.2 z)
          exact one j r t ⟨k.1, Or.inr ⟨z, a⟩⟩ b
      next hs =>
        rw [hs] at one
        rename_i gx kx ax pcx Lx Sx hx
        have h2 := gd_out k
        cases d with
        | zero => exact h2.elim
        | succ d =>
          obtain ⟨j, r, t, a, hc⟩ := h2
          have hc2 : Ev (d + 1) m (pcx, Lx, mPush r Sx, t) Q := by
            split at hc
            next => exact Ev.weak (mKeep_le _ _) hc
            next => exact hc
          obtain ⟨k2, r2, t2, a2, b2⟩ := hc2
          exact one (j + k2) r2 t2 (gd_imp k (fun _ => ⟨r, t, run_le (Nat.le_add_right _ _) a, run_le (Nat.le_add_left _ _) a2⟩)) b2
      next hs =>
        rw [hs] at one
        exact one 0 _ _ (gd_imp k (fun _ => ⟨rfl, rfl⟩)) (gd_out k)

/-! SPREAD: the reference -/
section SPREADM
variable {sc : Nat → Int} {ar : Nat → Nat → Int} {Q : Option mV → mH → Prop} {d : Nat} {N a : Nat} {nd : Nat → Int}
/-- the reference's row, at least the r-th round's, at most what is shut -/
def MJ (nd : Nat → Int) (N a r : Nat) (G : Nat → Int) : Prop := (∀ y, y < 8 → 0 ≤ G y ∧ G y ≤ 10000000) ∧ (∀ y, y < 8 → TF nd N a r y ≤ G y) ∧ ∀ U, (∀ y, y < 8 → 0 ≤ U y) → shut nd N a U → ∀ y, y < 8 → G y ≤ U y
theorem MJ_up {r x y : Nat} {G : Nat → Int} (hR : R9 nd) (hN : N ≤ 8) (hx : x < N) (hy : y < N) (h : MJ nd N a r G) : MJ nd N a r (up G y (if pw (G x) (nd (8 * y + x)) ≤ G y then G y else pw (G x) (nd (8 * y + x)))) := by
  obtain ⟨h1, h2, h3⟩ := h
  have hb := h1 x (by omega)
  have hp := pw_bd hb.1 (hR.at (show y < 8 by omega) (show x < 8 by omega))
  refine ⟨fun u hu => ?_, fun u hu => ?_, fun U hU hs u hu => ?_⟩
  · by_cases e : u = y
    · rw [e, up_eq]
      have := h1 y (by omega)
      split <;> omega
    · rw [up_ne _ _ e]
      exact h1 u hu
  · have := h2 u hu
    by_cases e : u = y
    · rw [e, up_eq]
      rw [e] at this
      split <;> omega
    · rw [up_ne _ _ e]
      exact this
  · have h4 := h3 U hU hs
    by_cases e : u = y
    · rw [e, up_eq]
      have a1 := h4 y (by omega)
      have a2 := pw_mono hb.1 (h4 x (by omega)) (hR.at (show y < 8 by omega) (show x < 8 by omega)).1
      have a3 := hs.2 x y hx (by omega)
      split <;> omega
    · rw [up_ne _ _ e]
      exact h4 u hu
/-- what has passed in this round -/
def PD (nd : Nat → Int) (N a r x y : Nat) (G : Nat → Int) : Prop := ∀ u v, u < N → v < N → (u < x ∨ (u = x ∧ v < y)) → pw (TF nd N a r u) (nd (8 * v + u)) ≤ G v
theorem PD_up {r x y : Nat} {G : Nat → Int} (hR : R9 nd) (hN : N ≤ 8) (hx : x < N) (hy : y < N) (h : MJ nd N a r G) (k : PD nd N a r x y G) : PD nd N a r x (y + 1) (up G y (if pw (G x) (nd (8 * y + x)) ≤ G y then G y else pw (G x) (nd (8 * y + x)))) := by
  intro u v hu hv hc
  by_cases e : v = y
  · subst e
    rw [up_eq]
    by_cases e2 : u = x
    · subst e2
      have := pw_mono (TF_bd r u) (h.2.1 u (by omega)) (hR.at (show v < 8 by omega) (show u < 8 by omega)).1
      split <;> omega
    · have := k u v hu hv (by omega)
      split <;> omega
  · rw [up_ne _ _ e]
    exact k u v hu hv (by omega)
theorem lp_forcesI {r x : Nat} {a0 : Nat → Nat → Int} (hR : R9 nd) (hN : N ≤ 8) (hx : x < N) (hn : sc 177 = (N : Int)) (hnd : a0 179 = nd) (k : ∀ G, MJ nd N a r G → PD nd N a r (x + 1) 0 G → Ev 0 M_Md_forces (42, [some (vO 11), some (vI a), some (vI r), some (vI ((x : Int) + 1)), none, none, none], [], (sc, up a0 191 G)) Q) :
    ∀ j y : Nat, y + j = N → ∀ G, MJ nd N a r G → PD nd N a r x y G → Ev 0 M_Md_forces (53, [some (vO 11), some (vI a), some (vI r), some (vI x), some (vI y), none, none], [], (sc, up a0 191 G)) Q := by
  intro j
  induction j with
  | zero =>
    intro y hy G h h2
    have : y = N := by omega
    subst this
    exact sg_Md_forces_53 ⟨by omega, by omega, fun _ => k G h (fun u v hu hv hc => h2 u v hu hv (by omega)), fun c => by omega⟩
  | succ j ih =>
    intro y hy G h h2
    have hb := h.1 x (by omega)
    have hby := h.1 y (by omega)
    have r1 := hR.at (show y < 8 by omega) (show x < 8 by omega)
    have hp := pw_bd hb.1 r1
    have n1 := MJ_up hR hN hx (show y < N by omega) h
    have n2 := PD_up hR hN hx (show y < N by omega) h h2
    have h1 := ih (y + 1) (by omega) _ n1 n2
    have ep : Int.tdiv (G x * nd (8 * y + x)) 10 = pw (G x) (nd (8 * y + x)) := rfl
    refine sg_Md_forces_53 ⟨by omega, by omega, fun c => by omega, fun _ => ⟨by omega, by omega, by omega, by omega, ?_⟩⟩
    rw [up_ne _ _ (show (179 : Nat) ≠ 191 by decide), hnd, show (8 * (y : Int) + (x : Int)).toNat = 8 * y + x by omega]
    simp only [up_eq, up_up, Int.toNat_natCast]
    rw [ep]
    refine ⟨by omega, by omega, by omega, by omega, by omega, by omega, fun c => ⟨by omega, by omega, by omega, by omega, ?_⟩, fun c => ⟨by omega, by omega, ?_⟩⟩
    · rw [if_pos c] at h1
      exact h1
    · rw [if_neg c] at h1
      exact h1
theorem lp_forcesX {r : Nat} {a0 : Nat → Nat → Int} (hR : R9 nd) (hN : N ≤ 8) (hz : ∀ a b : Nat, a < 8 → b < 8 → (N ≤ a ∨ N ≤ b ∨ a = b) → nd (8 * a + b) = 0) (hn : sc 177 = (N : Int)) (hnd : a0 179 = nd) (k : ∀ G, MJ nd N a (r + 1) G → Ev 0 M_Md_forces (34, [some (vO 11), some (vI a), some (vI ((r : Int) + 1)), none, none, none, none], [], (sc, up a0 191 G)) Q) :
    ∀ j x : Nat, x + j = N → ∀ G, MJ nd N a r G → PD nd N a r x 0 G → Ev 0 M_Md_forces (42, [some (vO 11), some (vI a), some (vI r), some (vI x), none, none, none], [], (sc, up a0 191 G)) Q := by
  intro j
  induction j with
  | zero =>
    intro x hx G h h2
    have : x = N := by omega
    subst this
    refine sg_Md_forces_42 ⟨by omega, by omega, fun _ => k G ⟨h.1, fun y hy => mxT_le x (h.2.1 y hy) (fun u hu => ?_), h.2.2⟩, fun c => by omega⟩
    by_cases hy2 : y < x
    · exact h2 u y hu hy2 (Or.inl hu)
    · rw [hz y u hy (by omega) (Or.inl (by omega)), pw_zero]
      exact (h.1 y hy).1
  | succ j ih =>
    intro x hx G h h2
    exact sg_Md_forces_42 ⟨by omega, by omega, fun c => by omega, fun _ => lp_forcesI hR hN (by omega) hn hnd (ih (x + 1) (by omega)) N 0 (by omega) G h h2⟩
theorem lp_forcesR {a0 : Nat → Nat → Int} (hR : R9 nd) (hN : N ≤ 8) (hz : ∀ a b : Nat, a < 8 → b < 8 → (N ≤ a ∨ N ≤ b ∨ a = b) → nd (8 * a + b) = 0) (hn : sc 177 = (N : Int)) (hnd : a0 179 = nd) (k : ∀ G, FM nd N a G → Q none (sc, up a0 191 G)) :
    ∀ j r : Nat, r + j = 8 → ∀ G, MJ nd N a r G → Ev 0 M_Md_forces (34, [some (vO 11), some (vI a), some (vI r), none, none, none, none], [], (sc, up a0 191 G)) Q := by
  intro j
  induction j with
  | zero =>
    intro r hr G h
    have : r = 8 := by omega
    subst this
    exact sg_Md_forces_34 ⟨by omega, fun _ => k G h, fun c => by omega⟩
  | succ j ih =>
    intro r hr G h
    exact sg_Md_forces_34 ⟨by omega, fun c => by omega, fun _ => lp_forcesX hR hN hz hn hnd (ih (r + 1) (by omega)) N 0 (by omega) G h (fun u v _ _ hc => by omega)⟩
theorem lp_forces0 {a0 : Nat → Nat → Int} (ha : a < 8) (k : ∀ f, (∀ y, y < 8 → f y = fz0 a y) → Ev 0 M_Md_forces (34, [some (vO 11), some (vI a), some (vI 0), none, none, none, none], [], (sc, up a0 191 f)) Q) :
    ∀ j i : Nat, i + j = 8 → ∀ f, (∀ y, y < i → f y = fz0 a y) → Ev 0 M_Md_forces (2, [some (vO 11), some (vI a), some (vI i), none, none, none, none], [], (sc, up a0 191 f)) Q := by
  intro j
  induction j with
  | zero =>
    intro i hi f h
    have : i = 8 := by omega
    subst this
    exact sg_Md_forces_2 ⟨by omega, fun _ => k f h, fun c => by omega⟩
  | succ j ih =>
    intro i hi f h
    have go : ∀ v, v = fz0 a i → Ev 0 M_Md_forces (2, [some (vO 11), some (vI a), some (vI ((i : Int) + 1)), none, none, none, none], [], (sc, up a0 191 (up f i v))) Q := by
      intro v hv
      refine ih (i + 1) (by omega) _ (fun y hy => ?_)
      by_cases e : y = i
      · rw [e, up_eq, hv]
      · rw [up_ne _ _ e]
        exact h y (by omega)
    refine sg_Md_forces_2 ⟨by omega, fun c => by omega, fun _ => ⟨by omega, by omega, fun c => ⟨by omega, by omega, ?_⟩, fun c => ⟨by omega, by omega, ?_⟩⟩⟩
    · simp only [up_eq, up_up, Int.toNat_natCast]
      refine go _ ?_
      unfold fz0
      rw [if_neg (by omega)]
    · simp only [up_eq, up_up, Int.toNat_natCast]
      refine go _ ?_
      unfold fz0
      rw [if_pos (by omega)]
theorem ct_forces (hR : R9 nd) (hz : ∀ a b : Nat, a < 8 → b < 8 → (N ≤ a ∨ N ≤ b ∨ a = b) → nd (8 * a + b) = 0) (hN : N ≤ 8) (ha : a < N) (hn : sc 177 = (N : Int)) (hnd : ar 179 = nd) (k : ∀ G, FM nd N a G → Q none (sc, up ar 191 G)) : Ev d M_Md_forces (0, [some (vO 11), some (vI a), none, none, none, none, none], [], (sc, ar)) Q := by
  refine Ev.deep (Nat.zero_le d) (sg_Md_forces_0 ?_)
  have := lp_forces0 (sc := sc) (Q := Q) (a0 := ar) (a := a) (by omega) (fun f hf => lp_forcesR (nd := nd) hR hN hz hn hnd k 8 0 (by omega) f ⟨fun y hy => by
      rw [hf y hy]
      unfold fz0
      split <;> omega, fun y hy => by
      rw [hf y hy]
      exact Int.le_refl _, fun U _ hs y hy => by
      rw [hf y hy]
      exact hs.1 y hy⟩) 8 0 (by omega) (ar 191) (fun y h => by omega)
  rw [up_id] at this
  exact this
/-! how many are reached -/
theorem lp_howManyF {F : Nat → Int} {b : Int} (hF : ar 160 = F) (hb : ∀ y, y < 8 → 0 ≤ F y ∧ F y ≤ 10000000) (hbb : inR b) (k : Q (some (vI (sm (fun t => if F t < b then 0 else 1) 8))) (sc, ar)) : ∀ j i : Nat, i + j = 8 → Ev 0 M_Spread_howMany (14, [some (vO 10), some (vI b), some (vI (sm (fun t => if F t < b then 0 else 1) i)), some (vA 160), some (vI 8), some (vI i), none], [], (sc, ar)) Q := by
  intro j
  induction j with
  | zero =>
    intro i hi
    have : i = 8 := by omega
    subst this
    exact sg_Spread_howMany_14 ⟨by omega, by omega, fun _ => k, fun c => by omega⟩
  | succ j ih =>
    intro i hi
    have h1 := ih (i + 1) (by omega)
    have := hb i (by omega)
    refine sg_Spread_howMany_14 ⟨by omega, by omega, fun c => by omega, fun _ => ⟨by omega, by omega, ?_⟩⟩
    rw [hF, Int.toNat_natCast]
    simp only [sm] at h1
    refine ⟨by omega, hbb, fun c => ?_, fun c => ?_⟩
    · rw [if_pos c] at h1
      exact h1
    · rw [if_neg c] at h1
      exact h1
theorem ct_howManyF {F : Nat → Int} {b : Int} (hF : ar 160 = F) (hb : ∀ y, y < 8 → 0 ≤ F y ∧ F y ≤ 10000000) (hbb : inR b) (k : Q (some (vI (sm (fun t => if F t < b then 0 else 1) 8))) (sc, ar)) : Ev d M_Spread_howMany (0, [some (vO 10), some (vI b), none, none, none, none, none], [], (sc, ar)) Q :=
  Ev.deep (Nat.zero_le d) (sg_Spread_howMany_0 (lp_howManyF hF hb hbb k 8 0 (by omega)))
theorem lp_reachM {G : Nat → Int} {a : Nat} {x : Int} (hN : N ≤ 8) (ha : a < N) (hn : sc 177 = (N : Int)) (hG : ar 191 = G) (hb : ∀ y, y < 8 → 0 ≤ G y ∧ G y ≤ 10000000) (hx : 1 ≤ x ∧ x ≤ 1000) (k : Q (some (vI (sm (fun t => if t = a then 0 else if G t < x * 10000 then 0 else 1) N))) (sc, ar)) : ∀ j i : Nat, i + j = N → Ev 2 M_Md_reach (40, [some (vO 11), some (vI a), some (vI x), some (vI (sm (fun t => if t = a then 0 else if G t < x * 10000 then 0 else 1) i)), some (vI i)], [], (sc, ar)) Q := by
  intro j
  induction j with
  | zero =>
    intro i hi
    have : i = N := by omega
    subst this
    exact sg_Md_reach_40 ⟨by omega, by omega, fun _ => k, fun c => by omega⟩
  | succ j ih =>
    intro i hi
    have h1 := ih (i + 1) (by omega)
    have := hb i (by omega)
    simp only [sm] at h1
    refine sg_Md_reach_40 ⟨by omega, by omega, fun c => by omega, fun _ => ⟨by omega, by omega, fun c => ?_, fun c => ⟨by omega, by omega, by omega, ?_⟩⟩⟩
    · rw [if_pos (by omega)] at h1
      exact h1
    · rw [if_neg (by omega)] at h1
      rw [hG, Int.toNat_natCast]
      refine ⟨by omega, by omega, fun c => ?_, fun c => ?_⟩
      · rw [if_pos c] at h1
        exact h1
      · rw [if_neg c] at h1
        exact h1
theorem reach_eq {F G : Nat → Int} {a : Nat} {x : Int} (hN : N ≤ 8) (ha : a < N) (hF : FX nd N a F) (hG : FM nd N a G) (hx : 1 ≤ x ∧ x ≤ 1000) : sm (fun t => if F t < 10000 * x then 0 else 1) 8 - 1 = sm (fun t => if t = a then 0 else if G t < x * 10000 then 0 else 1) N := by
  have e1 : ∀ k, N ≤ k → k ≤ 8 → sm (fun t => if F t < 10000 * x then (0 : Int) else 1) k = sm (fun t => if F t < 10000 * x then 0 else 1) N := by
    intro k hk
    induction hk with
    | refl => intro _; rfl
    | step hk ih =>
      rename_i m
      intro h8
      have := hF.2.1 m (by omega) hk
      show sm _ m + _ = _
      rw [ih (by omega)]
      try dsimp only
      rw [this, if_pos (by omega)]
      omega
  rw [e1 8 hN (by omega)]
  have e2 : sm (fun t => if F t < 10000 * x then (0 : Int) else 1) N = sm (fun t => (if t = a then 0 else if G t < x * 10000 then 0 else 1) + (if t = a then 1 else 0)) N := by
    apply sm_congr
    intro t ht
    try dsimp only
    have := FX_FM hF hG (show t < 8 by omega)
    by_cases e : t = a
    · rw [if_pos e, if_pos e, e, hF.2.2.1, if_neg (by omega)]
      rfl
    · rw [if_neg e, if_neg e, ← this, Int.mul_comm x 10000]
      omega
  rw [e2, sm_add]
  have e3 : sm (fun t => if t = a then (1 : Int) else 0) N = 1 := by
    rw [sm_one (k := a) N ha (fun i _ hne => if_neg hne), if_pos rfl]
  omega
end SPREADM

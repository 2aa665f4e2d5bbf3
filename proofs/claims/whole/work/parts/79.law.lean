/-! THE LAW's loop, from the start on -/
/-- the world at the start: no tasks; the script -/
def h00 (L : Nat) (f : Nat → Int) : mH := (fun i => if i = 999 then (L : Int) else if i = 114 then 1 else 0, fun a i => if a = 999 then f i else 0)
theorem bAnd_in (x y : Int) : inR (bAnd x y) := jI_selfR _
theorem law_lp {L : Nat} {f : Nat → Int} (hf : ∀ i, inR (f i)) (hL : L ≤ 2048) : ∀ n i : Nat, i ≤ L → L ≤ i + 4 * n → ∀ (N : Nat) (tm nd ch od : Nat → Int) (sc : Nat → Int) (ar : Nat → Nat → Int), JJ L f N tm nd ch od sc ar → Ev 16 M_Law (18, [some (vA 999), some (vO 0), some (vO 11), some (vI i)], [], (sc, ar)) (fun r _ => r = some (vI 1)) := by
  intro n
  induction n with
  | zero =>
    intro i h1 h2 N tm nd ch od sc ar hJ
    have hs := hJ.2.2.2.1
    refine sg_Law_18 ⟨by omega, by rw [ml hs]; omega, fun _ => rfl, fun c => ?_⟩
    rw [ml hs] at c
    omega
  | succ n ih =>
    intro i h1 h2 N tm nd ch od sc ar hJ
    have hs := hJ.2.2.2.1
    have hi : ¬ (L : Int) - 4 < i → i + 3 < L := fun c => by omega
    have nx : i + 3 < L → NX L f i := fun hi N tm nd ch od sc ar hJ => by
      have := ih (i + 4) (by omega) (by omega) N tm nd ch od sc ar hJ
      exact sg_Law_874 this
    refine sg_Law_18 ⟨by omega, by rw [ml hs]; omega, fun _ => rfl, fun c => ?_⟩
    rw [ml hs] at c
    have nx := nx (hi c)
    exact ⟨by omega, by rw [ml hs]; omega, sg_Law_32 ⟨bAnd_in _ _, fun _ => nx _ _ _ _ _ _ _ hJ, fun _ => law_task hf hL (hi c) nx hJ, fun _ => law_time hf hL (hi c) nx hJ, fun _ => law_need hf hL (hi c) nx hJ, fun _ => law_strength hf hL (hi c) nx hJ, fun _ => law_leans hf hL (hi c) nx hJ, fun _ => law_blocks hf hL (hi c) nx hJ, fun _ => law_block hf hL (hi c) nx hJ, fun _ => law_least hf hL (hi c) nx hJ, fun _ => law_leastAt hf hL (hi c) nx hJ, fun _ => law_saved hf hL (hi c) nx hJ, fun _ => law_at hf hL (hi c) nx hJ, fun _ => law_swap hf hL (hi c) nx hJ, fun _ => law_take hf hL (hi c) nx hJ, fun _ => law_guess hf hL (hi c) nx hJ, fun _ => law_torn hf hL (hi c) nx hJ, fun _ => law_chance hf hL (hi c) nx hJ, fun _ => law_mean hf hL (hi c) nx hJ, fun _ => law_often hf hL (hi c) nx hJ, fun _ => law_ends hf hL (hi c) nx hJ, fun _ => law_span hf hL (hi c) nx hJ, fun _ => law_between hf hL (hi c) nx hJ, fun _ => law_team hf hL (hi c) nx hJ, fun _ => law_force hf hL (hi c) nx hJ, fun _ => law_reach hf hL (hi c) nx hJ, fun _ => law_total hf hL (hi c) nx hJ⟩⟩
theorem law_ev (L : Nat) (f : Nat → Int) (hL : L ≤ 2048) (hf : ∀ i, inR (f i)) : Ev 16 M_Law (18, [some (vA 999), some (vO 0), some (vO 11), some (vI 0)], [], h00 L f) (fun r _ => r = some (vI 1)) := by
  have z : ∀ a, a ≠ 999 → (h00 L f).2 a = fun _ => 0 := fun a ha => by
    funext i
    show (if a = 999 then f i else 0) = 0
    rw [if_neg ha]
  have y : ∀ a, a ≠ 999 → a ≠ 114 → (h00 L f).1 a = 0 := fun a ha hb => by
    show (if a = 999 then (L : Int) else if a = 114 then 1 else 0) = 0
    rw [if_neg ha, if_neg hb]
  refine law_lp hf hL L 0 (by omega) (by omega) 0 (fun _ => 0) (fun _ => 0) (fun _ => 0) (fun _ => 0) (h00 L f).1 (h00 L f).2 ⟨⟨by omega, fun i _ => by dsimp only; omega, fun i _ _ => rfl, fun i _ => by dsimp only; omega, fun a b _ _ _ => rfl, fun i _ => by dsimp only; omega, fun a _ => by rw [sm_zero]; omega, fun i h => by omega, fun i j h => by omega⟩, ⟨y _ (by decide) (by decide), y _ (by decide) (by decide), z _ (by decide), z _ (by decide), z _ (by decide), z _ (by decide)⟩, ⟨y _ (by decide) (by decide), z _ (by decide), z _ (by decide), z _ (by decide), z _ (by decide)⟩, ?_, ?_⟩
  · show (if (999 : Nat) = 999 then (L : Int) else if (999 : Nat) = 114 then 1 else 0) = L
    rw [if_pos rfl]
  · funext i
    show (if (999 : Nat) = 999 then f i else 0) = f i
    rw [if_pos rfl]

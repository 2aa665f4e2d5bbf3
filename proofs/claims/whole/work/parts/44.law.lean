/-! THE LAW, call by call; printed by tools/gen_lawp.py -/
/-- both hold the same state; the script -/
def JJ (L : Nat) (f : Nat → Int) (N : Nat) (tm nd ch od : Nat → Int) (sc : Nat → Int) (ar : Nat → Nat → Int) : Prop := VV N tm nd ch od ∧ IX N tm nd ch od sc ar ∧ IM N tm nd ch od sc ar ∧ sc 999 = (L : Int) ∧ ar 999 = f
theorem JJ.pe {L : Nat} {f : Nat → Int} {N : Nat} {tm nd ch od : Nat → Int} {sc sc2 : Nat → Int} {ar ar2 : Nat → Nat → Int} (h : JJ L f N tm nd ch od sc ar) (p : Pe sc ar sc2 ar2) : JJ L f N tm nd ch od sc2 ar2 := ⟨h.1, h.2.1.pe p, h.2.2.1.pe p, (p.1 999 rfl).trans h.2.2.2.1, (p.2 999 rfl).trans h.2.2.2.2⟩
theorem ml {L : Nat} {sc : Nat → Int} {ar : Nat → Nat → Int} (h : sc 999 = (L : Int)) : mLen (sc, ar) 999 = (L : Int) := by
  unfold mLen
  rw [if_pos rfl]
  exact h
theorem tk_lt {N : Nat} {x : Int} (h : tk N x) : x.toNat < N := by
  have := h.1
  have := h.2
  omega
theorem tk_ne {N : Nat} {x y : Int} (h : tk N x) (k : tk N y) (hne : x ≠ y) : x.toNat ≠ y.toNat := by
  have := h.1
  have := k.1
  omega
theorem aOne_r {N : Nat} {x e v : Int} (h : inR e) (k : inR v) : inR (aOne N x e v) := by
  rcases Classical.em (tk N x) with a | a
  · rw [aOne_yes a]
    exact k
  · rw [aOne_no a]
    exact h
theorem aTwo_r {N : Nat} {x y v : Int} (k : inR v) : inR (aTwo N x y v) := by
  rcases Classical.em (tk N x ∧ tk N y) with a | a
  · rw [aTwo_yes a.1 a.2]
    exact k
  · rw [aTwo_no a]
    omega
/-- what holds at the end of a call -/
def NX (L : Nat) (f : Nat → Int) (i : Nat) : Prop := ∀ (N : Nat) (tm nd ch od : Nat → Int) (sc : Nat → Int) (ar : Nat → Nat → Int), JJ L f N tm nd ch od sc ar → Ev 16 M_Law (874, [some (vA 999), some (vO 0), some (vO 11), some (vI i)], [], (sc, ar)) (fun r _ => r = some (vI 1))
section LAW
variable {L i : Nat} {f : Nat → Int}
theorem law_strength (hf : ∀ i, inR (f i)) (hL : L ≤ 2048) (hi : i + 3 < L) (nx : NX L f i) {N : Nat} {tm nd ch od : Nat → Int} {sc : Nat → Int} {ar : Nat → Nat → Int} (hJ : JJ L f N tm nd ch od sc ar) : Ev 16 M_Law (247, [some (vA 999), some (vO 0), some (vO 11), some (vI i)], [], (sc, ar)) (fun r _ => r = some (vI 1)) := by
  obtain ⟨hV, hX, hM, hs, ha⟩ := id hJ
  refine sg_Law_247 ⟨by omega, by rw [ml hs]; omega, by omega, by rw [ml hs]; omega, ?_⟩
  rw [ha]
  refine ox_strength hV hX (hf _) (hf _) (fun sc2 ar2 p hr => ?_)
  have hJ2 := hJ.pe p
  obtain ⟨_, hX2, hM2, hs2, ha2⟩ := id hJ2
  refine sg_Law_261 ⟨by omega, by rw [ml hs2]; omega, by omega, by rw [ml hs2]; omega, ?_⟩
  rw [ha2]
  exact om_strength hV hM2 (hf _) (hf _) (fun sc3 ar3 p2 => sg_Law_275 ⟨hr, hr, fun _ => nx _ _ _ _ _ _ _ (hJ2.pe p2), fun c => absurd rfl c⟩)
theorem law_leans (hf : ∀ i, inR (f i)) (hL : L ≤ 2048) (hi : i + 3 < L) (nx : NX L f i) {N : Nat} {tm nd ch od : Nat → Int} {sc : Nat → Int} {ar : Nat → Nat → Int} (hJ : JJ L f N tm nd ch od sc ar) : Ev 16 M_Law (280, [some (vA 999), some (vO 0), some (vO 11), some (vI i)], [], (sc, ar)) (fun r _ => r = some (vI 1)) := by
  obtain ⟨hV, hX, hM, hs, ha⟩ := id hJ
  refine sg_Law_280 ⟨by omega, by rw [ml hs]; omega, by omega, by rw [ml hs]; omega, ?_⟩
  rw [ha]
  refine ox_leans hV hX (hf _) (hf _) (fun sc2 ar2 p hr => ?_)
  have hJ2 := hJ.pe p
  obtain ⟨_, hX2, hM2, hs2, ha2⟩ := id hJ2
  refine sg_Law_294 ⟨by omega, by rw [ml hs2]; omega, by omega, by rw [ml hs2]; omega, ?_⟩
  rw [ha2]
  exact om_leans hV hM2 (hf _) (hf _) (fun sc3 ar3 p2 => sg_Law_308 ⟨hr, hr, fun _ => nx _ _ _ _ _ _ _ (hJ2.pe p2), fun c => absurd rfl c⟩)
theorem law_blocks (hf : ∀ i, inR (f i)) (hL : L ≤ 2048) (hi : i + 3 < L) (nx : NX L f i) {N : Nat} {tm nd ch od : Nat → Int} {sc : Nat → Int} {ar : Nat → Nat → Int} (hJ : JJ L f N tm nd ch od sc ar) : Ev 16 M_Law (313, [some (vA 999), some (vO 0), some (vO 11), some (vI i)], [], (sc, ar)) (fun r _ => r = some (vI 1)) := by
  obtain ⟨hV, hX, hM, hs, ha⟩ := id hJ
  refine sg_Law_313 ?_
  refine ox_blocks hV hX (fun sc2 ar2 p hr => ?_)
  have hJ2 := hJ.pe p
  obtain ⟨_, hX2, hM2, hs2, ha2⟩ := id hJ2
  refine sg_Law_317 ?_
  exact om_blocks hV hM2 (fun sc3 ar3 p2 => sg_Law_321 ⟨hr, hr, fun _ => nx _ _ _ _ _ _ _ (hJ2.pe p2), fun c => absurd rfl c⟩)
theorem law_block (hf : ∀ i, inR (f i)) (hL : L ≤ 2048) (hi : i + 3 < L) (nx : NX L f i) {N : Nat} {tm nd ch od : Nat → Int} {sc : Nat → Int} {ar : Nat → Nat → Int} (hJ : JJ L f N tm nd ch od sc ar) : Ev 16 M_Law (326, [some (vA 999), some (vO 0), some (vO 11), some (vI i)], [], (sc, ar)) (fun r _ => r = some (vI 1)) := by
  obtain ⟨hV, hX, hM, hs, ha⟩ := id hJ
  refine sg_Law_326 ⟨by omega, by rw [ml hs]; omega, ?_⟩
  rw [ha]
  refine ox_block hV hX (hf _) (fun sc2 ar2 p hr => ?_)
  have hJ2 := hJ.pe p
  obtain ⟨_, hX2, hM2, hs2, ha2⟩ := id hJ2
  refine sg_Law_335 ⟨by omega, by rw [ml hs2]; omega, ?_⟩
  rw [ha2]
  exact om_block hV hM2 (hf _) (fun sc3 ar3 p2 => sg_Law_344 ⟨hr, hr, fun _ => nx _ _ _ _ _ _ _ (hJ2.pe p2), fun c => absurd rfl c⟩)
theorem law_least (hf : ∀ i, inR (f i)) (hL : L ≤ 2048) (hi : i + 3 < L) (nx : NX L f i) {N : Nat} {tm nd ch od : Nat → Int} {sc : Nat → Int} {ar : Nat → Nat → Int} (hJ : JJ L f N tm nd ch od sc ar) : Ev 16 M_Law (349, [some (vA 999), some (vO 0), some (vO 11), some (vI i)], [], (sc, ar)) (fun r _ => r = some (vI 1)) := by
  obtain ⟨hV, hX, hM, hs, ha⟩ := id hJ
  refine sg_Law_349 ?_
  refine ox_least hV hX (fun sc2 ar2 p hr => ?_)
  have hJ2 := hJ.pe p
  obtain ⟨_, hX2, hM2, hs2, ha2⟩ := id hJ2
  refine sg_Law_353 ?_
  exact om_least hV hM2 (fun sc3 ar3 p2 => sg_Law_357 ⟨hr, hr, fun _ => nx _ _ _ _ _ _ _ (hJ2.pe p2), fun c => absurd rfl c⟩)
theorem law_leastAt (hf : ∀ i, inR (f i)) (hL : L ≤ 2048) (hi : i + 3 < L) (nx : NX L f i) {N : Nat} {tm nd ch od : Nat → Int} {sc : Nat → Int} {ar : Nat → Nat → Int} (hJ : JJ L f N tm nd ch od sc ar) : Ev 16 M_Law (362, [some (vA 999), some (vO 0), some (vO 11), some (vI i)], [], (sc, ar)) (fun r _ => r = some (vI 1)) := by
  obtain ⟨hV, hX, hM, hs, ha⟩ := id hJ
  refine sg_Law_362 ⟨by omega, by rw [ml hs]; omega, ?_⟩
  rw [ha]
  refine ox_leastAt hV hX (hf _) (fun sc2 ar2 p hr => ?_)
  have hJ2 := hJ.pe p
  obtain ⟨_, hX2, hM2, hs2, ha2⟩ := id hJ2
  refine sg_Law_371 ⟨by omega, by rw [ml hs2]; omega, ?_⟩
  rw [ha2]
  exact om_leastAt hV hM2 (hf _) (fun sc3 ar3 p2 => sg_Law_380 ⟨hr, hr, fun _ => nx _ _ _ _ _ _ _ (hJ2.pe p2), fun c => absurd rfl c⟩)
theorem law_saved (hf : ∀ i, inR (f i)) (hL : L ≤ 2048) (hi : i + 3 < L) (nx : NX L f i) {N : Nat} {tm nd ch od : Nat → Int} {sc : Nat → Int} {ar : Nat → Nat → Int} (hJ : JJ L f N tm nd ch od sc ar) : Ev 16 M_Law (385, [some (vA 999), some (vO 0), some (vO 11), some (vI i)], [], (sc, ar)) (fun r _ => r = some (vI 1)) := by
  obtain ⟨hV, hX, hM, hs, ha⟩ := id hJ
  refine sg_Law_385 ⟨by omega, by rw [ml hs]; omega, by omega, by rw [ml hs]; omega, ?_⟩
  rw [ha]
  refine ox_saved hV hX (hf _) (hf _) (fun sc2 ar2 p hr => ?_)
  have hJ2 := hJ.pe p
  obtain ⟨_, hX2, hM2, hs2, ha2⟩ := id hJ2
  refine sg_Law_399 ⟨by omega, by rw [ml hs2]; omega, by omega, by rw [ml hs2]; omega, ?_⟩
  rw [ha2]
  exact om_saved hV hM2 (hf _) (hf _) (fun sc3 ar3 p2 => sg_Law_413 ⟨hr, hr, fun _ => nx _ _ _ _ _ _ _ (hJ2.pe p2), fun c => absurd rfl c⟩)
theorem law_at (hf : ∀ i, inR (f i)) (hL : L ≤ 2048) (hi : i + 3 < L) (nx : NX L f i) {N : Nat} {tm nd ch od : Nat → Int} {sc : Nat → Int} {ar : Nat → Nat → Int} (hJ : JJ L f N tm nd ch od sc ar) : Ev 16 M_Law (418, [some (vA 999), some (vO 0), some (vO 11), some (vI i)], [], (sc, ar)) (fun r _ => r = some (vI 1)) := by
  obtain ⟨hV, hX, hM, hs, ha⟩ := id hJ
  refine sg_Law_418 ⟨by omega, by rw [ml hs]; omega, ?_⟩
  rw [ha]
  refine ox_at hV hX (hf _) (fun sc2 ar2 p hr => ?_)
  have hJ2 := hJ.pe p
  obtain ⟨_, hX2, hM2, hs2, ha2⟩ := id hJ2
  refine sg_Law_427 ⟨by omega, by rw [ml hs2]; omega, ?_⟩
  rw [ha2]
  exact om_at hV hM2 (hf _) (fun sc3 ar3 p2 => sg_Law_436 ⟨hr, hr, fun _ => nx _ _ _ _ _ _ _ (hJ2.pe p2), fun c => absurd rfl c⟩)
theorem law_guess (hf : ∀ i, inR (f i)) (hL : L ≤ 2048) (hi : i + 3 < L) (nx : NX L f i) {N : Nat} {tm nd ch od : Nat → Int} {sc : Nat → Int} {ar : Nat → Nat → Int} (hJ : JJ L f N tm nd ch od sc ar) : Ev 16 M_Law (487, [some (vA 999), some (vO 0), some (vO 11), some (vI i)], [], (sc, ar)) (fun r _ => r = some (vI 1)) := by
  obtain ⟨hV, hX, hM, hs, ha⟩ := id hJ
  refine sg_Law_487 ?_
  refine ox_guess hV hX (fun sc2 ar2 p hr => ?_)
  have hJ2 := hJ.pe p
  obtain ⟨_, hX2, hM2, hs2, ha2⟩ := id hJ2
  refine sg_Law_491 ?_
  exact om_guess hV hM2 (fun sc3 ar3 p2 => sg_Law_495 ⟨hr, hr, fun _ => nx _ _ _ _ _ _ _ (hJ2.pe p2), fun c => absurd rfl c⟩)
theorem law_torn (hf : ∀ i, inR (f i)) (hL : L ≤ 2048) (hi : i + 3 < L) (nx : NX L f i) {N : Nat} {tm nd ch od : Nat → Int} {sc : Nat → Int} {ar : Nat → Nat → Int} (hJ : JJ L f N tm nd ch od sc ar) : Ev 16 M_Law (500, [some (vA 999), some (vO 0), some (vO 11), some (vI i)], [], (sc, ar)) (fun r _ => r = some (vI 1)) := by
  obtain ⟨hV, hX, hM, hs, ha⟩ := id hJ
  refine sg_Law_500 ⟨by omega, by rw [ml hs]; omega, by omega, by rw [ml hs]; omega, ?_⟩
  rw [ha]
  refine ox_torn hV hX (hf _) (hf _) (fun sc2 ar2 p hr => ?_)
  have hJ2 := hJ.pe p
  obtain ⟨_, hX2, hM2, hs2, ha2⟩ := id hJ2
  refine sg_Law_514 ⟨by omega, by rw [ml hs2]; omega, by omega, by rw [ml hs2]; omega, ?_⟩
  rw [ha2]
  exact om_torn hV hM2 (hf _) (hf _) (fun sc3 ar3 p2 => sg_Law_528 ⟨hr, hr, fun _ => nx _ _ _ _ _ _ _ (hJ2.pe p2), fun c => absurd rfl c⟩)
theorem law_mean (hf : ∀ i, inR (f i)) (hL : L ≤ 2048) (hi : i + 3 < L) (nx : NX L f i) {N : Nat} {tm nd ch od : Nat → Int} {sc : Nat → Int} {ar : Nat → Nat → Int} (hJ : JJ L f N tm nd ch od sc ar) : Ev 16 M_Law (576, [some (vA 999), some (vO 0), some (vO 11), some (vI i)], [], (sc, ar)) (fun r _ => r = some (vI 1)) := by
  obtain ⟨hV, hX, hM, hs, ha⟩ := id hJ
  refine sg_Law_576 ⟨by omega, by rw [ml hs]; omega, ?_⟩
  rw [ha]
  refine ⟨hf _, fun c => ?_, fun c => ?_⟩
  · refine ox_mean hV hX (by omega) (fun sc2 ar2 p hr => ?_)
    have hJ2 := hJ.pe p
    obtain ⟨_, hX2, hM2, hs2, ha2⟩ := id hJ2
    refine sg_Law_593 ⟨by omega, by rw [ml hs2]; omega, ?_⟩
    rw [ha2]
    exact ⟨hf _, fun _ => om_mean hV hM2 (by omega) (fun sc3 ar3 p2 => sg_Law_610 ⟨hr, hr, fun _ => nx _ _ _ _ _ _ _ (hJ2.pe p2), fun c => absurd rfl c⟩), fun c2 => absurd c c2⟩
  · refine ox_mean hV hX (by omega) (fun sc2 ar2 p hr => ?_)
    have hJ2 := hJ.pe p
    obtain ⟨_, hX2, hM2, hs2, ha2⟩ := id hJ2
    refine sg_Law_593 ⟨by omega, by rw [ml hs2]; omega, ?_⟩
    rw [ha2]
    exact ⟨hf _, fun c2 => absurd c2 c, fun _ => om_mean hV hM2 (by omega) (fun sc3 ar3 p2 => sg_Law_610 ⟨hr, hr, fun _ => nx _ _ _ _ _ _ _ (hJ2.pe p2), fun c => absurd rfl c⟩)⟩
theorem law_often (hf : ∀ i, inR (f i)) (hL : L ≤ 2048) (hi : i + 3 < L) (nx : NX L f i) {N : Nat} {tm nd ch od : Nat → Int} {sc : Nat → Int} {ar : Nat → Nat → Int} (hJ : JJ L f N tm nd ch od sc ar) : Ev 16 M_Law (616, [some (vA 999), some (vO 0), some (vO 11), some (vI i)], [], (sc, ar)) (fun r _ => r = some (vI 1)) := by
  obtain ⟨hV, hX, hM, hs, ha⟩ := id hJ
  refine sg_Law_616 ⟨by omega, by rw [ml hs]; omega, by omega, by rw [ml hs]; omega, ?_⟩
  rw [ha]
  refine ⟨hf _, fun c => ?_, fun c => ?_⟩
  · refine ox_often hV hX (hf _) (by omega) (fun sc2 ar2 p hr => ?_)
    have hJ2 := hJ.pe p
    obtain ⟨_, hX2, hM2, hs2, ha2⟩ := id hJ2
    refine sg_Law_638 ⟨by omega, by rw [ml hs2]; omega, by omega, by rw [ml hs2]; omega, ?_⟩
    rw [ha2]
    exact ⟨hf _, fun _ => om_often hV hM2 (hf _) (by omega) (fun sc3 ar3 p2 => sg_Law_660 ⟨hr, hr, fun _ => nx _ _ _ _ _ _ _ (hJ2.pe p2), fun c => absurd rfl c⟩), fun c2 => absurd c c2⟩
  · refine ox_often hV hX (hf _) (by omega) (fun sc2 ar2 p hr => ?_)
    have hJ2 := hJ.pe p
    obtain ⟨_, hX2, hM2, hs2, ha2⟩ := id hJ2
    refine sg_Law_638 ⟨by omega, by rw [ml hs2]; omega, by omega, by rw [ml hs2]; omega, ?_⟩
    rw [ha2]
    exact ⟨hf _, fun c2 => absurd c2 c, fun _ => om_often hV hM2 (hf _) (by omega) (fun sc3 ar3 p2 => sg_Law_660 ⟨hr, hr, fun _ => nx _ _ _ _ _ _ _ (hJ2.pe p2), fun c => absurd rfl c⟩)⟩
theorem law_ends (hf : ∀ i, inR (f i)) (hL : L ≤ 2048) (hi : i + 3 < L) (nx : NX L f i) {N : Nat} {tm nd ch od : Nat → Int} {sc : Nat → Int} {ar : Nat → Nat → Int} (hJ : JJ L f N tm nd ch od sc ar) : Ev 16 M_Law (666, [some (vA 999), some (vO 0), some (vO 11), some (vI i)], [], (sc, ar)) (fun r _ => r = some (vI 1)) := by
  obtain ⟨hV, hX, hM, hs, ha⟩ := id hJ
  refine sg_Law_666 ⟨by omega, by rw [ml hs]; omega, ?_⟩
  rw [ha]
  refine ox_ends hV hX (hf _) (fun sc2 ar2 p hr => ?_)
  have hJ2 := hJ.pe p
  obtain ⟨_, hX2, hM2, hs2, ha2⟩ := id hJ2
  refine sg_Law_675 ⟨by omega, by rw [ml hs2]; omega, ?_⟩
  rw [ha2]
  exact om_ends hV hM2 (hf _) (fun sc3 ar3 p2 => sg_Law_684 ⟨hr, hr, fun _ => nx _ _ _ _ _ _ _ (hJ2.pe p2), fun c => absurd rfl c⟩)
theorem law_span (hf : ∀ i, inR (f i)) (hL : L ≤ 2048) (hi : i + 3 < L) (nx : NX L f i) {N : Nat} {tm nd ch od : Nat → Int} {sc : Nat → Int} {ar : Nat → Nat → Int} (hJ : JJ L f N tm nd ch od sc ar) : Ev 16 M_Law (689, [some (vA 999), some (vO 0), some (vO 11), some (vI i)], [], (sc, ar)) (fun r _ => r = some (vI 1)) := by
  obtain ⟨hV, hX, hM, hs, ha⟩ := id hJ
  refine sg_Law_689 ?_
  refine ox_span hV hX (fun sc2 ar2 p hr => ?_)
  have hJ2 := hJ.pe p
  obtain ⟨_, hX2, hM2, hs2, ha2⟩ := id hJ2
  refine sg_Law_693 ?_
  exact om_span hV hM2 (fun sc3 ar3 p2 => sg_Law_697 ⟨hr, hr, fun _ => nx _ _ _ _ _ _ _ (hJ2.pe p2), fun c => absurd rfl c⟩)
theorem law_total (hf : ∀ i, inR (f i)) (hL : L ≤ 2048) (hi : i + 3 < L) (nx : NX L f i) {N : Nat} {tm nd ch od : Nat → Int} {sc : Nat → Int} {ar : Nat → Nat → Int} (hJ : JJ L f N tm nd ch od sc ar) : Ev 16 M_Law (851, [some (vA 999), some (vO 0), some (vO 11), some (vI i)], [], (sc, ar)) (fun r _ => r = some (vI 1)) := by
  obtain ⟨hV, hX, hM, hs, ha⟩ := id hJ
  refine sg_Law_851 ⟨by omega, by rw [ml hs]; omega, ?_⟩
  rw [ha]
  refine ox_total hV hX (hf _) (fun hr => ?_)
  refine sg_Law_860 ⟨by omega, by rw [ml hs]; omega, ?_⟩
  rw [ha]
  exact om_total hV hM (hf _) (fun sc3 ar3 p2 => sg_Law_869 ⟨hr, hr, fun _ => nx _ _ _ _ _ _ _ (hJ.pe p2), fun c => absurd rfl c⟩)
theorem law_task (hf : ∀ i, inR (f i)) (hL : L ≤ 2048) (hi : i + 3 < L) (nx : NX L f i) {N : Nat} {tm nd ch od : Nat → Int} {sc : Nat → Int} {ar : Nat → Nat → Int} (hJ : JJ L f N tm nd ch od sc ar) : Ev 16 M_Law (148, [some (vA 999), some (vO 0), some (vO 11), some (vI i)], [], (sc, ar)) (fun r _ => r = some (vI 1)) := by
  obtain ⟨hV, hX, hM, hs, ha⟩ := id hJ
  refine sg_Law_148 ⟨by omega, by rw [ml hs]; omega, ?_⟩
  rw [ha]
  rcases Classical.em ((1 ≤ f ((i : Int) + 1).toNat ∧ f ((i : Int) + 1).toNat ≤ 20) ∧ N < 8) with h | h
  · refine ox_task hV hX (hf _) h.1 h.2 (fun sc2 ar2 p hX2 => ?_)
    have hM2 := hM.px p
    have hs2 : sc2 999 = (L : Int) := (p.1 999 rfl).trans hs
    have ha2 : ar2 999 = f := (p.2 999 rfl).trans ha
    refine sg_Law_157 ⟨by omega, by rw [ml hs2]; omega, ?_⟩
    rw [ha2]
    exact om_task hV hM2 (hf _) h.1 h.2 (fun sc3 ar3 p2 hM3 => sg_Law_166 ⟨(by omega), (by omega), fun _ => nx _ _ _ _ _ _ _ ⟨VV_task hV h.2 h.1, hX2.pm p2, hM3, (p2.1 999 rfl).trans hs2, (p2.2 999 rfl).trans ha2⟩, fun c => absurd rfl c⟩)
  · refine ox_task0 hV hX (hf _) h ?_
    refine sg_Law_157 ⟨by omega, by rw [ml hs]; omega, ?_⟩
    rw [ha]
    exact om_task0 hV hM (hf _) h (fun sc3 ar3 p2 => sg_Law_166 ⟨(by split <;> omega), (by split <;> omega), fun _ => nx _ _ _ _ _ _ _ (hJ.pe p2), fun c => absurd rfl c⟩)
theorem law_time (hf : ∀ i, inR (f i)) (hL : L ≤ 2048) (hi : i + 3 < L) (nx : NX L f i) {N : Nat} {tm nd ch od : Nat → Int} {sc : Nat → Int} {ar : Nat → Nat → Int} (hJ : JJ L f N tm nd ch od sc ar) : Ev 16 M_Law (171, [some (vA 999), some (vO 0), some (vO 11), some (vI i)], [], (sc, ar)) (fun r _ => r = some (vI 1)) := by
  obtain ⟨hV, hX, hM, hs, ha⟩ := id hJ
  refine sg_Law_171 ⟨by omega, by rw [ml hs]; omega, by omega, by rw [ml hs]; omega, ?_⟩
  rw [ha]
  rcases Classical.em (tk N (f ((i : Int) + 1).toNat) ∧ 1 ≤ f ((i : Int) + 2).toNat ∧ f ((i : Int) + 2).toNat ≤ 20) with h | h
  · refine ox_time hV hX (hf _) (hf _) h.1 h.2 (fun sc2 ar2 p hX2 hr => ?_)
    have hM2 := hM.px p
    have hs2 : sc2 999 = (L : Int) := (p.1 999 rfl).trans hs
    have ha2 : ar2 999 = f := (p.2 999 rfl).trans ha
    refine sg_Law_185 ⟨by omega, by rw [ml hs2]; omega, by omega, by rw [ml hs2]; omega, ?_⟩
    rw [ha2]
    exact om_time hV hM2 (hf _) (hf _) h.1 h.2 (fun sc3 ar3 p2 hM3 => sg_Law_199 ⟨hr, hr, fun _ => nx _ _ _ _ _ _ _ ⟨VV_time hV (tk_lt h.1) h.2, hX2.pm p2, hM3, (p2.1 999 rfl).trans hs2, (p2.2 999 rfl).trans ha2⟩, fun c => absurd rfl c⟩)
  · refine ox_time0 hV hX (hf _) (hf _) h ?_
    refine sg_Law_185 ⟨by omega, by rw [ml hs]; omega, by omega, by rw [ml hs]; omega, ?_⟩
    rw [ha]
    exact om_time0 hV hM (hf _) (hf _) h (fun sc3 ar3 p2 => sg_Law_199 ⟨aOne_r (by omega) (by omega), aOne_r (by omega) (by omega), fun _ => nx _ _ _ _ _ _ _ (hJ.pe p2), fun c => absurd rfl c⟩)
theorem law_need (hf : ∀ i, inR (f i)) (hL : L ≤ 2048) (hi : i + 3 < L) (nx : NX L f i) {N : Nat} {tm nd ch od : Nat → Int} {sc : Nat → Int} {ar : Nat → Nat → Int} (hJ : JJ L f N tm nd ch od sc ar) : Ev 16 M_Law (204, [some (vA 999), some (vO 0), some (vO 11), some (vI i)], [], (sc, ar)) (fun r _ => r = some (vI 1)) := by
  obtain ⟨hV, hX, hM, hs, ha⟩ := id hJ
  refine sg_Law_204 ⟨by omega, by rw [ml hs]; omega, by omega, by rw [ml hs]; omega, by omega, by rw [ml hs]; omega, ?_⟩
  rw [ha]
  rcases Classical.em (tk N (f ((i : Int) + 1).toNat) ∧ tk N (f ((i : Int) + 2).toNat) ∧ (0 ≤ f ((i : Int) + 3).toNat ∧ f ((i : Int) + 3).toNat ≤ 9) ∧ f ((i : Int) + 1).toNat ≠ f ((i : Int) + 2).toNat) with h | h
  · refine ox_need hV hX (hf _) (hf _) (hf _) h.1 h.2.1 h.2.2.1 h.2.2.2 (fun sc2 ar2 p hX2 hr => ?_)
    have hM2 := hM.px p
    have hs2 : sc2 999 = (L : Int) := (p.1 999 rfl).trans hs
    have ha2 : ar2 999 = f := (p.2 999 rfl).trans ha
    refine sg_Law_223 ⟨by omega, by rw [ml hs2]; omega, by omega, by rw [ml hs2]; omega, by omega, by rw [ml hs2]; omega, ?_⟩
    rw [ha2]
    exact om_need hV hM2 (hf _) (hf _) (hf _) h.1 h.2.1 h.2.2.1 h.2.2.2 (fun sc3 ar3 p2 hM3 => sg_Law_242 ⟨hr, hr, fun _ => nx _ _ _ _ _ _ _ ⟨VV_need hV (tk_lt h.1) (tk_lt h.2.1) (tk_ne h.1 h.2.1 h.2.2.2) h.2.2.1, hX2.pm p2, hM3, (p2.1 999 rfl).trans hs2, (p2.2 999 rfl).trans ha2⟩, fun c => absurd rfl c⟩)
  · refine ox_need0 hV hX (hf _) (hf _) (hf _) h ?_
    refine sg_Law_223 ⟨by omega, by rw [ml hs]; omega, by omega, by rw [ml hs]; omega, by omega, by rw [ml hs]; omega, ?_⟩
    rw [ha]
    exact om_need0 hV hM (hf _) (hf _) (hf _) h (fun sc3 ar3 p2 => sg_Law_242 ⟨aTwo_r (by split <;> omega), aTwo_r (by split <;> omega), fun _ => nx _ _ _ _ _ _ _ (hJ.pe p2), fun c => absurd rfl c⟩)
theorem law_chance (hf : ∀ i, inR (f i)) (hL : L ≤ 2048) (hi : i + 3 < L) (nx : NX L f i) {N : Nat} {tm nd ch od : Nat → Int} {sc : Nat → Int} {ar : Nat → Nat → Int} (hJ : JJ L f N tm nd ch od sc ar) : Ev 16 M_Law (533, [some (vA 999), some (vO 0), some (vO 11), some (vI i)], [], (sc, ar)) (fun r _ => r = some (vI 1)) := by
  obtain ⟨hV, hX, hM, hs, ha⟩ := id hJ
  refine sg_Law_533 ⟨by omega, by rw [ml hs]; omega, by omega, by rw [ml hs]; omega, by omega, by rw [ml hs]; omega, ?_⟩
  rw [ha]
  rcases Classical.em (tk N (f ((i : Int) + 1).toNat) ∧ tk N (f ((i : Int) + 2).toNat) ∧ (0 ≤ f ((i : Int) + 3).toNat ∧ f ((i : Int) + 3).toNat ≤ 8) ∧ f ((i : Int) + 1).toNat ≠ f ((i : Int) + 2).toNat ∧ sm (fun x => ch (8 * (f ((i : Int) + 1).toNat).toNat + x)) 8 - ch (8 * (f ((i : Int) + 1).toNat).toNat + (f ((i : Int) + 2).toNat).toNat) + f ((i : Int) + 3).toNat ≤ 8) with h | h
  · refine ox_chance hV hX (hf _) (hf _) (hf _) h.1 h.2.1 h.2.2.1 h.2.2.2.1 h.2.2.2.2 (fun sc2 ar2 p hX2 hr => ?_)
    have hM2 := hM.px p
    have hs2 : sc2 999 = (L : Int) := (p.1 999 rfl).trans hs
    have ha2 : ar2 999 = f := (p.2 999 rfl).trans ha
    refine sg_Law_552 ⟨by omega, by rw [ml hs2]; omega, by omega, by rw [ml hs2]; omega, by omega, by rw [ml hs2]; omega, ?_⟩
    rw [ha2]
    exact om_chance hV hM2 (hf _) (hf _) (hf _) h.1 h.2.1 h.2.2.1 h.2.2.2.1 h.2.2.2.2 (fun sc3 ar3 p2 hM3 => sg_Law_571 ⟨hr, hr, fun _ => nx _ _ _ _ _ _ _ ⟨VV_chance hV (tk_lt h.1) (tk_lt h.2.1) h.2.2.1 h.2.2.2.2, hX2.pm p2, hM3, (p2.1 999 rfl).trans hs2, (p2.2 999 rfl).trans ha2⟩, fun c => absurd rfl c⟩)
  · refine ox_chance0 hV hX (hf _) (hf _) (hf _) h ?_
    refine sg_Law_552 ⟨by omega, by rw [ml hs]; omega, by omega, by rw [ml hs]; omega, by omega, by rw [ml hs]; omega, ?_⟩
    rw [ha]
    exact om_chance0 hV hM (hf _) (hf _) (hf _) h (fun sc3 ar3 p2 => sg_Law_571 ⟨aTwo_r (by split <;> omega), aTwo_r (by split <;> omega), fun _ => nx _ _ _ _ _ _ _ (hJ.pe p2), fun c => absurd rfl c⟩)
theorem law_swap (hf : ∀ i, inR (f i)) (hL : L ≤ 2048) (hi : i + 3 < L) (nx : NX L f i) {N : Nat} {tm nd ch od : Nat → Int} {sc : Nat → Int} {ar : Nat → Nat → Int} (hJ : JJ L f N tm nd ch od sc ar) : Ev 16 M_Law (441, [some (vA 999), some (vO 0), some (vO 11), some (vI i)], [], (sc, ar)) (fun r _ => r = some (vI 1)) := by
  obtain ⟨hV, hX, hM, hs, ha⟩ := id hJ
  refine sg_Law_441 ⟨by omega, by rw [ml hs]; omega, by omega, by rw [ml hs]; omega, ?_⟩
  rw [ha]
  rcases Classical.em (tk N (f ((i : Int) + 1).toNat) ∧ tk N (f ((i : Int) + 2).toNat)) with h | h
  · refine ox_swap hV hX (hf _) (hf _) h.1 h.2 (fun sc2 ar2 od2 p e ho hX2 hr => ?_)
    subst e
    have hM2 := hM.px p
    have hs2 : sc2 999 = (L : Int) := (p.1 999 rfl).trans hs
    have ha2 : ar2 999 = f := (p.2 999 rfl).trans ha
    refine sg_Law_455 ⟨by omega, by rw [ml hs2]; omega, by omega, by rw [ml hs2]; omega, ?_⟩
    rw [ha2]
    exact om_swap hV hM2 (hf _) (hf _) h.1 h.2 (fun sc3 ar3 od3 p2 e hM3 => by
      subst e
      exact sg_Law_469 ⟨hr, hr, fun _ => nx _ _ _ _ _ _ _ ⟨VV_od hV ho, hX2.pm p2, hM3, (p2.1 999 rfl).trans hs2, (p2.2 999 rfl).trans ha2⟩, fun c => absurd rfl c⟩)
  · refine ox_swap0 hV hX (hf _) (hf _) h ?_
    refine sg_Law_455 ⟨by omega, by rw [ml hs]; omega, by omega, by rw [ml hs]; omega, ?_⟩
    rw [ha]
    exact om_swap0 hV hM (hf _) (hf _) h (fun sc3 ar3 p2 => sg_Law_469 ⟨(by omega), (by omega), fun _ => nx _ _ _ _ _ _ _ (hJ.pe p2), fun c => absurd rfl c⟩)
theorem law_take (hf : ∀ i, inR (f i)) (hL : L ≤ 2048) (hi : i + 3 < L) (nx : NX L f i) {N : Nat} {tm nd ch od : Nat → Int} {sc : Nat → Int} {ar : Nat → Nat → Int} (hJ : JJ L f N tm nd ch od sc ar) : Ev 16 M_Law (474, [some (vA 999), some (vO 0), some (vO 11), some (vI i)], [], (sc, ar)) (fun r _ => r = some (vI 1)) := by
  obtain ⟨hV, hX, hM, hs, ha⟩ := id hJ
  refine sg_Law_474 ?_
  refine ox_take hV hX (fun sc2 ar2 od2 p e ho hX2 hr => ?_)
  subst e
  have hM2 := hM.px p
  have hs2 : sc2 999 = (L : Int) := (p.1 999 rfl).trans hs
  have ha2 : ar2 999 = f := (p.2 999 rfl).trans ha
  refine sg_Law_478 ?_
  exact om_take hV hM2 (fun sc3 ar3 od3 p2 e hM3 => by
    subst e
    exact sg_Law_482 ⟨hr, hr, fun _ => nx _ _ _ _ _ _ _ ⟨VV_od hV ho, hX2.pm p2, hM3, (p2.1 999 rfl).trans hs2, (p2.2 999 rfl).trans ha2⟩, fun c => absurd rfl c⟩)
theorem law_between (hf : ∀ i, inR (f i)) (hL : L ≤ 2048) (hi : i + 3 < L) (nx : NX L f i) {N : Nat} {tm nd ch od : Nat → Int} {sc : Nat → Int} {ar : Nat → Nat → Int} (hJ : JJ L f N tm nd ch od sc ar) : Ev 16 M_Law (702, [some (vA 999), some (vO 0), some (vO 11), some (vI i)], [], (sc, ar)) (fun r _ => r = some (vI 1)) := by
  obtain ⟨hV, hX, hM, hs, ha⟩ := id hJ
  refine sg_Law_702 ⟨by omega, by rw [ml hs]; omega, ?_⟩
  rw [ha]
  rcases Classical.em (1 ≤ f ((i : Int) + 1).toNat ∧ f ((i : Int) + 1).toNat ≤ 8) with h | h
  · refine ox_between hV hX (hf _) h (fun sc2 ar2 B F w p hb => ?_)
    have hJ2 := hJ.pe p
    obtain ⟨_, hX2, hM2, hs2, ha2⟩ := id hJ2
    have hr := tbs_bd hV.2.2.2.1 hV.1 hb
    refine sg_Law_711 ⟨by omega, by rw [ml hs2]; omega, ?_⟩
    rw [ha2]
    refine om_between hV hM2 (hf _) h (fun sc3 ar3 B2 F2 w2 p2 hb2 => ?_)
    have e := (tbs_uniq hV.1 hb (fun _ _ => trivial) hb2 (fun _ _ => trivial)).1
    exact sg_Law_720 ⟨by omega, by omega, fun _ => nx _ _ _ _ _ _ _ (hJ2.pe p2), fun c => absurd e c⟩
  · refine ox_between0 hV hX (hf _) h ?_
    refine sg_Law_711 ⟨by omega, by rw [ml hs]; omega, ?_⟩
    rw [ha]
    exact om_between0 hV hM (hf _) h (fun sc3 ar3 p2 => sg_Law_720 ⟨(by omega), (by omega), fun _ => nx _ _ _ _ _ _ _ (hJ.pe p2), fun c => absurd rfl c⟩)
theorem law_team (hf : ∀ i, inR (f i)) (hL : L ≤ 2048) (hi : i + 3 < L) (nx : NX L f i) {N : Nat} {tm nd ch od : Nat → Int} {sc : Nat → Int} {ar : Nat → Nat → Int} (hJ : JJ L f N tm nd ch od sc ar) : Ev 16 M_Law (725, [some (vA 999), some (vO 0), some (vO 11), some (vI i)], [], (sc, ar)) (fun r _ => r = some (vI 1)) := by
  obtain ⟨hV, hX, hM, hs, ha⟩ := id hJ
  refine sg_Law_725 ⟨by omega, by rw [ml hs]; omega, by omega, by rw [ml hs]; omega, ?_⟩
  rw [ha]
  rcases Classical.em ((1 ≤ f ((i : Int) + 1).toNat ∧ f ((i : Int) + 1).toNat ≤ 8) ∧ tk N (f ((i : Int) + 2).toNat)) with h | h
  · refine ox_team hV hX (hf _) (hf _) h.1 h.2 (fun sc2 ar2 B F w p hb => ?_)
    have hJ2 := hJ.pe p
    obtain ⟨_, hX2, hM2, hs2, ha2⟩ := id hJ2
    have hN := hV.1
    have ht := tk_lt h.2
    have hr := trg_at hb.1.1 ht
    refine sg_Law_739 ⟨by omega, by rw [ml hs2]; omega, by omega, by rw [ml hs2]; omega, ?_⟩
    rw [ha2]
    refine om_team hV hM2 (hf _) (hf _) h.1 h.2 (fun sc3 ar3 B2 F2 w2 p2 hb2 => ?_)
    have e := (tbs_uniq hV.1 hb (fun _ _ => trivial) hb2 (fun _ _ => trivial)).2 _ ht
    exact sg_Law_753 ⟨by omega, by omega, fun _ => nx _ _ _ _ _ _ _ (hJ2.pe p2), fun c => absurd e c⟩
  · refine ox_team0 hV hX (hf _) (hf _) h ?_
    refine sg_Law_739 ⟨by omega, by rw [ml hs]; omega, by omega, by rw [ml hs]; omega, ?_⟩
    rw [ha]
    exact om_team0 hV hM (hf _) (hf _) h (fun sc3 ar3 p2 => sg_Law_753 ⟨aOne_r (by omega) (by omega), aOne_r (by omega) (by omega), fun _ => nx _ _ _ _ _ _ _ (hJ.pe p2), fun c => absurd rfl c⟩)
theorem law_force (hf : ∀ i, inR (f i)) (hL : L ≤ 2048) (hi : i + 3 < L) (nx : NX L f i) {N : Nat} {tm nd ch od : Nat → Int} {sc : Nat → Int} {ar : Nat → Nat → Int} (hJ : JJ L f N tm nd ch od sc ar) : Ev 16 M_Law (758, [some (vA 999), some (vO 0), some (vO 11), some (vI i)], [], (sc, ar)) (fun r _ => r = some (vI 1)) := by
  obtain ⟨hV, hX, hM, hs, ha⟩ := id hJ
  refine sg_Law_758 ⟨by omega, by rw [ml hs]; omega, by omega, by rw [ml hs]; omega, by omega, by rw [ml hs]; omega, ?_⟩
  rw [ha]
  refine ⟨hf _, fun c => ?_, fun c => ?_⟩
  · rcases Classical.em (tk N (f ((i : Int) + 1).toNat) ∧ tk N (f ((i : Int) + 2).toNat)) with h | h
    · refine ox_force hV hX (hf _) (hf _) (by omega) h.1 h.2 (fun sc2 ar2 F p hF hr => ?_)
      have hJ2 := hJ.pe p
      obtain ⟨_, hX2, hM2, hs2, ha2⟩ := id hJ2
      have ht := tk_lt h.2
      refine sg_Law_785 ⟨by omega, by rw [ml hs2]; omega, by omega, by rw [ml hs2]; omega, by omega, by rw [ml hs2]; omega, ?_⟩
      rw [ha2]
      refine ⟨hf _, fun _ => om_force hV hM2 (hf _) (hf _) (by omega) h.1 h.2 (fun sc3 ar3 F2 p2 hF2 => ?_), fun c2 => absurd c c2⟩
      have hN := hV.1
      rw [← FX_FM hF hF2 (show (f ((i : Int) + 2).toNat).toNat < 8 by omega)]
      exact sg_Law_812 ⟨hr, hr, fun _ => nx _ _ _ _ _ _ _ (hJ2.pe p2), fun c => absurd rfl c⟩
    · refine ox_force0 hV hX (hf _) (hf _) h ?_
      refine sg_Law_785 ⟨by omega, by rw [ml hs]; omega, by omega, by rw [ml hs]; omega, by omega, by rw [ml hs]; omega, ?_⟩
      rw [ha]
      exact ⟨hf _, fun _ => om_force0 hV hM (hf _) (hf _) h (fun sc3 ar3 p2 => sg_Law_812 ⟨by omega, by omega, fun _ => nx _ _ _ _ _ _ _ (hJ.pe p2), fun c => absurd rfl c⟩), fun c2 => absurd c c2⟩
  · rcases Classical.em (tk N (f ((i : Int) + 1).toNat) ∧ tk N (f ((i : Int) + 2).toNat)) with h | h
    · refine ox_force hV hX (hf _) (hf _) (by omega) h.1 h.2 (fun sc2 ar2 F p hF hr => ?_)
      have hJ2 := hJ.pe p
      obtain ⟨_, hX2, hM2, hs2, ha2⟩ := id hJ2
      have ht := tk_lt h.2
      refine sg_Law_785 ⟨by omega, by rw [ml hs2]; omega, by omega, by rw [ml hs2]; omega, by omega, by rw [ml hs2]; omega, ?_⟩
      rw [ha2]
      refine ⟨hf _, fun c2 => absurd c2 c, fun _ => om_force hV hM2 (hf _) (hf _) (by omega) h.1 h.2 (fun sc3 ar3 F2 p2 hF2 => ?_)⟩
      have hN := hV.1
      rw [← FX_FM hF hF2 (show (f ((i : Int) + 2).toNat).toNat < 8 by omega)]
      exact sg_Law_812 ⟨hr, hr, fun _ => nx _ _ _ _ _ _ _ (hJ2.pe p2), fun c => absurd rfl c⟩
    · refine ox_force0 hV hX (hf _) (hf _) h ?_
      refine sg_Law_785 ⟨by omega, by rw [ml hs]; omega, by omega, by rw [ml hs]; omega, by omega, by rw [ml hs]; omega, ?_⟩
      rw [ha]
      exact ⟨hf _, fun c2 => absurd c2 c, fun _ => om_force0 hV hM (hf _) (hf _) h (fun sc3 ar3 p2 => sg_Law_812 ⟨by omega, by omega, fun _ => nx _ _ _ _ _ _ _ (hJ.pe p2), fun c => absurd rfl c⟩)⟩
theorem law_reach (hf : ∀ i, inR (f i)) (hL : L ≤ 2048) (hi : i + 3 < L) (nx : NX L f i) {N : Nat} {tm nd ch od : Nat → Int} {sc : Nat → Int} {ar : Nat → Nat → Int} (hJ : JJ L f N tm nd ch od sc ar) : Ev 16 M_Law (818, [some (vA 999), some (vO 0), some (vO 11), some (vI i)], [], (sc, ar)) (fun r _ => r = some (vI 1)) := by
  obtain ⟨hV, hX, hM, hs, ha⟩ := id hJ
  refine sg_Law_818 ⟨by omega, by rw [ml hs]; omega, by omega, by rw [ml hs]; omega, ?_⟩
  rw [ha]
  rcases Classical.em (tk N (f ((i : Int) + 1).toNat) ∧ 1 ≤ f ((i : Int) + 2).toNat ∧ f ((i : Int) + 2).toNat ≤ 1000) with h | h
  · refine ox_reach hV hX (hf _) (hf _) h.1 h.2 (fun sc2 ar2 F p hF => ?_)
    have hJ2 := hJ.pe p
    obtain ⟨_, hX2, hM2, hs2, ha2⟩ := id hJ2
    have hN := hV.1
    have ht := tk_lt h.1
    have hr := sm_bd (f := fun t => if F t < 10000 * f ((i : Int) + 2).toNat then 0 else 1) (b := 1) 8 (fun j hj => by
      show 0 ≤ (if F j < 10000 * f ((i : Int) + 2).toNat then (0 : Int) else 1) ∧ (if F j < 10000 * f ((i : Int) + 2).toNat then (0 : Int) else 1) ≤ 1
      split <;> omega)
    refine sg_Law_832 ⟨by omega, by rw [ml hs2]; omega, by omega, by rw [ml hs2]; omega, ?_⟩
    rw [ha2]
    refine om_reach hV hM2 (hf _) (hf _) h.1 h.2 (fun sc3 ar3 F2 p2 hF2 => ?_)
    have e := reach_eq hN ht hF hF2 h.2
    rw [← e]
    exact sg_Law_846 ⟨by omega, by omega, fun _ => nx _ _ _ _ _ _ _ (hJ2.pe p2), fun c => absurd rfl c⟩
  · refine ox_reach0 hV hX (hf _) (hf _) h ?_
    refine sg_Law_832 ⟨by omega, by rw [ml hs]; omega, by omega, by rw [ml hs]; omega, ?_⟩
    rw [ha]
    exact om_reach0 hV hM (hf _) (hf _) h (fun sc3 ar3 p2 => sg_Law_846 ⟨aOne_r (by omega) (by omega), aOne_r (by omega) (by omega), fun _ => nx _ _ _ _ _ _ _ (hJ.pe p2), fun c => absurd rfl c⟩)
end LAW

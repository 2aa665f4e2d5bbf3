/-- the world at the start: no tasks; the script -/
def h00 (L : Nat) (f : Nat → Int) : mH := (fun i => if i = 999 then (L : Int) else if i = 114 then 1 else 0, fun a i => if a = 999 then f i else 0)
theorem law_ev (L : Nat) (f : Nat → Int) (hL : L ≤ 2048) (hf : ∀ i, inR (f i)) : Ev 7 M_Law (18, [some (vA 999), some (vO 0), some (vO 11), some (vI 0)], [], h00 L f) (fun r _ => r = some (vI 1)) := sorry

/-! GOING BACK: the numbers of the mean, and least terms -/
def gc : Nat → Int → Int → Int
  | 0, x, _ => x
  | n + 1, x, y => if y = 0 then x else gc n y (x.tmod y)
def gD : Nat → Int → Int → Prop
  | 0, _, y => y = 0
  | n + 1, x, y => y = 0 ∨ gD n y (x.tmod y)
theorem tmod_lt {x y : Int} (hx : 0 ≤ x) (hy : 0 < y) : 0 ≤ x.tmod y ∧ x.tmod y < y ∧ x.tmod y ≤ x := by
  refine ⟨Int.tmod_nonneg _ hx, Int.tmod_lt_of_pos _ hy, ?_⟩
  rw [Int.tmod_eq_emod_of_nonneg hx]
  have h1 := Int.emod_add_mul_ediv x y
  have h2 : 0 ≤ x / y := Int.ediv_nonneg hx (by omega)
  have h3 : 0 ≤ y * (x / y) := Int.mul_nonneg (by omega) h2
  omega
theorem tmod_half {x y : Int} (hx : 0 ≤ x) (hy : 0 < y) (h : y ≤ x) : 2 * x.tmod y < x := by
  have h1 := tmod_lt hx hy
  rw [Int.tmod_eq_emod_of_nonneg hx] at h1 ⊢
  have h2 := Int.emod_add_mul_ediv x y
  have h3 : 1 ≤ x / y := by
    rw [Int.le_ediv_iff_mul_le hy]
    omega
  have h4 : y * 1 ≤ y * (x / y) := Int.mul_le_mul_of_nonneg_left h3 (by omega)
  omega
theorem gD_le : ∀ (n : Nat) (x y : Int), gD n x y → gD (n + 1) x y
  | 0, x, y, h => Or.inl h
  | n + 1, x, y, h => h.elim Or.inl (fun q => Or.inr (gD_le n _ _ q))
theorem gD_ok : ∀ (k : Nat) (x y : Int), 0 ≤ x → 0 ≤ y → y < (2 ^ k : Nat) → gD (2 * k) x y
  | 0, x, y, _, h0, h => by
    show y = 0
    simp at h
    omega
  | k + 1, x, y, hx, h0, h => by
    show gD (2 * k + 2) x y
    by_cases e : y = 0
    · exact Or.inl e
    · refine Or.inr ?_
      have h1 := tmod_lt hx (show 0 < y by omega)
      by_cases e2 : x.tmod y = 0
      · exact Or.inl e2
      · refine Or.inr ?_
        have h2 := tmod_lt h0 (show 0 < x.tmod y by omega)
        have h3 := tmod_half h0 (show 0 < x.tmod y by omega) (by omega)
        refine gD_ok k _ _ h1.1 h2.1 ?_
        have : (2 ^ (k + 1) : Nat) = 2 * 2 ^ k := by rw [Nat.pow_succ]; omega
        rw [this] at h
        generalize 2 ^ k = u at h ⊢
        omega
theorem gc_pos : ∀ (n : Nat) (x y : Int), 0 ≤ x → 0 ≤ y → (0 < x ∨ 0 < y) → gD n x y → 0 < gc n x y
  | 0, x, y, hx, hy, h, hd => by
    have : y = 0 := hd
    show 0 < x
    omega
  | n + 1, x, y, hx, hy, h, hd => by
    simp only [gc]
    by_cases e : y = 0
    · rw [if_pos e]; omega
    · rw [if_neg e]
      exact gc_pos n _ _ hy (tmod_lt hx (by omega)).1 (Or.inl (by omega)) (hd.resolve_left e)
theorem gc_le {b : Int} : ∀ (n : Nat) (x y : Int), 0 ≤ x → 0 ≤ y → x ≤ b → y ≤ b → gc n x y ≤ b
  | 0, x, y, _, _, h, _ => h
  | n + 1, x, y, hx, hy, h1, h2 => by
    simp only [gc]
    split
    · exact h1
    · have := tmod_lt hx (show 0 < y by omega)
      exact gc_le n _ _ hy this.1 h2 (by omega)
/-- a fraction in least terms, above or below -/
def toldF (a b u : Int) : Int := if u = 0 then b.tdiv (gc 80 a b) else a.tdiv (gc 80 a b)
section GCD
variable {sc : Nat → Int} {ar : Nat → Nat → Int} {Q : Option mV → mH → Prop} {d : Nat}
theorem lp_cd {a0 b0 : Int} : ∀ (n : Nat) (x y : Int) (s : Int), 0 ≤ s → s + n ≤ 100 → gD n x y → 0 ≤ x → 0 ≤ y → x < 1000000000000 → y < 1000000000000 → Q (some (vL (gc n x y))) (sc, ar) → Ev 0 M_Dt_commonDivisor (9, [some (vL a0), none, some (vL b0), none, some (vL x), none, some (vL y), none, some (vI s), none, none], [], (sc, ar)) Q
  | 0, x, y, s, h0, hs, hd, hx, hy, bx, b_y, k => by
    have hd : y = 0 := hd
    exact sg_Dt_commonDivisor_9 ⟨by omega, fun _ => k, fun _ => ⟨by omega, fun _ => k, fun c => absurd hd c⟩⟩
  | n + 1, x, y, s, h0, hs, hd, hx, hy, bx, b_y, k => by
    simp only [gc] at k
    refine sg_Dt_commonDivisor_9 ⟨by omega, fun c => by omega, fun _ => ⟨by omega, fun c => ?_, fun c => ⟨by omega, by omega, by omega, ?_⟩⟩⟩
    · rw [if_pos c] at k
      exact k
    · rw [if_neg c] at k
      have h1 := tmod_lt hx (show 0 < y by omega)
      exact lp_cd n y (x.tmod y) (s + 1) (by omega) (by omega) (hd.resolve_left c) hy h1.1 b_y (by omega) k
theorem gD80 {x y : Int} (hx : 0 ≤ x) (hy : 0 ≤ y) (h : y < 1000000000000) : gD 80 x y := gD_ok 40 x y hx hy (by
  have : (2 ^ 40 : Nat) = 1099511627776 := by decide +kernel
  rw [this]
  omega)
theorem ct_inLeast {a b u : Int} (ha : 0 ≤ a ∧ a < 1000000000000) (hb : 0 < b ∧ b < 1000000000000) (hu : inR u) (k : Q (some (vL (toldF a b u))) (sc, ar)) : Ev (d + 1) M_Dt_inLeastTerms (0, [some (vL a), none, some (vL b), none, some (vI u), none, none], [], (sc, ar)) Q := by
  have hd := gD80 ha.1 (show 0 ≤ b by omega) hb.2
  have hp := gc_pos 80 a b ha.1 (by omega) (Or.inr hb.1) hd
  have hl := gc_le (b := 1000000000000) 80 a b ha.1 (by omega) (by omega) (by omega)
  unfold toldF at k
  refine Ev.deep (Nat.le_add_left 1 d) (sg_Dt_inLeastTerms_0 (Ev.deep (Nat.le_refl 0) (sg_Dt_commonDivisor_0 (lp_cd 80 a b 0 (by omega) (by omega) hd ha.1 (by omega) ha.2 hb.2 (sg_Dt_inLeastTerms_5 ⟨by omega, fun _ => ⟨hu, fun c => ⟨by omega, by omega, hp, ?_⟩, fun c => ⟨by omega, by omega, hp, ?_⟩⟩, fun c => absurd hp c⟩)))))
  · rw [if_pos c] at k
    exact k
  · rw [if_neg c] at k
    exact k
theorem lp_told {a b u : Int} (ha : 0 ≤ a ∧ a < 1000000000000) (hb : 0 < b ∧ b < 1000000000000) (hu : inR u) (g : Int) (hg : 0 < g ∧ g ≤ 1000000000000) (k : Q (some (vL (if u = 0 then b.tdiv g else a.tdiv g))) (sc, ar)) : ∀ (n : Nat) (x y : Int), gD n x y → 0 ≤ x → 0 ≤ y → x < 1000000000000 → y < 1000000000000 → gc n x y = g → Ev 0 M_Md_told (6, [some (vL a), none, some (vL b), none, some (vI u), some (vL x), none, some (vL y), none, none, none], [], (sc, ar)) Q
  | 0, x, y, hd, hx, hy, bx, b_y, e => by
    have hd : y = 0 := hd
    have e : x = g := e
    subst e
    refine sg_Md_told_6 ⟨by omega, fun _ => ⟨hu, fun c => ⟨by omega, by omega, hg.1, ?_⟩, fun c => ⟨by omega, by omega, hg.1, ?_⟩⟩, fun c => absurd hd c⟩
    · rw [if_pos c] at k
      exact k
    · rw [if_neg c] at k
      exact k
  | n + 1, x, y, hd, hx, hy, bx, b_y, e => by
    simp only [gc] at e
    refine sg_Md_told_6 ⟨by omega, fun c => ?_, fun c => ⟨by omega, by omega, by omega, ?_⟩⟩
    · rw [if_pos c] at e
      subst e
      refine ⟨hu, fun c => ⟨by omega, by omega, hg.1, ?_⟩, fun c => ⟨by omega, by omega, hg.1, ?_⟩⟩
      · rw [if_pos c] at k
        exact k
      · rw [if_neg c] at k
        exact k
    · rw [if_neg c] at e
      have h1 := tmod_lt hx (show 0 < y by omega)
      exact lp_told ha hb hu g hg k n y (x.tmod y) (hd.resolve_left c) hy h1.1 b_y (by omega) e
theorem ct_told {a b u : Int} (ha : 0 ≤ a ∧ a < 1000000000000) (hb : 0 < b ∧ b < 1000000000000) (hu : inR u) (k : Q (some (vL (toldF a b u))) (sc, ar)) : Ev d M_Md_told (0, [some (vL a), none, some (vL b), none, some (vI u), none, none, none, none, none, none], [], (sc, ar)) Q := by
  have hd := gD80 ha.1 (show 0 ≤ b by omega) hb.2
  have hp := gc_pos 80 a b ha.1 (by omega) (Or.inr hb.1) hd
  have hl := gc_le (b := 1000000000000) 80 a b ha.1 (by omega) (by omega) (by omega)
  exact Ev.deep (Nat.zero_le d) (sg_Md_told_0 (lp_told ha hb hu _ ⟨hp, hl⟩ k 80 a b hd ha.1 (by omega) ha.2 hb.2 rfl))
end GCD
/-! the mean: AF p is what is spent on the mean from a place till going on from it, over all that is below -/
def tn (ch od : Nat → Int) (p q : Nat) : Int := ch (8 * (od p).toNat + (od q).toNat)
def fc (ch od : Nat → Int) (p : Nat) : Int := 10 - sm (tn ch od p) p
def BL (ch od : Nat → Int) : Nat → Int
  | 0 => 1
  | p + 1 => BL ch od p * fc ch od p
def PRd (ch od : Nat → Int) (a : Nat) : Nat → Int
  | 0 => 1
  | n + 1 => PRd ch od a n * fc ch od (a + n)
def PR (ch od : Nat → Int) (a b : Nat) : Int := PRd ch od a (b - a)
def sgS (ch od : Nat → Int) (A : Nat → Int) (p q n : Nat) : Int := sm (fun i => if q ≤ i then A i * PR ch od (i + 1) p else 0) n
def aV (ch od : Nat → Int) (c : Nat → Int) (A : Nat → Int) (p n : Nat) : Int := 10 * c p * BL ch od p + sm (fun q => tn ch od p q * sgS ch od A p q p) n
def AB (ch od : Nat → Int) (c : Nat → Int) : Nat → Nat → Int
  | 0 => fun _ => 0
  | p + 1 => up (AB ch od c p) p (aV ch od c (AB ch od c p) p p)
def AF (ch od : Nat → Int) (c : Nat → Int) (p : Nat) : Int := AB ch od c (p + 1) p
def TT (ch od : Nat → Int) (c : Nat → Int) (p : Nat) : Int := sm (fun i => AF ch od c i * PR ch od (i + 1) p) p
section MEANS
variable {N : Nat} {tm nd ch od : Nat → Int} {c : Nat → Int}
theorem PR_self (a : Nat) : PR ch od a a = 1 := by
  unfold PR
  rw [Nat.sub_self]
  rfl
theorem PR_succ {a b : Nat} (h : a ≤ b) : PR ch od a (b + 1) = PR ch od a b * fc ch od b := by
  unfold PR
  rw [show b + 1 - a = (b - a) + 1 by omega]
  simp only [PRd]
  rw [show a + (b - a) = b by omega]
theorem BL_PR {a : Nat} : ∀ b, a ≤ b → BL ch od b = BL ch od a * PR ch od a b
  | 0, h => by
    have : a = 0 := by omega
    subst this
    rw [PR_self, Int.mul_one]
  | b + 1, h => by
    by_cases e : a = b + 1
    · subst e
      rw [PR_self, Int.mul_one]
    · rw [PR_succ (by omega), ← Int.mul_assoc, ← BL_PR b (by omega)]
      rfl
theorem AB_keep {q : Nat} : ∀ p, q < p → AB ch od c p q = AF ch od c q
  | 0, h => by omega
  | p + 1, h => by
    by_cases e : q = p
    · subst e; rfl
    · have : AB ch od c (p + 1) q = AB ch od c p q := by
        simp only [AB]
        exact up_ne _ _ e
      rw [this]
      exact AB_keep p (by omega)
theorem sgS_congr {A A2 : Nat → Int} {p q n : Nat} (h : ∀ i, i < n → A i = A2 i) : sgS ch od A p q n = sgS ch od A2 p q n := by
  apply sm_congr
  intro i hi
  rw [h i hi]
theorem AF_rec (p : Nat) : AF ch od c p = aV ch od c (AF ch od c) p p := by
  show AB ch od c (p + 1) p = _
  simp only [AB]
  rw [up_eq]
  unfold aV
  congr 1
  apply sm_congr
  intro q hq
  rw [sgS_congr (fun i hi => AB_keep p hi)]
theorem tn_bd (hV : VV N tm nd ch od) {p q : Nat} (hp : p < N) (hq : q < N) : 0 ≤ tn ch od p q ∧ tn ch od p q ≤ 8 := by
  obtain ⟨hN, -, -, -, -, hc, -, ho⟩ := hV
  have o1 := ho.1 p (by omega)
  have o2 := ho.1 q (by omega)
  exact hc _ (by omega)
theorem sm_mono {f : Nat → Int} {n : Nat} : ∀ m, n ≤ m → (∀ i, i < m → 0 ≤ f i) → sm f n ≤ sm f m
  | 0, h, _ => by
    have : n = 0 := by omega
    subst this
    exact Int.le_refl _
  | m + 1, h, z => by
    by_cases e : n = m + 1
    · rw [e]; exact Int.le_refl _
    · have h1 := sm_mono (n := n) m (by omega) (fun i hi => z i (by omega))
      have h2 := z m (by omega)
      show sm f n ≤ sm f m + f m
      omega
theorem bk_bd (hV : VV N tm nd ch od) {p : Nat} (hp : p < N) : ∀ q, q ≤ N → 0 ≤ sm (tn ch od p) q ∧ sm (tn ch od p) q ≤ 8 := by
  intro q hq
  obtain ⟨hN, -, -, -, -, hc, hr, ho⟩ := id hV
  have o1 := ho.1 p (by omega)
  have h0 := (sm_bd (f := tn ch od p) (b := 8) q (fun i hi => tn_bd hV hp (by omega))).1
  have h1 := sm_mono (f := tn ch od p) N hq (fun i hi => (tn_bd hV hp hi).1)
  have h2 : sm (tn ch od p) N = sm (fun b => ch (8 * (od p).toNat + b)) N := (sm_perm ho (fun b => ch (8 * (od p).toNat + b))).symm
  have h3 := sm_mono (f := fun b => ch (8 * (od p).toNat + b)) (n := N) 8 hN (fun i hi => (hc _ (by omega)).1)
  have h4 := hr (od p).toNat (by omega)
  omega
theorem fc_bd (hV : VV N tm nd ch od) {p : Nat} (hp : p < N) : 2 ≤ fc ch od p ∧ fc ch od p ≤ 10 := by
  have := bk_bd hV hp p (by omega)
  unfold fc
  omega
theorem BL_bd (hV : VV N tm nd ch od) : ∀ p, p ≤ N → 1 ≤ BL ch od p ∧ BL ch od p ≤ (10 ^ p : Nat)
  | 0, _ => ⟨Int.le_refl _, Int.le_refl _⟩
  | p + 1, h => by
    have h1 := BL_bd hV p (by omega)
    have h2 := fc_bd hV (show p < N by omega)
    simp only [BL]
    have h3 : BL ch od p * 2 ≤ BL ch od p * fc ch od p := Int.mul_le_mul_of_nonneg_left h2.1 (by omega)
    have h4 : BL ch od p * fc ch od p ≤ BL ch od p * 10 := Int.mul_le_mul_of_nonneg_left h2.2 (by omega)
    have h5 : (10 ^ (p + 1) : Nat) = 10 * 10 ^ p := by rw [Nat.pow_succ]; omega
    rw [h5]
    generalize 10 ^ p = u at h1 ⊢
    omega
theorem PR_bd (hV : VV N tm nd ch od) {a : Nat} : ∀ b, a ≤ b → b ≤ N → 1 ≤ PR ch od a b
  | 0, h, _ => by
    have : a = 0 := by omega
    subst this
    rw [PR_self]
    exact Int.le_refl _
  | b + 1, h, hb => by
    by_cases e : a = b + 1
    · subst e
      rw [PR_self]
      exact Int.le_refl _
    · have h1 := PR_bd (a := a) hV b (by omega) (by omega)
      have h2 := fc_bd hV (show b < N by omega)
      rw [PR_succ (by omega)]
      have h3 : PR ch od a b * 2 ≤ PR ch od a b * fc ch od b := Int.mul_le_mul_of_nonneg_left h2.1 (by omega)
      omega
theorem BL_div (hV : VV N tm nd ch od) {a b : Nat} (h : a ≤ b) (hb : b ≤ N) : (BL ch od b).tdiv (BL ch od a) = PR ch od a b := by
  rw [BL_PR b h]
  exact Int.mul_tdiv_cancel_left _ (by have := BL_bd hV a (by omega); omega)
theorem sm_mulr (f : Nat → Int) (x : Int) : ∀ n, sm (fun i => f i * x) n = sm f n * x
  | 0 => by simp [sm]
  | n + 1 => by
    simp only [sm]
    rw [sm_mulr f x n, Int.add_mul]
theorem TT_succ (p : Nat) : TT ch od c (p + 1) = TT ch od c p * fc ch od p + AF ch od c p := by
  unfold TT
  simp only [sm]
  rw [PR_self, Int.mul_one, ← sm_mulr]
  congr 1
  apply sm_congr
  intro i hi
  rw [PR_succ (by omega), Int.mul_assoc]
theorem AF_bd (hV : VV N tm nd ch od) (hc : ∀ p, p < N → 0 ≤ c p ∧ c p ≤ 20) : ∀ p, p ≤ N → (∀ i, i < p → 0 ≤ AF ch od c i) ∧ 0 ≤ TT ch od c p ∧ TT ch od c p ≤ (20 * p * 10 ^ p : Nat)
  | 0, _ => ⟨fun i h => by omega, Int.le_refl _, Int.le_refl _⟩
  | p + 1, h => by
    obtain ⟨h1, h2, h3⟩ := AF_bd hV hc p (by omega)
    have hB := BL_bd hV p (by omega)
    have hcp := hc p (by omega)
    have hf := fc_bd hV (show p < N by omega)
    have hbk := bk_bd hV (show p < N by omega) p (by omega)
    have hs : ∀ q, q < p → 0 ≤ sgS ch od (AF ch od c) p q p ∧ sgS ch od (AF ch od c) p q p ≤ TT ch od c p := by
      intro q hq
      have hnn : ∀ i, i < p → 0 ≤ AF ch od c i * PR ch od (i + 1) p := fun i hi => Int.mul_nonneg (h1 i hi) (by have := PR_bd hV (a := i + 1) p (by omega) (by omega); omega)
      constructor
      · have := sm_le (f := fun _ => 0) (g := fun i => if q ≤ i then AF ch od c i * PR ch od (i + 1) p else 0) p (fun i hi => by
          try dsimp only
          split
          · exact hnn i hi
          · exact Int.le_refl _)
        rw [sm_zero] at this
        exact this
      · exact sm_le p (fun i hi => by
          try dsimp only
          split
          · exact Int.le_refl _
          · exact hnn i hi)
    have hS : 0 ≤ sm (fun q => tn ch od p q * sgS ch od (AF ch od c) p q p) p ∧ sm (fun q => tn ch od p q * sgS ch od (AF ch od c) p q p) p ≤ sm (tn ch od p) p * TT ch od c p := by
      constructor
      · have := sm_le (f := fun _ => 0) (g := fun q => tn ch od p q * sgS ch od (AF ch od c) p q p) p (fun q hq => Int.mul_nonneg (tn_bd hV (by omega) (by omega)).1 (hs q hq).1)
        rw [sm_zero] at this
        exact this
      · rw [← sm_mulr]
        exact sm_le p (fun q hq => Int.mul_le_mul_of_nonneg_left (hs q hq).2 (tn_bd hV (by omega) (by omega)).1)
    have hc1 : 0 ≤ 10 * c p * BL ch od p := Int.mul_nonneg (by omega) (by omega)
    have hc2 : 10 * c p * BL ch od p ≤ 200 * BL ch od p := Int.mul_le_mul_of_nonneg_right (by omega) (by omega)
    have hA : 0 ≤ AF ch od c p ∧ AF ch od c p ≤ 200 * BL ch od p + sm (tn ch od p) p * TT ch od c p := by
      rw [AF_rec]
      unfold aV
      omega
    refine ⟨fun i hi => ?_, ?_, ?_⟩
    · by_cases e : i = p
      · subst e; exact hA.1
      · exact h1 i (by omega)
    · rw [TT_succ]
      have := Int.mul_nonneg h2 (show 0 ≤ fc ch od p by omega)
      omega
    · rw [TT_succ]
      have e1 : TT ch od c p * fc ch od p + sm (tn ch od p) p * TT ch od c p = 10 * TT ch od c p := by
        rw [Int.mul_comm (sm (tn ch od p) p), ← Int.mul_add]
        unfold fc
        rw [show 10 - sm (tn ch od p) p + sm (tn ch od p) p = 10 by omega, Int.mul_comm]
      have e2 : (20 * (p + 1) * 10 ^ (p + 1) : Nat) = 10 * (20 * p * 10 ^ p) + 200 * 10 ^ p := by
        rw [Nat.pow_succ]
        generalize 10 ^ p = u
        rw [Nat.mul_add 20 p 1, Nat.add_mul, Nat.mul_comm u 10, ← Nat.mul_assoc, ← Nat.mul_assoc (20 * 1), Nat.mul_comm (20 * p) 10, Nat.mul_assoc 10]
      rw [e2]
      generalize 20 * p * 10 ^ p = w at h3 ⊢
      generalize 10 ^ p = u at hB ⊢
      omega
theorem TT_lt (hV : VV N tm nd ch od) (hc : ∀ p, p < N → 0 ≤ c p ∧ c p ≤ 20) : 0 ≤ TT ch od c N ∧ TT ch od c N < 1000000000000 := by
  obtain ⟨-, h1, h2⟩ := AF_bd hV hc N (Nat.le_refl _)
  refine ⟨h1, ?_⟩
  have hN := hV.1
  have h3 : 20 * N * 10 ^ N ≤ 20 * 8 * 10 ^ 8 := Nat.mul_le_mul (Nat.mul_le_mul_left 20 hN) (Nat.pow_le_pow_right (by decide) hN)
  have h4 : 20 * 8 * 10 ^ 8 = 16000000000 := by decide +kernel
  omega
theorem BL_lt (hV : VV N tm nd ch od) {p : Nat} (hp : p ≤ N) : 0 < BL ch od p ∧ BL ch od p < 1000000000000 := by
  have h1 := BL_bd hV p hp
  have hN := hV.1
  have h3 : 10 ^ p ≤ 10 ^ 8 := Nat.pow_le_pow_right (by decide) (by omega)
  have h4 : 10 ^ 8 = 100000000 := by decide +kernel
  omega
end MEANS

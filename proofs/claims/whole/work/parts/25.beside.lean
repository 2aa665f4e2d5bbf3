/-! BESIDE one another; rows filled -/
section BESIDE
variable {sc : Nat → Int} {ar : Nat → Nat → Int} {Q : Option mV → mH → Prop} {d : Nat} {N : Nat} {tm nd ch od : Nat → Int}
theorem lp_fillI {a n : Nat} (ha : aK a = 0) (h9 : a ≠ 999) (hl : ∀ (s : Nat → Int) (r : Nat → Nat → Int), mLen (s, r) a = (n : Int)) (hn : n < 1000) (f : Nat → Int) (v : Int) (k : Q none (sc, up ar a (wr f (fun _ => v) n))) : ∀ j i : Nat, i + j = n → Ev 0 M_Arr_fillI (5, [some (vA a), some (vI v), some (vI i), some (vI n)], [], (sc, up ar a (wr f (fun _ => v) i))) Q := by
  intro j
  induction j with
  | zero =>
    intro i hi
    have : i = n := by omega
    subst this
    exact sg_Arr_fillI_5 ⟨by omega, by omega, fun _ => k, fun c => by omega⟩
  | succ j ih =>
    intro i hi
    have h1 := ih (i + 1) (by omega)
    refine sg_Arr_fillI_5 ⟨by omega, by omega, fun c => by omega, fun _ => ⟨ha, h9, by omega, by rw [hl]; omega, ?_⟩⟩
    simp only [up_eq, up_up, Int.toNat_natCast]
    simp only [wr] at h1
    exact h1
theorem ct_fillI {a n : Nat} (ha : aK a = 0) (h9 : a ≠ 999) (hl : ∀ (s : Nat → Int) (r : Nat → Nat → Int), mLen (s, r) a = (n : Int)) (hn : n < 1000) (v : Int) (k : Q none (sc, up ar a (wr (ar a) (fun _ => v) n))) : Ev d M_Arr_fillI (0, [some (vA a), some (vI v), none, none], [], (sc, ar)) Q := by
  refine Ev.deep (Nat.zero_le d) (sg_Arr_fillI_0 ⟨by omega, ?_⟩)
  have := lp_fillI ha h9 hl hn (ar a) v k n 0 (by omega)
  simp only [wr, up_id] at this
  rw [hl]
  exact this
theorem lp_fillL {a n : Nat} (ha : aK a = 1) (h9 : a ≠ 999) (hl : ∀ (s : Nat → Int) (r : Nat → Nat → Int), mLen (s, r) a = (n : Int)) (hn : n < 1000) (f : Nat → Int) (v : Int) (k : Q none (sc, up ar a (wr f (fun _ => v) n))) : ∀ j i : Nat, i + j = n → Ev 0 M_Arr_fillL (6, [some (vA a), some (vL v), none, some (vI i), some (vI n)], [], (sc, up ar a (wr f (fun _ => v) i))) Q := by
  intro j
  induction j with
  | zero =>
    intro i hi
    have : i = n := by omega
    subst this
    exact sg_Arr_fillL_6 ⟨by omega, by omega, fun _ => k, fun c => by omega⟩
  | succ j ih =>
    intro i hi
    have h1 := ih (i + 1) (by omega)
    refine sg_Arr_fillL_6 ⟨by omega, by omega, fun c => by omega, fun _ => ⟨ha, h9, by omega, by rw [hl]; omega, ?_⟩⟩
    simp only [up_eq, up_up, Int.toNat_natCast]
    simp only [wr] at h1
    exact h1
theorem ct_fillL {a n : Nat} (ha : aK a = 1) (h9 : a ≠ 999) (hl : ∀ (s : Nat → Int) (r : Nat → Nat → Int), mLen (s, r) a = (n : Int)) (hn : n < 1000) (v : Int) (k : Q none (sc, up ar a (wr (ar a) (fun _ => v) n))) : Ev d M_Arr_fillL (0, [some (vA a), some (vL v), none, none, none], [], (sc, ar)) Q := by
  refine Ev.deep (Nat.zero_le d) (sg_Arr_fillL_0 ⟨by omega, ?_⟩)
  have := lp_fillL ha h9 hl hn (ar a) v k n 0 (by omega)
  simp only [wr, up_id] at this
  rw [hl]
  exact this
def mxB (nd od : Nat → Int) (E : Nat → Int) (p : Nat) : Nat → Int
  | 0 => 0
  | q + 1 => if ndo nd od p q ≤ 0 then mxB nd od E p q else if mxB nd od E p q < E q then E q else mxB nd od E p q
def EB (tm nd od : Nat → Int) : Nat → Nat → Int
  | 0 => fun _ => 0
  | p + 1 => up (EB tm nd od p) p (mxB nd od (EB tm nd od p) p p + tm (od p).toNat)
def mxF (f : Nat → Int) : Nat → Int
  | 0 => 0
  | i + 1 => if mxF f i < f i then f i else mxF f i
theorem mxB_congr {E E2 : Nat → Int} {p : Nat} : ∀ n, (∀ q, q < n → E q = E2 q) → mxB nd od E p n = mxB nd od E2 p n
  | 0, _ => rfl
  | n + 1, h => by
    simp only [mxB]
    rw [mxB_congr n (fun q hq => h q (by omega)), h n (by omega)]
theorem mxF_congr {E E2 : Nat → Int} : ∀ n, (∀ q, q < n → E q = E2 q) → mxF E n = mxF E2 n
  | 0, _ => rfl
  | n + 1, h => by
    simp only [mxF]
    rw [mxF_congr n (fun q hq => h q (by omega)), h n (by omega)]
theorem mxB_bd {E : Nat → Int} {p : Nat} {b : Int} (hb : 0 ≤ b) : ∀ n, (∀ q, q < n → 0 ≤ E q ∧ E q ≤ b) → 0 ≤ mxB nd od E p n ∧ mxB nd od E p n ≤ b
  | 0, _ => ⟨Int.le_refl _, hb⟩
  | n + 1, h => by
    have := mxB_bd (p := p) hb n (fun q hq => h q (by omega))
    have := h n (by omega)
    simp only [mxB]
    split
    · omega
    · split <;> omega
theorem mxF_bd {E : Nat → Int} {b : Int} (hb : 0 ≤ b) : ∀ n, (∀ q, q < n → 0 ≤ E q ∧ E q ≤ b) → 0 ≤ mxF E n ∧ mxF E n ≤ b
  | 0, _ => ⟨Int.le_refl _, hb⟩
  | n + 1, h => by
    have := mxF_bd hb n (fun q hq => h q (by omega))
    have := h n (by omega)
    simp only [mxF]
    split <;> omega
theorem mxF_ge {E : Nat → Int} : ∀ n, 0 ≤ mxF E n
  | 0 => Int.le_refl _
  | n + 1 => by
    have := mxF_ge (E := E) n
    simp only [mxF]
    split <;> omega
theorem mxF_more {E : Nat → Int} {n : Nat} : ∀ m, n ≤ m → (∀ q, n ≤ q → q < m → E q = 0) → mxF E m = mxF E n
  | 0, h, _ => by
    have : n = 0 := by omega
    subst this
    rfl
  | m + 1, h, z => by
    by_cases e : n = m + 1
    · rw [e]
    · simp only [mxF]
      rw [mxF_more m (by omega) (fun q h1 h2 => z q h1 (by omega)), z m (by omega) (by omega), if_neg]
      have := mxF_ge (E := E) n
      omega
theorem EB_zero : ∀ p i, p ≤ i → EB tm nd od p i = 0
  | 0, i, _ => rfl
  | p + 1, i, h => by
    simp only [EB]
    rw [up_ne _ _ (by omega)]
    exact EB_zero p i (by omega)
theorem EB_keep {q : Nat} : ∀ p, q < p → EB tm nd od p q = EB tm nd od (q + 1) q
  | 0, h => by omega
  | p + 1, h => by
    by_cases e : q = p
    · subst e; rfl
    · have : EB tm nd od (p + 1) q = EB tm nd od p q := by
        simp only [EB]
        exact up_ne _ _ e
      rw [this]
      exact EB_keep p (by omega)
/-- the end of the task at a place -/
def EF (tm nd od : Nat → Int) (p : Nat) : Int := EB tm nd od (p + 1) p
theorem EF_of {p q : Nat} (h : q < p) : EB tm nd od p q = EF tm nd od q := EB_keep p h
theorem EF_rec (p : Nat) : EF tm nd od p = mxB nd od (EF tm nd od) p p + tm (od p).toNat := by
  show EB tm nd od (p + 1) p = _
  simp only [EB]
  rw [up_eq, mxB_congr p (fun q hq => EF_of hq)]
theorem EF_bd (hV : VV N tm nd ch od) : ∀ n, n ≤ N → ∀ p, p < n → 0 ≤ EF tm nd od p ∧ EF tm nd od p ≤ 20 * (p + 1 : Nat) := by
  obtain ⟨hN, ht, -, hR, hz, -, -, ho⟩ := hV
  intro n
  induction n with
  | zero => intro _ p h; omega
  | succ n ih =>
    intro hn p hp
    by_cases e : p = n
    · subst e
      have o1 := ho.1 p (by omega)
      have t1 := ht (od p).toNat (by omega)
      have := mxB_bd (nd := nd) (od := od) (E := EF tm nd od) (p := p) (b := 20 * (p : Nat)) (by omega) p (fun q hq => by
        have := ih (by omega) q (by omega)
        omega)
      rw [EF_rec]
      omega
    · exact ih (by omega) p (by omega)
theorem lp_bReckonI {p : Nat} (hV : VV N tm nd ch od) (hI : IX N tm nd ch od sc ar) (hp : p < N) (hg : ∀ q, q < p → ar 128 q = EF tm nd od q) (k : ∀ x7 : Int, Ev 2 M_Beside_reckon (11, [some (vO 8), some (vO 3), some (vO 1), some (vA 0), some (vI ((p : Int) + 1)), none, none, none], [], (sc, up ar 128 (up (ar 128) p (EF tm nd od p)))) Q) :
    ∀ j q : Nat, q + j = p → Ev 2 M_Beside_reckon (41, [some (vO 8), some (vO 3), some (vO 1), some (vA 0), some (vI p), some (vI (od p)), some (vI (mxB nd od (EF tm nd od) p q)), some (vI q)], [], (sc, ar)) Q := by
  obtain ⟨hN, ht, -, hR, hz, -, -, ho⟩ := id hV
  obtain ⟨i1, i2, i3, i4, i5, i6⟩ := hI
  have o1 := ho.1 p (by omega)
  have hb := EF_bd hV N (Nat.le_refl _)
  intro j
  induction j with
  | zero =>
    intro q hq
    have : q = p := by omega
    subst this
    have hl : mLen (sc, ar) 0 = 8 := rfl
    refine sg_Beside_reckon_41 ⟨by omega, by omega, fun _ => ct_valueOf rfl (by omega) (by rw [hl]; omega) (by rw [hl]; omega) (sg_Beside_reckon_97 ⟨by omega, by omega, ?_⟩), fun c => by omega⟩
    rw [i3, Int.toNat_natCast, ← EF_rec]
    exact k 0
  | succ j ih =>
    intro q hq
    have h1 := ih (q + 1) (by omega)
    have o2 := ho.1 q (by omega)
    have b1 := hb q (by omega)
    have b2 := mxB_bd (nd := nd) (od := od) (E := EF tm nd od) (p := p) (b := 200) (by omega) q (fun r hr => by
      have := hb r (by omega)
      omega)
    have hnr : 0 ≤ ndo nd od p q ∧ ndo nd od p q ≤ 9 := hR.at (show (od p).toNat < 8 by omega) (show (od q).toNat < 8 by omega)
    refine sg_Beside_reckon_41 ⟨by omega, by omega, fun c => by omega, fun _ => ct_taskAtT i2 (by omega) (by omega) (sg_Beside_reckon_57 (ct_getN (by omega) (by rw [i6, Int.toNat_natCast]; omega) (sg_Beside_reckon_60 ?_)))⟩
    rw [i6, i4, Int.toNat_natCast, show (8 * od p + od q).toNat = 8 * (od p).toNat + (od q).toNat by omega, hg q (by omega), show nd (8 * (od p).toNat + (od q).toNat) = ndo nd od p q from rfl]
    simp only [mxB] at h1
    refine ⟨by omega, fun c => ?_, fun c => ⟨by omega, by omega, by omega, by omega, ?_⟩⟩
    · rw [if_pos c] at h1
      exact h1
    · rw [if_neg c] at h1
      exact h1
theorem lp_bReckon {a0 : Nat → Nat → Int} (hV : VV N tm nd ch od) (hI : IX N tm nd ch od sc a0) (k : ∀ g : Nat → Int, (∀ i, i < 8 → g i = EB tm nd od N i) → Q none (sc, up a0 128 g)) : ∀ j p : Nat, p + j = N → ∀ g : Nat → Int, (∀ i, i < 8 → g i = EB tm nd od p i) → Ev 2 M_Beside_reckon (11, [some (vO 8), some (vO 3), some (vO 1), some (vA 0), some (vI p), none, none, none], [], (sc, up a0 128 g)) Q := by
  obtain ⟨hN, ht, -, hR, hz, -, -, ho⟩ := id hV
  have hI2 : ∀ g, IX N tm nd ch od sc (up a0 128 g) := fun g => hI.pe (Pe.rf.a 128 g)
  obtain ⟨i1, i2, i3, i4, i5, i6⟩ := id hI
  intro j
  induction j with
  | zero =>
    intro p hp g hg
    have : p = N := by omega
    subst this
    refine sg_Beside_reckon_11 (ct_lengthT (sg_Beside_reckon_17 ⟨by omega, by omega, fun _ => k g hg, fun c => by omega⟩))
  | succ j ih =>
    intro p hp g hg
    have j6 := (hI2 g).2.2.2.2.2
    refine sg_Beside_reckon_11 (ct_lengthT (sg_Beside_reckon_17 ⟨by omega, by omega, fun c => by omega, fun _ => ⟨by omega, fun c => by omega, fun _ => ct_taskAtT i2 (by omega) (by omega) (sg_Beside_reckon_33 ?_)⟩⟩))
    rw [j6, Int.toNat_natCast]
    refine lp_bReckonI (p := p) hV (hI2 g) (by omega) (fun q hq => by rw [up_eq, hg q (by omega)]; exact EF_of hq) (fun _ => ?_) p 0 (by omega)
    rw [up_eq, up_up]
    refine ih (p + 1) (by omega) _ (fun i hi => ?_)
    simp only [EB]
    by_cases e : i = p
    · subst e
      rw [up_eq, up_eq, mxB_congr i (fun q hq => EF_of hq), EF_rec]
    · rw [up_ne _ _ e, up_ne _ _ e]
      exact hg i hi
theorem ct_bReckon (hV : VV N tm nd ch od) (hI : IX N tm nd ch od sc ar) (k : ∀ g : Nat → Int, (∀ p, p < N → g p = EF tm nd od p) → (∀ p, N ≤ p → p < 8 → g p = 0) → Q none (sc, up ar 128 g)) : Ev (d + 2) M_Beside_reckon (0, [some (vO 8), some (vO 3), some (vO 1), some (vA 0), none, none, none, none], [], (sc, ar)) Q := by
  refine Ev.deep (Nat.le_add_left 2 d) (sg_Beside_reckon_0 (ct_fillI (n := 8) rfl (by decide) (fun _ _ => rfl) (by decide) 0 (sg_Beside_reckon_8 ?_)))
  exact lp_bReckon hV hI (fun g hg => k g (fun p hp => (hg p (by have := hV.1; omega)).trans (EF_of hp)) (fun p hp h8 => (hg p h8).trans (EB_zero N p hp))) N 0 (by omega) _ (fun i hi => by
    rw [wr_at, if_pos hi]
    rfl)
theorem lp_latest {g : Nat → Int} (hg : ar 128 = g) (hb : ∀ i, i < 8 → 0 ≤ g i ∧ g i ≤ 200) (k : Q (some (vI (mxF g 8))) (sc, ar)) : ∀ j i : Nat, i + j = 8 → Ev 0 M_Beside_latest (13, [some (vO 8), some (vI (mxF g i)), some (vA 128), some (vI 8), some (vI i), none], [], (sc, ar)) Q := by
  intro j
  induction j with
  | zero =>
    intro i hi
    have : i = 8 := by omega
    subst this
    exact sg_Beside_latest_13 ⟨by omega, by omega, fun _ => k, fun c => by omega⟩
  | succ j ih =>
    intro i hi
    have h1 := ih (i + 1) (by omega)
    have b1 := hb i (by omega)
    have b2 := mxF_bd (E := g) (b := 200) (by omega) i (fun q hq => hb q (by omega))
    refine sg_Beside_latest_13 ⟨by omega, by omega, fun c => by omega, fun _ => ⟨by omega, by omega, by omega, by rw [hg, Int.toNat_natCast]; omega, ?_⟩⟩
    rw [hg, Int.toNat_natCast]
    simp only [mxF] at h1
    exact h1
theorem ct_latest {g : Nat → Int} (hg : ar 128 = g) (hb : ∀ i, i < 8 → 0 ≤ g i ∧ g i ≤ 200) (k : Q (some (vI (mxF g 8))) (sc, ar)) : Ev d M_Beside_latest (0, [some (vO 8), none, none, none, none, none], [], (sc, ar)) Q :=
  Ev.deep (Nat.zero_le d) (sg_Beside_latest_0 (lp_latest hg hb k 8 0 (by omega)))
/-! the reference -/
theorem lp_besideMI {p : Nat} {a0 : Nat → Nat → Int} {g : Nat → Int} {x1 : Int} (hV : VV N tm nd ch od) (hI : IM N tm nd ch od sc a0) (hp : p < N) (hx : inR x1) (hg : ∀ q, q < p → g (od q).toNat = EF tm nd od q) (k : Ev 0 M_Md_beside (4, [some (vO 11), some (vI (if x1 < EF tm nd od p then EF tm nd od p else x1)), some (vI ((p : Int) + 1)), none, none, none], [], (sc, up a0 187 (up g (od p).toNat (EF tm nd od p)))) Q) :
    ∀ j q : Nat, q + j = p → Ev 0 M_Md_beside (25, [some (vO 11), some (vI x1), some (vI p), some (vI (od p)), some (vI (mxB nd od (EF tm nd od) p q)), some (vI q)], [], (sc, up a0 187 g)) Q := by
  obtain ⟨hN, ht, -, hR, hz, -, -, ho⟩ := id hV
  obtain ⟨i1, i3, i4, i5, i6⟩ := hI.pe (Pe.rf.a 187 g)
  have o1 := ho.1 p (by omega)
  have hb := EF_bd hV N (Nat.le_refl _)
  intro j
  induction j with
  | zero =>
    intro q hq
    have : q = p := by omega
    subst this
    have b1 := hb q (by omega)
    have e : mxB nd od (EF tm nd od) q q + tm (od q).toNat = EF tm nd od q := (EF_rec q).symm
    refine sg_Md_beside_25 ⟨by omega, by omega, fun _ => ?_, fun c => by omega⟩
    simp only [up_eq, up_up]
    rw [i3, e]
    refine ⟨by omega, by omega, by omega, by omega, by omega, by omega, by omega, hx, fun c => ?_, fun c => ⟨by omega, by omega, ?_⟩⟩
    · rw [if_neg (by omega)] at k
      exact k
    · rw [if_pos (by omega)] at k
      exact k
  | succ j ih =>
    intro q hq
    have h1 := ih (q + 1) (by omega)
    have o2 := ho.1 q (by omega)
    have b1 := hb q (by omega)
    have b2 := mxB_bd (nd := nd) (od := od) (E := EF tm nd od) (p := p) (b := 200) (by omega) q (fun r hr => by
      have := hb r (by omega)
      omega)
    have hnr : 0 ≤ ndo nd od p q ∧ ndo nd od p q ≤ 9 := hR.at (show (od p).toNat < 8 by omega) (show (od q).toNat < 8 by omega)
    refine sg_Md_beside_25 ⟨by omega, by omega, fun c => by omega, fun _ => ?_⟩
    rw [i6, i4, Int.toNat_natCast, show (8 * od p + od q).toNat = 8 * (od p).toNat + (od q).toNat by omega, up_eq, hg q (by omega), show nd (8 * (od p).toNat + (od q).toNat) = ndo nd od p q from rfl]
    simp only [mxB] at h1
    refine ⟨by omega, by omega, by omega, by omega, by omega, fun c => ?_, fun c => ⟨by omega, by omega, by omega, by omega, by omega, by omega, fun c2 => ?_, fun c2 => ⟨by omega, by omega, by omega, by omega, ?_⟩⟩⟩
    · rw [if_pos c] at h1
      exact h1
    · rw [if_neg c, if_neg (by omega)] at h1
      exact h1
    · rw [if_neg c, if_pos (by omega)] at h1
      exact h1
theorem lp_besideM {a0 : Nat → Nat → Int} (hV : VV N tm nd ch od) (hI : IM N tm nd ch od sc a0) (k : ∀ g : Nat → Int, (∀ p, p < N → g (od p).toNat = EF tm nd od p) → Q (some (vI (mxF (EF tm nd od) N))) (sc, up a0 187 g)) : ∀ j p : Nat, p + j = N → ∀ g : Nat → Int, (∀ q, q < p → g (od q).toNat = EF tm nd od q) → Ev 0 M_Md_beside (4, [some (vO 11), some (vI (mxF (EF tm nd od) p)), some (vI p), none, none, none], [], (sc, up a0 187 g)) Q := by
  obtain ⟨hN, ht, -, hR, hz, -, -, ho⟩ := id hV
  have hb := EF_bd hV N (Nat.le_refl _)
  intro j
  induction j with
  | zero =>
    intro p hp g hg
    have : p = N := by omega
    subst this
    have i1 := hI.1
    exact sg_Md_beside_4 ⟨by omega, by omega, fun _ => k g hg, fun c => by omega⟩
  | succ j ih =>
    intro p hp g hg
    obtain ⟨i1, i3, i4, i5, i6⟩ := hI.pe (Pe.rf.a 187 g)
    have b2 := mxF_bd (E := EF tm nd od) (b := 200) (by omega) p (fun q hq => by
      have := hb q (by omega)
      omega)
    refine sg_Md_beside_4 ⟨by omega, by omega, fun c => by omega, fun _ => ⟨by omega, by omega, ?_⟩⟩
    rw [i6, Int.toNat_natCast]
    refine lp_besideMI hV hI (by omega) (by omega) hg ?_ p 0 (by omega)
    have := ih (p + 1) (by omega) (up g (od p).toNat (EF tm nd od p)) (fun q hq => by
      by_cases e : q = p
      · subst e
        rw [up_eq]
      · have o1 := ho.1 p (by omega)
        have o2 := ho.1 q (by omega)
        rw [up_ne _ _ (fun w => e (ho.2 q p (by omega) (by omega) (by omega)))]
        exact hg q (by omega))
    simp only [mxF] at this
    exact this
theorem ct_besideM (hV : VV N tm nd ch od) (hI : IM N tm nd ch od sc ar) (k : ∀ g : Nat → Int, (∀ p, p < N → g (od p).toNat = EF tm nd od p) → Q (some (vI (mxF (EF tm nd od) N))) (sc, up ar 187 g)) : Ev d M_Md_beside (0, [some (vO 11), none, none, none, none, none], [], (sc, ar)) Q := by
  refine Ev.deep (Nat.zero_le d) (sg_Md_beside_0 ?_)
  have := lp_besideM hV hI k N 0 (by omega) (ar 187) (fun q hq => by omega)
  rw [up_id] at this
  exact this
end BESIDE

/-! GOING BACK: the class's reckoning and the reference's -/
section RET
variable {sc : Nat → Int} {ar : Nat → Nat → Int} {Q : Option mV → mH → Prop} {d : Nat} {N : Nat} {tm nd ch od : Nat → Int} {c : Nat → Int}
theorem lp_above : ∀ j i : Nat, i + j = 8 → Q (some (vL (sm (ar 112) 8))) (sc, ar) → Ev 0 M_Returns_above (14, [some (vO 7), some (vL (sm (ar 112) i)), none, some (vA 112), some (vI 8), some (vI i), none, none], [], (sc, ar)) Q := by
  intro j
  induction j with
  | zero =>
    intro i hi k
    have : i = 8 := by omega
    subst this
    exact sg_Returns_above_14 ⟨by omega, by omega, fun _ => k, fun c => by omega⟩
  | succ j ih =>
    intro i hi k
    have h1 := ih (i + 1) (by omega) k
    refine sg_Returns_above_14 ⟨by omega, by omega, fun c => by omega, fun _ => ⟨by omega, by omega, ?_⟩⟩
    exact h1
theorem ct_above (k : Q (some (vL (sm (ar 112) 8))) (sc, ar)) : Ev d M_Returns_above (0, [some (vO 7), none, none, none, none, none, none, none], [], (sc, ar)) Q :=
  Ev.deep (Nat.zero_le d) (sg_Returns_above_0 (lp_above 8 0 (by omega) k))
theorem lp_spent {q p : Nat} (hp : p < 8) (k : Q (some (vL (sm (fun i => if q ≤ i then ar 112 i else 0) p))) (sc, ar)) : ∀ j i : Nat, i + j = p → q ≤ i → Ev 0 M_Returns_spentFrom (9, [some (vO 7), some (vI q), some (vI p), some (vL (sm (fun i => if q ≤ i then ar 112 i else 0) i)), none, some (vI i)], [], (sc, ar)) Q := by
  intro j
  induction j with
  | zero =>
    intro i hi _
    have : i = p := by omega
    subst this
    exact sg_Returns_spentFrom_9 ⟨by omega, by omega, fun _ => k, fun c => by omega⟩
  | succ j ih =>
    intro i hi hq
    have h1 := ih (i + 1) (by omega) (by omega)
    refine sg_Returns_spentFrom_9 ⟨by omega, by omega, fun c => by omega, fun _ => ⟨by omega, fun c => by omega, fun _ => ⟨by omega, by omega, ?_⟩⟩⟩
    simp only [sm, if_pos hq] at h1
    exact h1
theorem ct_spent {q p : Nat} (hp : p < 8) (hq : q < p) (k : Q (some (vL (sm (fun i => if q ≤ i then ar 112 i else 0) p))) (sc, ar)) : Ev d M_Returns_spentFrom (0, [some (vO 7), some (vI q), some (vI p), none, none, none], [], (sc, ar)) Q := by
  refine Ev.deep (Nat.zero_le d) (sg_Returns_spentFrom_0 ⟨by omega, ?_⟩)
  rw [if_neg (by omega)]
  have := lp_spent hp k (p - q) q (by omega) (by omega)
  rw [sm_low q (fun i hi => by rw [if_neg (by omega)])] at this
  exact this
theorem lp_refine {f : Int} {p : Nat} {s0 : Nat → Int} {a0 : Nat → Nat → Int} (hf : inR f) (hp : p < 8) (g0 : Nat → Int) (k : ∀ g : Nat → Int, (∀ i, i < p → g i = g0 i * f) → (∀ i, p ≤ i → g i = g0 i) → Q none (s0, up a0 112 g)) : ∀ j i : Nat, i + j = p → ∀ g : Nat → Int, (∀ q, q < i → g q = g0 q * f) → (∀ q, i ≤ q → g q = g0 q) → Ev 0 M_Returns_refine (13, [some (vO 7), some (vI f), some (vI p), some (vI i)], [], (s0, up a0 112 g)) Q := by
  intro j
  induction j with
  | zero =>
    intro i hi g h1 h2
    have : i = p := by omega
    subst this
    exact sg_Returns_refine_13 ⟨by omega, by omega, fun _ => k g h1 h2, fun c => by omega⟩
  | succ j ih =>
    intro i hi g h1 h2
    refine sg_Returns_refine_13 ⟨by omega, by omega, fun c => by omega, fun _ => ⟨by omega, fun c => by omega, fun _ => ⟨by omega, by omega, hf, by omega, by omega, ?_⟩⟩⟩
    rw [up_eq, up_up, Int.toNat_natCast]
    refine ih (i + 1) (by omega) _ (fun q hq => ?_) (fun q hq => ?_)
    · by_cases e : q = i
      · subst e
        rw [up_eq, h2 q (by omega)]
      · rw [up_ne _ _ e]
        exact h1 q (by omega)
    · rw [up_ne _ _ (by omega)]
      exact h2 q (by omega)
theorem ct_refine {f : Int} {p : Nat} (hf : inR f) (hp : p < 8) (k : ∀ g : Nat → Int, (∀ i, i < p → g i = ar 112 i * f) → (∀ i, p ≤ i → g i = ar 112 i) → Q none (up sc 114 (sc 114 * f), up ar 112 g)) : Ev d M_Returns_refine (0, [some (vO 7), some (vI f), some (vI p), none], [], (sc, ar)) Q := by
  refine Ev.deep (Nat.zero_le d) (sg_Returns_refine_0 ⟨hf, ?_⟩)
  have := lp_refine hf hp (ar 112) k p 0 (by omega) (ar 112) (fun q hq => by omega) (fun q hq => rfl)
  rw [up_id] at this
  exact this
theorem lp_recktI {cs : Nat → Int} {p : Nat} {x5 : Int} (hV : VV N tm nd ch od) (hI : IX N tm nd ch od sc ar) (hp : p < N) (hb : sc 114 = BL ch od p) (hg : ∀ i, i < p → ar 112 i = AF ch od c i * PR ch od (i + 1) p) (hx : x5 = od p) (k : ∀ g : Nat → Int, (∀ i, i < p → g i = ar 112 i * fc ch od p) → (∀ i, p ≤ i → g i = ar 112 i) → Ev 2 M_Returns_reckon (16, [some (vO 7), some (vO 3), some (vO 2), some (vA 0), some (vI ((p : Int) + 1)), none, none, none, none, none, none], [], (up sc 114 (sc 114 * fc ch od p), up ar 112 (up g p (AF ch od c p)))) Q) :
    ∀ j q : Nat, q + j = p → Ev 2 M_Returns_reckon (64, [some (vO 7), some (vO 3), some (vO 2), some (vA 0), some (vI p), some (vI x5), some (vI (sm (tn ch od p) q)), some (vL (aV ch od c (AF ch od c) p q)), none, some (vI q), none], [], (sc, ar)) Q := by
  obtain ⟨hN, ht, -, hR, hz, -, -, ho⟩ := id hV
  obtain ⟨i1, i2, i3, i4, i5, i6⟩ := hI
  have o1 := ho.1 p (by omega)
  subst hx
  intro j
  induction j with
  | zero =>
    intro q hq
    have : q = p := by omega
    subst this
    have hf := fc_bd hV hp
    refine sg_Returns_reckon_64t ⟨by omega, by omega, fun _ => ?_, fun c => by omega⟩
    rw [← AF_rec]
    have e : 10 - sm (tn ch od q) q = fc ch od q := rfl
    rw [e]
    refine ct_refine (by omega) (by omega) (fun g h1 h2 => sg_Returns_reckon_126t ⟨by omega, by omega, ?_⟩)
    rw [up_eq, up_up, Int.toNat_natCast]
    exact k g h1 h2
  | succ j ih =>
    intro q hq
    have h1 := ih (q + 1) (by omega)
    have o2 := ho.1 q (by omega)
    have t1 := tn_bd hV (show p < N by omega) (show q < N by omega)
    refine sg_Returns_reckon_64t ⟨by omega, by omega, fun c => by omega, fun _ => ct_taskAtT i2 (by omega) (by omega) (sg_Returns_reckon_80t (ct_getC (by omega) (by rw [i6, Int.toNat_natCast]; omega) (sg_Returns_reckon_83t ?_)))⟩
    rw [i5, i6, Int.toNat_natCast, show (8 * od p + od q).toNat = 8 * (od p).toNat + (od q).toNat by omega, show ch (8 * (od p).toNat + (od q).toNat) = tn ch od p q from rfl]
    refine ⟨by omega, ct_spent (by omega) (by omega) (sg_Returns_reckon_105t ?_)⟩
    have e : sm (fun i => if q ≤ i then ar 112 i else 0) p = sgS ch od (AF ch od c) p q p := by
      apply sm_congr
      intro i hi
      rw [hg i hi]
    rw [e]
    unfold aV at h1 ⊢
    simp only [sm] at h1
    rw [Int.add_assoc]
    exact h1
theorem lp_reckt {cs : Nat → Int} {s0 : Nat → Int} {a0 : Nat → Nat → Int} (hV : VV N tm nd ch od) (hI : IX N tm nd ch od s0 a0) (hcs : a0 0 = cs) (hb : ∀ i : Nat, i < 8 → 0 ≤ cs i ∧ cs i ≤ 20) (hcc : ∀ p, p < N → c p = cs (od p).toNat) (k : ∀ g : Nat → Int, (∀ i, i < N → g i = AF ch od c i * PR ch od (i + 1) N) → (∀ i, N ≤ i → i < 8 → g i = 0) → Q none (up s0 114 (BL ch od N), up a0 112 g)) :
    ∀ j p : Nat, p + j = N → ∀ g : Nat → Int, (∀ i, i < p → g i = AF ch od c i * PR ch od (i + 1) p) → (∀ i, p ≤ i → i < 8 → g i = 0) → Ev 2 M_Returns_reckon (16, [some (vO 7), some (vO 3), some (vO 2), some (vA 0), some (vI p), none, none, none, none, none, none], [], (up s0 114 (BL ch od p), up a0 112 g)) Q := by
  obtain ⟨hN, ht, -, hR, hz, -, -, ho⟩ := id hV
  intro j
  induction j with
  | zero =>
    intro p hp g h1 h2
    have : p = N := by omega
    subst this
    have hI2 := hI.pe ((Pe.rf.s 114 (BL ch od p)).a 112 g)
    have i2 := hI2.2.1
    exact sg_Returns_reckon_16t (ct_lengthT (sg_Returns_reckon_22t ⟨by omega, by omega, fun _ => k g h1 h2, fun c => by omega⟩))
  | succ j ih =>
    intro p hp g h1 h2
    have hI2 := hI.pe ((Pe.rf.s 114 (BL ch od p)).a 112 g)
    obtain ⟨i1, i2, i3, i4, i5, i6⟩ := id hI2
    have o1 := ho.1 p (by omega)
    have hl : mLen (up s0 114 (BL ch od p), up a0 112 g) 0 = 8 := rfl
    refine sg_Returns_reckon_16t (ct_lengthT (sg_Returns_reckon_22t ⟨by omega, by omega, fun c => by omega, fun _ => ⟨by omega, fun c => by omega, fun _ => ct_taskAtT i2 (by omega) (by omega) (sg_Returns_reckon_38t (ct_valueOf rfl (by rw [i6, Int.toNat_natCast]; omega) (by rw [i6, Int.toNat_natCast, hl]; omega) (by rw [hl]; omega) (sg_Returns_reckon_57t ?_)))⟩⟩))
    rw [i6, Int.toNat_natCast, up_ne _ _ (show (0 : Nat) ≠ 112 by decide), hcs]
    have hcb := hb (od p).toNat (by omega)
    refine ⟨by omega, ?_⟩
    have e0 : 10 * up s0 114 (BL ch od p) 114 * cs (od p).toNat = aV ch od c (AF ch od c) p 0 := by
      rw [up_eq]
      unfold aV
      simp only [sm, Int.add_zero]
      rw [hcc p (by omega), Int.mul_assoc, Int.mul_comm (BL ch od p), ← Int.mul_assoc]
    rw [e0]
    refine lp_recktI (cs := cs) (c := c) hV hI2 (by omega) (up_eq _ _ _) (fun i hi => by rw [up_eq]; exact h1 i hi) rfl (fun g2 h3 h4 => ?_) p 0 (by omega)
    simp only [up_eq, up_up] at h3 h4 ⊢
    refine ih (p + 1) (by omega) _ (fun i hi => ?_) (fun i hi h8 => ?_)
    · by_cases e : i = p
      · subst e
        rw [up_eq, PR_self, Int.mul_one]
      · rw [up_ne _ _ e, h3 i (by omega), h1 i (by omega), Int.mul_assoc, ← PR_succ (by omega)]
    · rw [up_ne _ _ (by omega), h4 i (by omega)]
      exact h2 i (by omega) h8
theorem ct_reckt {cs : Nat → Int} (hV : VV N tm nd ch od) (hI : IX N tm nd ch od sc ar) (hcs : ar 0 = cs) (hb : ∀ i : Nat, i < 8 → 0 ≤ cs i ∧ cs i ≤ 20) (hcc : ∀ p, p < N → c p = cs (od p).toNat) (k : ∀ g : Nat → Int, sm g 8 = TT ch od c N → Q none (up sc 114 (BL ch od N), up ar 112 g)) : Ev (d + 2) M_Returns_reckon (0, [some (vO 7), some (vO 3), some (vO 2), some (vA 0), none, none, none, none, none, none, none], [], (sc, ar)) Q := by
  refine Ev.deep (Nat.le_add_left 2 d) (sg_Returns_reckon_0t (ct_fillL (n := 8) rfl (by decide) (fun _ _ => rfl) (by decide) 0 (sg_Returns_reckon_8t ?_)))
  have hN := hV.1
  exact lp_reckt hV hI hcs hb hcc (fun g h1 h2 => k g (by
    have e1 : sm g 8 = sm g N := by
      have key : ∀ m, N ≤ m → m ≤ 8 → sm g m = sm g N := by
        intro m hm
        induction hm with
        | refl => intro _; rfl
        | step hm ih =>
          intro h8
          simp only [sm]
          rw [ih (by omega), h2 _ hm (by omega), Int.add_zero]
      exact key 8 hN (Nat.le_refl _)
    rw [e1]
    exact sm_congr N (fun i hi => h1 i hi))) N 0 (by omega) _ (fun i hi => by omega) (fun i _ hi => by
      rw [wr_at, if_pos hi])
theorem lp_reckoI {cs : Nat → Int} {p : Nat} {x5 : Int} (hV : VV N tm nd ch od) (hI : IX N tm nd ch od sc ar) (hp : p < N) (hb : sc 114 = BL ch od p) (hg : ∀ i, i < p → ar 112 i = AF ch od c i * PR ch od (i + 1) p) (hx : x5 = od p) (k : ∀ g : Nat → Int, (∀ i, i < p → g i = ar 112 i * fc ch od p) → (∀ i, p ≤ i → g i = ar 112 i) → Ev 2 M_Returns_reckon (16, [some (vO 7), some (vO 3), some (vO 2), some (vA 113), some (vI ((p : Int) + 1)), none, none, none, none, none, none], [], (up sc 114 (sc 114 * fc ch od p), up ar 112 (up g p (AF ch od c p)))) Q) :
    ∀ j q : Nat, q + j = p → Ev 2 M_Returns_reckon (64, [some (vO 7), some (vO 3), some (vO 2), some (vA 113), some (vI p), some (vI x5), some (vI (sm (tn ch od p) q)), some (vL (aV ch od c (AF ch od c) p q)), none, some (vI q), none], [], (sc, ar)) Q := by
  obtain ⟨hN, ht, -, hR, hz, -, -, ho⟩ := id hV
  obtain ⟨i1, i2, i3, i4, i5, i6⟩ := hI
  have o1 := ho.1 p (by omega)
  subst hx
  intro j
  induction j with
  | zero =>
    intro q hq
    have : q = p := by omega
    subst this
    have hf := fc_bd hV hp
    refine sg_Returns_reckon_64o ⟨by omega, by omega, fun _ => ?_, fun c => by omega⟩
    rw [← AF_rec]
    have e : 10 - sm (tn ch od q) q = fc ch od q := rfl
    rw [e]
    refine ct_refine (by omega) (by omega) (fun g h1 h2 => sg_Returns_reckon_126o ⟨by omega, by omega, ?_⟩)
    rw [up_eq, up_up, Int.toNat_natCast]
    exact k g h1 h2
  | succ j ih =>
    intro q hq
    have h1 := ih (q + 1) (by omega)
    have o2 := ho.1 q (by omega)
    have t1 := tn_bd hV (show p < N by omega) (show q < N by omega)
    refine sg_Returns_reckon_64o ⟨by omega, by omega, fun c => by omega, fun _ => ct_taskAtT i2 (by omega) (by omega) (sg_Returns_reckon_80o (ct_getC (by omega) (by rw [i6, Int.toNat_natCast]; omega) (sg_Returns_reckon_83o ?_)))⟩
    rw [i5, i6, Int.toNat_natCast, show (8 * od p + od q).toNat = 8 * (od p).toNat + (od q).toNat by omega, show ch (8 * (od p).toNat + (od q).toNat) = tn ch od p q from rfl]
    refine ⟨by omega, ct_spent (by omega) (by omega) (sg_Returns_reckon_105o ?_)⟩
    have e : sm (fun i => if q ≤ i then ar 112 i else 0) p = sgS ch od (AF ch od c) p q p := by
      apply sm_congr
      intro i hi
      rw [hg i hi]
    rw [e]
    unfold aV at h1 ⊢
    simp only [sm] at h1
    rw [Int.add_assoc]
    exact h1
theorem lp_recko {cs : Nat → Int} {s0 : Nat → Int} {a0 : Nat → Nat → Int} (hV : VV N tm nd ch od) (hI : IX N tm nd ch od s0 a0) (hcs : a0 113 = cs) (hb : ∀ i : Nat, i < 8 → 0 ≤ cs i ∧ cs i ≤ 20) (hcc : ∀ p, p < N → c p = cs (od p).toNat) (k : ∀ g : Nat → Int, (∀ i, i < N → g i = AF ch od c i * PR ch od (i + 1) N) → (∀ i, N ≤ i → i < 8 → g i = 0) → Q none (up s0 114 (BL ch od N), up a0 112 g)) :
    ∀ j p : Nat, p + j = N → ∀ g : Nat → Int, (∀ i, i < p → g i = AF ch od c i * PR ch od (i + 1) p) → (∀ i, p ≤ i → i < 8 → g i = 0) → Ev 2 M_Returns_reckon (16, [some (vO 7), some (vO 3), some (vO 2), some (vA 113), some (vI p), none, none, none, none, none, none], [], (up s0 114 (BL ch od p), up a0 112 g)) Q := by
  obtain ⟨hN, ht, -, hR, hz, -, -, ho⟩ := id hV
  intro j
  induction j with
  | zero =>
    intro p hp g h1 h2
    have : p = N := by omega
    subst this
    have hI2 := hI.pe ((Pe.rf.s 114 (BL ch od p)).a 112 g)
    have i2 := hI2.2.1
    exact sg_Returns_reckon_16o (ct_lengthT (sg_Returns_reckon_22o ⟨by omega, by omega, fun _ => k g h1 h2, fun c => by omega⟩))
  | succ j ih =>
    intro p hp g h1 h2
    have hI2 := hI.pe ((Pe.rf.s 114 (BL ch od p)).a 112 g)
    obtain ⟨i1, i2, i3, i4, i5, i6⟩ := id hI2
    have o1 := ho.1 p (by omega)
    have hl : mLen (up s0 114 (BL ch od p), up a0 112 g) 113 = 8 := rfl
    refine sg_Returns_reckon_16o (ct_lengthT (sg_Returns_reckon_22o ⟨by omega, by omega, fun c => by omega, fun _ => ⟨by omega, fun c => by omega, fun _ => ct_taskAtT i2 (by omega) (by omega) (sg_Returns_reckon_38o (ct_valueOf rfl (by rw [i6, Int.toNat_natCast]; omega) (by rw [i6, Int.toNat_natCast, hl]; omega) (by rw [hl]; omega) (sg_Returns_reckon_57o ?_)))⟩⟩))
    rw [i6, Int.toNat_natCast, up_ne _ _ (show (113 : Nat) ≠ 112 by decide), hcs]
    have hcb := hb (od p).toNat (by omega)
    refine ⟨by omega, ?_⟩
    have e0 : 10 * up s0 114 (BL ch od p) 114 * cs (od p).toNat = aV ch od c (AF ch od c) p 0 := by
      rw [up_eq]
      unfold aV
      simp only [sm, Int.add_zero]
      rw [hcc p (by omega), Int.mul_assoc, Int.mul_comm (BL ch od p), ← Int.mul_assoc]
    rw [e0]
    refine lp_reckoI (cs := cs) (c := c) hV hI2 (by omega) (up_eq _ _ _) (fun i hi => by rw [up_eq]; exact h1 i hi) rfl (fun g2 h3 h4 => ?_) p 0 (by omega)
    simp only [up_eq, up_up] at h3 h4 ⊢
    refine ih (p + 1) (by omega) _ (fun i hi => ?_) (fun i hi h8 => ?_)
    · by_cases e : i = p
      · subst e
        rw [up_eq, PR_self, Int.mul_one]
      · rw [up_ne _ _ e, h3 i (by omega), h1 i (by omega), Int.mul_assoc, ← PR_succ (by omega)]
    · rw [up_ne _ _ (by omega), h4 i (by omega)]
      exact h2 i (by omega) h8
theorem ct_recko {cs : Nat → Int} (hV : VV N tm nd ch od) (hI : IX N tm nd ch od sc ar) (hcs : ar 113 = cs) (hb : ∀ i : Nat, i < 8 → 0 ≤ cs i ∧ cs i ≤ 20) (hcc : ∀ p, p < N → c p = cs (od p).toNat) (k : ∀ g : Nat → Int, sm g 8 = TT ch od c N → Q none (up sc 114 (BL ch od N), up ar 112 g)) : Ev (d + 2) M_Returns_reckon (0, [some (vO 7), some (vO 3), some (vO 2), some (vA 113), none, none, none, none, none, none, none], [], (sc, ar)) Q := by
  refine Ev.deep (Nat.le_add_left 2 d) (sg_Returns_reckon_0o (ct_fillL (n := 8) rfl (by decide) (fun _ _ => rfl) (by decide) 0 (sg_Returns_reckon_8o ?_)))
  have hN := hV.1
  exact lp_recko hV hI hcs hb hcc (fun g h1 h2 => k g (by
    have e1 : sm g 8 = sm g N := by
      have key : ∀ m, N ≤ m → m ≤ 8 → sm g m = sm g N := by
        intro m hm
        induction hm with
        | refl => intro _; rfl
        | step hm ih =>
          intro h8
          simp only [sm]
          rw [ih (by omega), h2 _ hm (by omega), Int.add_zero]
      exact key 8 hN (Nat.le_refl _)
    rw [e1]
    exact sm_congr N (fun i hi => h1 i hi))) N 0 (by omega) _ (fun i hi => by omega) (fun i _ hi => by
      rw [wr_at, if_pos hi])
theorem lp_reckOne {t : Nat} (ht : t < 8) {a0 : Nat → Nat → Int} {f : Nat → Int} (hV : VV N tm nd ch od) (hI : IX N tm nd ch od sc a0) (k : ∀ f g : Nat → Int, sm g 8 = TT ch od (fun p => if (od p).toNat = t then 1 else 0) N → Q none (up sc 114 (BL ch od N), up (up a0 113 f) 112 g)) : ∀ j i : Nat, i + j = 8 → Ev 3 M_Returns_reckonOne (3, [some (vO 7), some (vO 3), some (vO 2), some (vI t), some (vI i)], [], (sc, up a0 113 (wr f (fun i => if i = t then 1 else 0) i))) Q := by
  obtain ⟨hN, -, -, -, -, -, -, ho⟩ := id hV
  intro j
  induction j with
  | zero =>
    intro i hi
    have : i = 8 := by omega
    subst this
    refine sg_Returns_reckonOne_3 ⟨by omega, fun _ => ?_, fun c => by omega⟩
    refine ct_recko (c := fun p => if (od p).toNat = t then 1 else 0) hV (hI.pe (Pe.rf.a 113 _)) (up_eq _ _ _) (fun i hi => ?_) (fun p hp => ?_) (fun g hg => sg_Returns_reckonOne_44 (k _ g hg))
    · rw [wr_at, if_pos hi]
      split <;> omega
    · have := ho.1 p (by omega)
      rw [wr_at, if_pos (show (od p).toNat < 8 by omega)]
  | succ j ih =>
    intro i hi
    have h1 := ih (i + 1) (by omega)
    simp only [wr] at h1
    refine sg_Returns_reckonOne_3 ⟨by omega, fun c => by omega, fun _ => ⟨by omega, by omega, fun c => ⟨by omega, by omega, ?_⟩, fun c => ⟨by omega, by omega, ?_⟩⟩⟩
    · rw [if_neg (by omega)] at h1
      rw [up_eq, up_up, Int.toNat_natCast]
      exact h1
    · rw [if_pos (by omega)] at h1
      rw [up_eq, up_up, Int.toNat_natCast]
      exact h1
theorem ct_reckOne {t : Nat} (ht : t < 8) (hV : VV N tm nd ch od) (hI : IX N tm nd ch od sc ar) (k : ∀ f g : Nat → Int, sm g 8 = TT ch od (fun p => if (od p).toNat = t then 1 else 0) N → Q none (up sc 114 (BL ch od N), up (up ar 113 f) 112 g)) : Ev (d + 3) M_Returns_reckonOne (0, [some (vO 7), some (vO 3), some (vO 2), some (vI t), none], [], (sc, ar)) Q := by
  refine Ev.deep (Nat.le_add_left 3 d) (sg_Returns_reckonOne_0 ?_)
  have := lp_reckOne (f := ar 113) ht hV hI k 8 0 (by omega)
  simp only [wr, up_id] at this
  exact this
/-! the reference -/
theorem lp_mo109 {p q : Nat} {w u t base bk : Int} (hV : VV N tm nd ch od) (hp : p < N) (hq : q < p) (ht : 0 ≤ t ∧ t ≤ 8) (hA : ∀ i, i < p → ar 185 i = AF ch od c i) (hB : ∀ i, i ≤ p → ar 186 i = BL ch od i) (k : Ev 1 M_Md_meanOf (72, [some (vO 11), some (vI w), some (vI u), some (vI p), some (vI (od p)), some (vI bk), some (vL (base + t * sgS ch od (AF ch od c) p q p)), none, some (vI ((q : Int) + 1)), none, none], [], (sc, ar)) Q) :
    ∀ j i : Nat, i + j = p → q ≤ i → Ev 1 M_Md_meanOf (109, [some (vO 11), some (vI w), some (vI u), some (vI p), some (vI (od p)), some (vI bk), some (vL (base + t * sgS ch od (AF ch od c) p q i)), none, some (vI q), some (vI t), some (vI i)], [], (sc, ar)) Q := by
  have hN := hV.1
  intro j
  induction j with
  | zero =>
    intro i hi _
    have : i = p := by omega
    subst this
    exact sg_Md_meanOf_109 ⟨by omega, by omega, fun _ => k, fun c => by omega⟩
  | succ j ih =>
    intro i hi hqi
    have h1 := ih (i + 1) (by omega) (by omega)
    have b1 := BL_lt hV (show p ≤ N by omega)
    have b2 := BL_lt hV (show i + 1 ≤ N by omega)
    refine sg_Md_meanOf_109 ⟨by omega, by omega, fun c => by omega, fun _ => ?_⟩
    rw [show ((i : Int) + 1).toNat = i + 1 by omega, Int.toNat_natCast, Int.toNat_natCast, hA i (by omega), hB p (by omega), hB (i + 1) (by omega), BL_div hV (by omega) (by omega)]
    refine ⟨by omega, by omega, by omega, by omega, by omega, by omega, by omega, by omega, by omega, by omega, ?_⟩
    unfold sgS at h1 ⊢
    simp only [sm, if_pos hqi] at h1
    rw [Int.mul_add, ← Int.add_assoc, ← Int.mul_assoc] at h1
    exact h1
theorem lp_mo72 {p : Nat} {w u : Int} (hV : VV N tm nd ch od) (hI : IM N tm nd ch od sc ar) (hp : p < N) (hA : ∀ i, i < p → ar 185 i = AF ch od c i) (hB : ∀ i, i ≤ p → ar 186 i = BL ch od i) (k : Ev 1 M_Md_meanOf (9, [some (vO 11), some (vI w), some (vI u), some (vI ((p : Int) + 1)), none, none, none, none, none, none, none], [], (sc, up (up ar 185 (up (ar 185) p (AF ch od c p))) 186 (up (ar 186) (p + 1) (BL ch od (p + 1))))) Q) :
    ∀ j q : Nat, q + j = p → Ev 1 M_Md_meanOf (72, [some (vO 11), some (vI w), some (vI u), some (vI p), some (vI (od p)), some (vI (sm (tn ch od p) q)), some (vL (aV ch od c (AF ch od c) p q)), none, some (vI q), none, none], [], (sc, ar)) Q := by
  obtain ⟨hN, -, -, -, -, -, -, ho⟩ := id hV
  obtain ⟨i1, i3, i4, i5, i6⟩ := hI
  have o1 := ho.1 p (by omega)
  intro j
  induction j with
  | zero =>
    intro q hq
    have : q = p := by omega
    subst this
    have hf := fc_bd hV hp
    have e : 10 - sm (tn ch od q) q = fc ch od q := rfl
    refine sg_Md_meanOf_72 ⟨by omega, by omega, fun _ => ?_, fun c => by omega⟩
    rw [← AF_rec, e, show ((q : Int) + 1).toNat = q + 1 by omega, Int.toNat_natCast, hB q (by omega)]
    refine ⟨by omega, by omega, by omega, by omega, by omega, by omega, by omega, ?_⟩
    exact k
  | succ j ih =>
    intro q hq
    have h1 := ih (q + 1) (by omega)
    have o2 := ho.1 q (by omega)
    have t1 := tn_bd hV (show p < N by omega) (show q < N by omega)
    refine sg_Md_meanOf_72 ⟨by omega, by omega, fun c => by omega, fun _ => ?_⟩
    rw [i5, i6, Int.toNat_natCast, show (8 * od p + od q).toNat = 8 * (od p).toNat + (od q).toNat by omega, show ch (8 * (od p).toNat + (od q).toNat) = tn ch od p q from rfl]
    refine ⟨by omega, by omega, by omega, by omega, ?_⟩
    have := lp_mo109 (sc := sc) (ar := ar) (Q := Q) (c := c) (w := w) (u := u) (t := tn ch od p q) (base := aV ch od c (AF ch od c) p q) (bk := sm (tn ch od p) q + tn ch od p q) hV hp (show q < p by omega) t1 hA hB (by
      unfold aV at h1 ⊢
      simp only [sm] at h1
      rw [Int.add_assoc]
      exact h1) (p - q) q (by omega) (by omega)
    rw [show sgS ch od (AF ch od c) p q q = 0 from sm_low q (fun i hi => by rw [if_neg (by omega)]), Int.mul_zero, Int.add_zero] at this
    exact this
theorem lp_mo200 {w u : Int} (hV : VV N tm nd ch od) (hn : sc 177 = (N : Int)) (hc : ∀ p, p < N → 0 ≤ c p ∧ c p ≤ 20) (hu : inR u) (hA : ∀ i, i < N → ar 185 i = AF ch od c i) (hB : ∀ i, i ≤ N → ar 186 i = BL ch od i) (k : Q (some (vL (toldF (TT ch od c N) (BL ch od N) u))) (sc, ar)) : ∀ j i : Nat, i + j = N → Ev 1 M_Md_meanOf (200, [some (vO 11), some (vI w), some (vI u), some (vL (sm (fun i => AF ch od c i * PR ch od (i + 1) N) i)), none, some (vI i), none, none, none, none, none], [], (sc, ar)) Q := by
  have hN := hV.1
  intro j
  induction j with
  | zero =>
    intro i hi
    have : i = N := by omega
    subst this
    have b1 := BL_lt hV (show i ≤ i by omega)
    refine sg_Md_meanOf_200 ⟨by omega, by omega, fun _ => ?_, fun c => by omega⟩
    rw [hn, Int.toNat_natCast, hB i (by omega)]
    exact ⟨by omega, by omega, ct_told (TT_lt hV hc) b1 hu (sg_Md_meanOf_259 k)⟩
  | succ j ih =>
    intro i hi
    have h1 := ih (i + 1) (by omega)
    have b1 := BL_lt hV (show N ≤ N by omega)
    have b2 := BL_lt hV (show i + 1 ≤ N by omega)
    refine sg_Md_meanOf_200 ⟨by omega, by omega, fun c => by omega, fun _ => ?_⟩
    rw [hn, show ((i : Int) + 1).toNat = i + 1 by omega, Int.toNat_natCast, Int.toNat_natCast, hA i (by omega), hB N (by omega), hB (i + 1) (by omega), BL_div hV (by omega) (by omega)]
    refine ⟨by omega, by omega, by omega, by omega, by omega, by omega, by omega, by omega, by omega, ?_⟩
    simp only [sm] at h1
    exact h1
theorem lp_mo9 {w u : Int} {a0 : Nat → Nat → Int} (hV : VV N tm nd ch od) (hI : IM N tm nd ch od sc a0) (hw : inR w) (hu : inR u) (hc : ∀ p, p < N → (w = -9 → c p = tm (od p).toNat) ∧ (w ≠ -9 → (w ≠ od p → c p = 0) ∧ (w = od p → c p = 1))) (k : ∀ f g : Nat → Int, Q (some (vL (toldF (TT ch od c N) (BL ch od N) u))) (sc, up (up a0 185 f) 186 g)) :
    ∀ j p : Nat, p + j = N → ∀ f g : Nat → Int, (∀ i, i < p → f i = AF ch od c i) → (∀ i, i ≤ p → g i = BL ch od i) → Ev 1 M_Md_meanOf (9, [some (vO 11), some (vI w), some (vI u), some (vI p), none, none, none, none, none, none, none], [], (sc, up (up a0 185 f) 186 g)) Q := by
  obtain ⟨hN, htm, -, -, -, -, -, ho⟩ := id hV
  have hcb : ∀ p, p < N → 0 ≤ c p ∧ c p ≤ 20 := by
    intro p hp
    have h1 := hc p hp
    have o1 := ho.1 p (by omega)
    have t1 := htm (od p).toNat (by omega)
    by_cases e : w = -9
    · rw [h1.1 e]; exact t1
    · by_cases e2 : w = od p
      · rw [(h1.2 e).2 e2]; omega
      · rw [(h1.2 e).1 e2]; omega
  intro j
  induction j with
  | zero =>
    intro p hp f g h1 h2
    have : p = N := by omega
    subst this
    have i1 := (hI.pe ((Pe.rf.a 185 f).a 186 g)).1
    refine sg_Md_meanOf_9 ⟨by omega, by omega, fun _ => ?_, fun c => by omega⟩
    refine lp_mo200 (c := c) hV i1 hcb hu (fun i hi => ?_) (fun i hi => ?_) (k f g) p 0 (by omega)
    · rw [up_ne _ _ (by decide), up_eq]
      exact h1 i hi
    · rw [up_eq]
      exact h2 i hi
  | succ j ih =>
    intro p hp f g h1 h2
    have hI2 := hI.pe ((Pe.rf.a 185 f).a 186 g)
    obtain ⟨i1, i3, i4, i5, i6⟩ := id hI2
    have o1 := ho.1 p (by omega)
    have hcp := hc p (by omega)
    have t1 := htm (od p).toNat (by omega)
    have go : ∀ v, v = 10 * c p * BL ch od p → Ev 1 M_Md_meanOf (72, [some (vO 11), some (vI w), some (vI u), some (vI p), some (vI (od p)), some (vI 0), some (vL v), none, some (vI 0), none, none], [], (sc, up (up a0 185 f) 186 g)) Q := by
      intro v hv
      have := lp_mo72 (sc := sc) (ar := up (up a0 185 f) 186 g) (Q := Q) (c := c) (w := w) (u := u) hV hI2 (show p < N by omega) (fun i hi => by rw [up_ne _ _ (by decide), up_eq]; exact h1 i hi) (fun i hi => by rw [up_eq]; exact h2 i hi) (by
        rw [up_eq, up_ne _ _ (show (185 : Nat) ≠ 186 by decide), up_eq]
        have e : up (up (up (up a0 185 f) 186 g) 185 (up f p (AF ch od c p))) 186 (up g (p + 1) (BL ch od (p + 1))) = up (up a0 185 (up f p (AF ch od c p))) 186 (up g (p + 1) (BL ch od (p + 1))) := by
          funext i
          by_cases e1 : i = 186
          · subst e1; rw [up_eq, up_eq]
          · rw [up_ne _ _ e1, up_ne _ _ e1]
            by_cases e2 : i = 185
            · subst e2; rw [up_eq, up_eq]
            · rw [up_ne _ _ e2, up_ne _ _ e2, up_ne _ _ e1, up_ne _ _ e2]
        rw [e]
        refine ih (p + 1) (by omega) _ _ (fun i hi => ?_) (fun i hi => ?_)
        · by_cases e : i = p
          · subst e; rw [up_eq]
          · rw [up_ne _ _ e]; exact h1 i (by omega)
        · by_cases e : i = p + 1
          · subst e; rw [up_eq]
          · rw [up_ne _ _ e]; exact h2 i (by omega)) p 0 (by omega)
      unfold aV at this
      simp only [sm, Int.add_zero] at this
      rw [← hv] at this
      exact this
    refine sg_Md_meanOf_9 ⟨by omega, by omega, fun c => by omega, fun _ => ?_⟩
    rw [i6, i3, Int.toNat_natCast, up_eq, h2 p (by omega)]
    refine ⟨by omega, by omega, hw, fun e => ⟨hw, by omega, fun e2 => ⟨by omega, by omega, go _ ?_⟩, fun e2 => ⟨by omega, by omega, go _ ?_⟩⟩, fun e => ⟨by omega, by omega, by omega, by omega, by omega, go _ ?_⟩⟩
    · rw [(hcp.2 e).1 e2]
    · rw [(hcp.2 e).2 (Classical.not_not.mp e2)]
    · rw [hcp.1 (Classical.not_not.mp e)]
theorem ct_meanOf {w u : Int} (hV : VV N tm nd ch od) (hI : IM N tm nd ch od sc ar) (hw : inR w) (hu : inR u) (hc : ∀ p, p < N → (w = -9 → c p = tm (od p).toNat) ∧ (w ≠ -9 → (w ≠ od p → c p = 0) ∧ (w = od p → c p = 1))) (k : ∀ f g : Nat → Int, Q (some (vL (toldF (TT ch od c N) (BL ch od N) u))) (sc, up (up ar 185 f) 186 g)) : Ev (d + 1) M_Md_meanOf (0, [some (vO 11), some (vI w), some (vI u), none, none, none, none, none, none, none, none], [], (sc, ar)) Q := by
  refine Ev.deep (Nat.le_add_left 1 d) (sg_Md_meanOf_0 ?_)
  have := lp_mo9 (c := c) hV hI hw hu hc k N 0 (by omega) (ar 185) (up (ar 186) 0 1) (fun i hi => by omega) (fun i hi => by
    have : i = 0 := by omega
    subst this
    rw [up_eq]
    rfl)
  rw [up_id] at this
  exact this
end RET

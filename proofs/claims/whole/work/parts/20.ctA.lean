/-! CONTRACTS: the tables, the orders -/
def sm (f : Nat → Int) : Nat → Int
  | 0 => 0
  | n + 1 => sm f n + f n
theorem sm_le {f g : Nat → Int} : ∀ (n : Nat), (∀ i, i < n → f i ≤ g i) → sm f n ≤ sm g n
  | 0, _ => Int.le_refl _
  | n + 1, h => by
    have h1 := sm_le n (fun i hi => h i (by omega))
    have h2 := h n (by omega)
    show sm f n + f n ≤ sm g n + g n
    omega
theorem sm_congr {f g : Nat → Int} : ∀ (n : Nat), (∀ i, i < n → f i = g i) → sm f n = sm g n
  | 0, _ => rfl
  | n + 1, h => by
    have h1 := sm_congr n (fun i hi => h i (by omega))
    have h2 := h n (by omega)
    show sm f n + f n = sm g n + g n
    omega
theorem sm_bd {f : Nat → Int} {b : Int} : ∀ (n : Nat), (∀ i, i < n → 0 ≤ f i ∧ f i ≤ b) → 0 ≤ sm f n ∧ sm f n ≤ n * b
  | 0, _ => by simp [sm]
  | n + 1, h => by
    have h1 := sm_bd n (fun i hi => h i (by omega))
    have h2 := h n (by omega)
    show 0 ≤ sm f n + f n ∧ sm f n + f n ≤ ((n + 1 : Nat) : Int) * b
    have : ((n + 1 : Nat) : Int) * b = n * b + b := by rw [Int.natCast_add, Int.add_mul]; simp
    omega
theorem tn_succ {i : Int} (h : 0 ≤ i) : (i + 1).toNat = i.toNat + 1 := by omega
/-- needs: 0 .. 9 -/
def R9 (f : Nat → Int) : Prop := ∀ i : Nat, i < 64 → 0 ≤ f i ∧ f i ≤ 9
/-- an order of n tasks -/
def OD (n : Int) (f : Nat → Int) : Prop := (∀ i : Nat, (i : Int) < n → 0 ≤ f i ∧ f i < n) ∧ ∀ i j : Nat, (i : Int) < n → (j : Int) < n → f i = f j → i = j
section CTA
variable {sc : Nat → Int} {ar : Nat → Nat → Int} {Q : Option mV → mH → Prop} {d : Nat}
theorem ct_holds {a b : Int} (ha : 0 ≤ a ∧ a < 8) (hb : 0 ≤ b ∧ b < 8) (k : Q (some (vI 1)) (sc, ar)) : Ev d M_Table_holds (0, [some (vI a), some (vI b)], [], (sc, ar)) Q :=
  Ev.deep (Nat.zero_le _) (sg_Table_holds_0 ⟨by omega, fun c => by omega, fun c => ⟨by omega, fun c => by omega, fun c => ⟨by omega, fun c => by omega, fun c => ⟨by omega, fun c => by omega, fun _ => k⟩⟩⟩⟩)
theorem ct_getN {a b : Int} (ha : 0 ≤ a ∧ a < 8) (hb : 0 ≤ b ∧ b < 8) (k : Q (some (vI (ar 16 (8 * a + b).toNat))) (sc, ar)) : Ev (d + 1) M_Table_get (0, [some (vO 1), some (vI a), some (vI b)], [], (sc, ar)) Q := by
  refine Ev.deep (Nat.le_add_left 1 d) (sg_Table_get_0n (ct_holds ha hb (sg_Table_get_5n ⟨by omega, fun c => by omega, fun c => ⟨by omega, by omega, ?_⟩⟩)))
  rw [show a * 8 + b = 8 * a + b by omega]
  exact k
theorem ct_getC {a b : Int} (ha : 0 ≤ a ∧ a < 8) (hb : 0 ≤ b ∧ b < 8) (k : Q (some (vI (ar 32 (8 * a + b).toNat))) (sc, ar)) : Ev (d + 1) M_Table_get (0, [some (vO 2), some (vI a), some (vI b)], [], (sc, ar)) Q := by
  refine Ev.deep (Nat.le_add_left 1 d) (sg_Table_get_0c (ct_holds ha hb (sg_Table_get_5c ⟨by omega, fun c => by omega, fun c => ⟨by omega, by omega, ?_⟩⟩)))
  rw [show a * 8 + b = 8 * a + b by omega]
  exact k
theorem ct_bothWays {a b : Int} (ha : 0 ≤ a ∧ a < 8) (hb : 0 ≤ b ∧ b < 8) (k : Q (some (vI (ar 16 (8 * a + b).toNat + ar 16 (8 * b + a).toNat))) (sc, ar)) : Ev (d + 2) M_Table_bothWays (0, [some (vO 1), some (vI a), some (vI b)], [], (sc, ar)) Q :=
  Ev.deep (Nat.le_add_left 2 d) (sg_Table_bothWays_0 (ct_getN ha hb (sg_Table_bothWays_6 (ct_getN hb ha (sg_Table_bothWays_12 k)))))
theorem ct_putN {a b v : Int} (ha : 0 ≤ a ∧ a < 8) (hb : 0 ≤ b ∧ b < 8) (k : Q (some (vI (ar 16 (8 * a + b).toNat))) (sc, up ar 16 (up (ar 16) (8 * a + b).toNat v))) : Ev (d + 1) M_Table_put (0, [some (vO 1), some (vI a), some (vI b), some (vI v), none, none], [], (sc, ar)) Q := by
  refine Ev.deep (Nat.le_add_left 1 d) (sg_Table_put_0n (ct_holds ha hb (sg_Table_put_5n ⟨by omega, fun c => ⟨by omega, by omega, by omega, by omega, ?_⟩, fun c => absurd (by decide) c⟩)))
  rw [show a * 8 + b = 8 * a + b by omega]
  exact k
theorem ct_putC {a b v : Int} (ha : 0 ≤ a ∧ a < 8) (hb : 0 ≤ b ∧ b < 8) (k : Q (some (vI (ar 32 (8 * a + b).toNat))) (sc, up ar 32 (up (ar 32) (8 * a + b).toNat v))) : Ev (d + 1) M_Table_put (0, [some (vO 2), some (vI a), some (vI b), some (vI v), none, none], [], (sc, ar)) Q := by
  refine Ev.deep (Nat.le_add_left 1 d) (sg_Table_put_0c (ct_holds ha hb (sg_Table_put_5c ⟨by omega, fun c => ⟨by omega, by omega, by omega, by omega, ?_⟩, fun c => absurd (by decide) c⟩)))
  rw [show a * 8 + b = 8 * a + b by omega]
  exact k
theorem lp_sumOfRow {a : Int} (ha : 0 ≤ a ∧ a < 8) (k : Q (some (vI (sm (fun x => ar 32 (8 * a + x).toNat) 8))) (sc, ar)) : ∀ (j : Nat) (i : Int), 0 ≤ i → i + j = 8 → Ev 2 M_Table_sumOfRow (4, [some (vO 2), some (vI a), some (vI (sm (fun x => ar 32 (8 * a + x).toNat) i.toNat)), some (vI i)], [], (sc, ar)) Q := by
  intro j
  induction j with
  | zero =>
    intro i hi hj
    have : i = 8 := by omega
    subst this
    exact sg_Table_sumOfRow_4 ⟨by omega, fun _ => k, fun c => by omega⟩
  | succ j ih =>
    intro i hi hj
    refine sg_Table_sumOfRow_4 ⟨by omega, fun c => by omega, fun c => ct_getC ha ⟨hi, by omega⟩ (sg_Table_sumOfRow_17 ?_)⟩
    have := ih (i + 1) (by omega) (by omega)
    rw [tn_succ hi] at this
    rw [show (ar 32 (8 * a + i).toNat) = (fun x : Nat => ar 32 (8 * a + x).toNat) i.toNat by simp only [Int.toNat_of_nonneg hi]]
    exact this
theorem ct_sumOfRow {a : Int} (ha : 0 ≤ a ∧ a < 8) (k : Q (some (vI (sm (fun x => ar 32 (8 * a + x).toNat) 8))) (sc, ar)) : Ev (d + 2) M_Table_sumOfRow (0, [some (vO 2), some (vI a), none, none], [], (sc, ar)) Q :=
  Ev.deep (Nat.le_add_left 2 d) (sg_Table_sumOfRow_0 (lp_sumOfRow ha k 8 0 (by omega) (by omega)))
theorem lp_sum (k : Q (some (vI (sm (ar 16) 64))) (sc, ar)) : ∀ (j : Nat) (i : Int), 0 ≤ i → i + j = 64 → Ev 0 M_Table_sum (13, [some (vO 1), some (vI (sm (ar 16) i.toNat)), some (vA 16), some (vI 64), some (vI i), none], [], (sc, ar)) Q := by
  intro j
  induction j with
  | zero =>
    intro i hi hj
    have : i = 64 := by omega
    subst this
    exact sg_Table_sum_13 ⟨by omega, by omega, fun _ => k, fun c => by omega⟩
  | succ j ih =>
    intro i hi hj
    refine sg_Table_sum_13 ⟨by omega, by omega, fun c => by omega, fun c => ⟨by omega, by omega, ?_⟩⟩
    have := ih (i + 1) (by omega) (by omega)
    rw [tn_succ hi] at this
    exact this
theorem ct_sum (k : Q (some (vI (sm (ar 16) 64))) (sc, ar)) : Ev d M_Table_sum (0, [some (vO 1), none, none, none, none, none], [], (sc, ar)) Q :=
  Ev.deep (Nat.zero_le d) (sg_Table_sum_0 (lp_sum k 64 0 (by omega) (by omega)))
def nz (f : Nat → Int) (i : Nat) : Int := if f i = 0 then 0 else 1
theorem lp_howManyN (hr : ∀ i : Nat, i < 64 → inR (ar 16 i)) (k : Q (some (vI (sm (nz (ar 16)) 64))) (sc, ar)) : ∀ (j : Nat) (i : Int), 0 ≤ i → i + j = 64 → Ev 0 M_Table_howMany (13, [some (vO 1), some (vI (sm (nz (ar 16)) i.toNat)), some (vA 16), some (vI 64), some (vI i), none], [], (sc, ar)) Q := by
  intro j
  induction j with
  | zero =>
    intro i hi hj
    have : i = 64 := by omega
    subst this
    exact sg_Table_howMany_13n ⟨by omega, by omega, fun _ => k, fun c => by omega⟩
  | succ j ih =>
    intro i hi hj
    have := ih (i + 1) (by omega) (by omega)
    rw [tn_succ hi] at this
    refine sg_Table_howMany_13n ⟨by omega, by omega, fun c => by omega, fun c => ⟨by omega, by omega, hr _ (by omega), fun c => ?_, fun c => ?_⟩⟩
    · simpa [sm, nz, c] using this
    · simpa [sm, nz, c] using this
theorem ct_howManyN (hr : ∀ i : Nat, i < 64 → inR (ar 16 i)) (k : Q (some (vI (sm (nz (ar 16)) 64))) (sc, ar)) : Ev d M_Table_howMany (0, [some (vO 1), none, none, none, none, none], [], (sc, ar)) Q :=
  Ev.deep (Nat.zero_le d) (sg_Table_howMany_0n (lp_howManyN hr k 64 0 (by omega) (by omega)))
theorem lp_howManyC (hr : ∀ i : Nat, i < 64 → inR (ar 32 i)) (k : Q (some (vI (sm (nz (ar 32)) 64))) (sc, ar)) : ∀ (j : Nat) (i : Int), 0 ≤ i → i + j = 64 → Ev 0 M_Table_howMany (13, [some (vO 2), some (vI (sm (nz (ar 32)) i.toNat)), some (vA 32), some (vI 64), some (vI i), none], [], (sc, ar)) Q := by
  intro j
  induction j with
  | zero =>
    intro i hi hj
    have : i = 64 := by omega
    subst this
    exact sg_Table_howMany_13c ⟨by omega, by omega, fun _ => k, fun c => by omega⟩
  | succ j ih =>
    intro i hi hj
    have := ih (i + 1) (by omega) (by omega)
    rw [tn_succ hi] at this
    refine sg_Table_howMany_13c ⟨by omega, by omega, fun c => by omega, fun c => ⟨by omega, by omega, hr _ (by omega), fun c => ?_, fun c => ?_⟩⟩
    · simpa [sm, nz, c] using this
    · simpa [sm, nz, c] using this
theorem ct_howManyC (hr : ∀ i : Nat, i < 64 → inR (ar 32 i)) (k : Q (some (vI (sm (nz (ar 32)) 64))) (sc, ar)) : Ev d M_Table_howMany (0, [some (vO 2), none, none, none, none, none], [], (sc, ar)) Q :=
  Ev.deep (Nat.zero_le d) (sg_Table_howMany_0c (lp_howManyC hr k 64 0 (by omega) (by omega)))
theorem ct_valueOf {a : Nat} {t : Int} (ha : aK a = 0) (h0 : 0 ≤ t) (h1 : t < mLen (sc, ar) a) (h2 : mLen (sc, ar) a < 2147483648) (k : Q (some (vI (ar a t.toNat))) (sc, ar)) : Ev d M_Dt_valueOf (0, [some (vA a), some (vI t)], [], (sc, ar)) Q :=
  Ev.deep (Nat.zero_le d) (sg_Dt_valueOf_0 ⟨by omega, fun c => by omega, fun _ => ⟨by omega, by omega, by omega, fun c => by omega, fun _ => ⟨ha, h0, h1, k⟩⟩⟩)
/-! the order that is told (3), and the least one (6) -/
theorem ct_hasPlaceT {p n : Int} (hn : sc 49 = n) (hp : 0 ≤ p ∧ p < n) (h8 : n ≤ 8) (k : Q (some (vI 1)) (sc, ar)) : Ev d M_Order_hasPlace (0, [some (vO 3), some (vI p)], [], (sc, ar)) Q :=
  Ev.deep (Nat.zero_le d) (sg_Order_hasPlace_0t ⟨by omega, fun c => by omega, fun c => ⟨by omega, by omega, fun c => by omega, fun c => ⟨by omega, fun c => by omega, fun _ => k⟩⟩⟩)
theorem ct_hasPlaceT0 {p n : Int} (hn : sc 49 = n) (hr : inR p) (hp : ¬ (0 ≤ p ∧ p < n)) (h8 : 0 ≤ n ∧ n ≤ 8) (k : Q (some (vI 0)) (sc, ar)) : Ev d M_Order_hasPlace (0, [some (vO 3), some (vI p)], [], (sc, ar)) Q :=
  Ev.deep (Nat.zero_le d) (sg_Order_hasPlace_0t ⟨hr, fun _ => k, fun c => ⟨by omega, by omega, fun _ => k, fun c => ⟨by omega, fun _ => k, fun c => by omega⟩⟩⟩)
theorem ct_hasPlaceL {p n : Int} (hn : sc 97 = n) (hp : 0 ≤ p ∧ p < n) (h8 : n ≤ 8) (k : Q (some (vI 1)) (sc, ar)) : Ev d M_Order_hasPlace (0, [some (vO 6), some (vI p)], [], (sc, ar)) Q :=
  Ev.deep (Nat.zero_le d) (sg_Order_hasPlace_0l ⟨by omega, fun c => by omega, fun c => ⟨by omega, by omega, fun c => by omega, fun c => ⟨by omega, fun c => by omega, fun _ => k⟩⟩⟩)
theorem ct_lengthT (k : Q (some (vI (sc 49))) (sc, ar)) : Ev d M_Order_length (0, [some (vO 3)], [], (sc, ar)) Q := Ev.deep (Nat.zero_le d) (sg_Order_length_0t k)
theorem ct_lengthL (k : Q (some (vI (sc 97))) (sc, ar)) : Ev d M_Order_length (0, [some (vO 6)], [], (sc, ar)) Q := Ev.deep (Nat.zero_le d) (sg_Order_length_0l k)
theorem ct_taskAtT {p n : Int} (hn : sc 49 = n) (hp : 0 ≤ p ∧ p < n) (h8 : n ≤ 8) (k : Q (some (vI (ar 48 p.toNat))) (sc, ar)) : Ev (d + 1) M_Order_taskAt (0, [some (vO 3), some (vI p)], [], (sc, ar)) Q :=
  Ev.deep (Nat.le_add_left 1 d) (sg_Order_taskAt_0t (ct_hasPlaceT hn hp h8 (sg_Order_taskAt_5t ⟨by omega, fun c => by omega, fun _ => ⟨by omega, by omega, k⟩⟩)))
theorem ct_taskAtT0 {p n : Int} (hn : sc 49 = n) (hr : inR p) (hp : ¬ (0 ≤ p ∧ p < n)) (h8 : 0 ≤ n ∧ n ≤ 8) (k : Q (some (vI (-9))) (sc, ar)) : Ev (d + 1) M_Order_taskAt (0, [some (vO 3), some (vI p)], [], (sc, ar)) Q :=
  Ev.deep (Nat.le_add_left 1 d) (sg_Order_taskAt_0t (ct_hasPlaceT0 hn hr hp h8 (sg_Order_taskAt_5t ⟨by omega, fun _ => k, fun c => absurd rfl c⟩)))
theorem ct_taskAtL {p n : Int} (hn : sc 97 = n) (hp : 0 ≤ p ∧ p < n) (h8 : n ≤ 8) (k : Q (some (vI (ar 96 p.toNat))) (sc, ar)) : Ev (d + 1) M_Order_taskAt (0, [some (vO 6), some (vI p)], [], (sc, ar)) Q :=
  Ev.deep (Nat.le_add_left 1 d) (sg_Order_taskAt_0l (ct_hasPlaceL hn hp h8 (sg_Order_taskAt_5l ⟨by omega, fun c => by omega, fun _ => ⟨by omega, by omega, k⟩⟩)))
theorem ct_clearT (k : Q none (up sc 49 0, ar)) : Ev d M_Order_clear (0, [some (vO 3)], [], (sc, ar)) Q := Ev.deep (Nat.zero_le d) (sg_Order_clear_0t k)
theorem ct_clearL (k : Q none (up sc 97 0, ar)) : Ev d M_Order_clear (0, [some (vO 6)], [], (sc, ar)) Q := Ev.deep (Nat.zero_le d) (sg_Order_clear_0l k)
theorem ct_addT {t : Int} (h : 0 ≤ sc 49 ∧ sc 49 < 8) (k : Q none (up sc 49 (sc 49 + 1), up ar 48 (up (ar 48) (sc 49).toNat t))) : Ev d M_Order_add (0, [some (vO 3), some (vI t)], [], (sc, ar)) Q :=
  Ev.deep (Nat.zero_le d) (sg_Order_add_0t ⟨by omega, fun c => by omega, fun _ => ⟨by omega, fun c => by omega, fun _ => ⟨by omega, by omega, k⟩⟩⟩)
theorem ct_addL {t : Int} (h : 0 ≤ sc 97 ∧ sc 97 < 8) (k : Q none (up sc 97 (sc 97 + 1), up ar 96 (up (ar 96) (sc 97).toNat t))) : Ev d M_Order_add (0, [some (vO 6), some (vI t)], [], (sc, ar)) Q :=
  Ev.deep (Nat.zero_le d) (sg_Order_add_0l ⟨by omega, fun c => by omega, fun _ => ⟨by omega, fun c => by omega, fun _ => ⟨by omega, by omega, k⟩⟩⟩)
/-- a row written from its start on -/
def wr (f : Nat → Int) (g : Nat → Int) : Nat → Nat → Int
  | 0 => f
  | n + 1 => up (wr f g n) n (g n)
theorem wr_at (f g : Nat → Int) : ∀ (n i : Nat), wr f g n i = if i < n then g i else f i
  | 0, i => by simp [wr]
  | n + 1, i => by
    simp only [wr, up, wr_at f g n i]
    by_cases h : i = n
    · subst h; simp
    · by_cases h2 : i < n
      · simp [h, h2, show i < n + 1 by omega]
      · simp [h, h2, show ¬ i < n + 1 by omega]
theorem wr_congr {f g g2 : Nat → Int} : ∀ (n : Nat), (∀ i, i < n → g i = g2 i) → wr f g n = wr f g2 n
  | 0, _ => rfl
  | n + 1, h => by
    simp only [wr]
    rw [wr_congr n (fun i hi => h i (by omega)), h n (by omega)]
theorem lp_restart {c : Int} (hc : c ≤ 8) (f : Nat → Int) (s0 : Nat → Int) (a0 : Nat → Nat → Int) (k : Q none (up s0 49 c, up a0 48 (wr f (fun i => (i : Int)) c.toNat))) : ∀ (j : Nat) (i : Int), 0 ≤ i → i + j = c → Ev 1 M_Order_restart (6, [some (vO 3), some (vI c), some (vI i)], [], (up s0 49 i, up a0 48 (wr f (fun i => (i : Int)) i.toNat))) Q := by
  intro j
  induction j with
  | zero =>
    intro i hi hj
    have : i = c := by omega
    subst this
    exact sg_Order_restart_6 ⟨by omega, by omega, fun _ => k, fun c => by omega⟩
  | succ j ih =>
    intro i hi hj
    refine sg_Order_restart_6 ⟨by omega, by omega, fun c => by omega, fun c => ct_addT (by rw [up_eq]; omega) (sg_Order_restart_16 ?_)⟩
    have := ih (i + 1) (by omega) (by omega)
    rw [tn_succ hi] at this
    simp only [up_eq, up_up]
    simp only [wr] at this
    rw [show ((i.toNat : Nat) : Int) = i by omega] at this
    exact this
theorem ct_restart {c : Int} (hc : 0 ≤ c ∧ c ≤ 8) (k : Q none (up sc 49 c, up ar 48 (wr (ar 48) (fun i => (i : Int)) c.toNat))) : Ev (d + 1) M_Order_restart (0, [some (vO 3), some (vI c), none], [], (sc, ar)) Q := by
  refine Ev.deep (Nat.le_add_left 1 d) (sg_Order_restart_0 (ct_clearT (sg_Order_restart_4 ?_)))
  have := lp_restart hc.2 (ar 48) sc ar k c.toNat 0 (by omega) (by omega)
  simp only [Int.toNat_zero, wr, up_id] at this
  exact this
theorem lp_become {c : Int} (hc : c ≤ 8) (f : Nat → Int) (s0 : Nat → Int) (a0 : Nat → Nat → Int) (hl : s0 97 = c) (k : Q none (up s0 49 c, up a0 48 (wr f (a0 96) c.toNat))) : ∀ (j : Nat) (i : Int), 0 ≤ i → i + j = c → Ev 2 M_Order_become (6, [some (vO 3), some (vO 6), some (vI i)], [], (up s0 49 i, up a0 48 (wr f (a0 96) i.toNat))) Q := by
  intro j
  induction j with
  | zero =>
    intro i hi hj
    have : i = c := by omega
    subst this
    refine sg_Order_become_6 (ct_lengthL (sg_Order_become_11 ⟨by omega, by rw [up_ne _ _ (by decide)]; omega, fun _ => k, fun c => ?_⟩))
    rw [up_ne _ _ (by decide)] at c
    omega
  | succ j ih =>
    intro i hi hj
    have e97 : up s0 49 i 97 = c := by rw [up_ne _ _ (by decide)]; exact hl
    refine sg_Order_become_6 (ct_lengthL (sg_Order_become_11 ⟨by omega, by rw [e97]; omega, fun c => by omega, fun c => ct_taskAtL e97 (by omega) hc (sg_Order_become_20 (ct_addT (by rw [up_eq]; omega) (sg_Order_become_23 ?_)))⟩))
    have := ih (i + 1) (by omega) (by omega)
    rw [tn_succ hi] at this
    simp only [up_eq, up_up, up_ne a0 _ (show (96 : Nat) ≠ 48 by decide)]
    simp only [wr] at this
    exact this
theorem ct_become {c : Int} (hc : 0 ≤ c ∧ c ≤ 8) (hl : sc 97 = c) (k : Q none (up sc 49 c, up ar 48 (wr (ar 48) (ar 96) c.toNat))) : Ev (d + 2) M_Order_become (0, [some (vO 3), some (vO 6), none], [], (sc, ar)) Q := by
  refine Ev.deep (Nat.le_add_left 2 d) (sg_Order_become_0 (ct_clearT (sg_Order_become_4 ?_)))
  have := lp_become hc.2 (ar 48) sc ar hl k c.toNat 0 (by omega) (by omega)
  simp only [Int.toNat_zero, wr, up_id] at this
  exact this
end CTA

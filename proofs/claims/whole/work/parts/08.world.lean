/-! THE WORLD of the small machine as cells of the machine's heap; its locals as the machine's -/
def cvV (aO aA : Nat → Nat) : mV → Value
  | .inl z => .int (jI z)
  | .inr (.inl z) => .long (jL z)
  | .inr (.inr (.inl o)) => .ref (aO o)
  | .inr (.inr (.inr a)) => .ref (aA a)
theorem cv_1 {aO aA : Nat → Nat} {v : mV} (h : m2 v = false) : (cvV aO aA v).category = 1 := by
  rcases v with z | z | z | z <;> first | rfl | cases h
theorem cv_2 {aO aA : Nat → Nat} {v : mV} (h : m2 v = true) : (cvV aO aA v).category = 2 := by
  rcases v with z | z | z | z <;> first | rfl | cases h
theorem cv_12 {aO aA : Nat → Nat} {v : mV} (h : (cvV aO aA v).category = 2) : m2 v = true := by
  rcases v with z | z | z | z <;> first | rfl | cases h
theorem cv_cats (aO aA : Nat → Nat) : ∀ S : List mV, ((S.map (cvV aO aA)).map fun v => v.category).sum = mCat S
  | [] => rfl
  | .inl z :: S => by
    have := cv_cats aO aA S
    simp only [List.map_cons, List.sum_cons, mCat] at this ⊢
    rw [this]; show 1 + _ = _; omega
  | .inr (.inl z) :: S => by
    have := cv_cats aO aA S
    simp only [List.map_cons, List.sum_cons, mCat] at this ⊢
    rw [this]; show 2 + _ = _; omega
  | .inr (.inr (.inl z)) :: S => by
    have := cv_cats aO aA S
    simp only [List.map_cons, List.sum_cons, mCat] at this ⊢
    rw [this]; show 1 + _ = _; omega
  | .inr (.inr (.inr z)) :: S => by
    have := cv_cats aO aA S
    simp only [List.map_cons, List.sum_cons, mCat] at this ⊢
    rw [this]; show 1 + _ = _; omega
def HL (cv : mV → Value) (ls : Array Slot) (L : mL) : Prop := ls.size = L.length ∧ lv_wf ls ∧ ∀ (i : Nat) (v : mV), mNth L i = some (some v) → ls[i]? = some (.val (cv v))
def lvl (cv : mV → Value) (L : mL) : List (Nat × Value) := (List.range L.length).filterMap (fun i => match mNth L i with
  | some (some v) => some (i, cv v)
  | _ => none)
theorem mNth_lt {α : Type} {l : List α} {i : Nat} {x : α} (h : mNth l i = some x) : i < l.length := by
  rw [mNth_get] at h
  exact (List.getElem?_eq_some_iff.mp h).1
theorem lvl_mem {cv : mV → Value} {L : mL} {i : Nat} {v : mV} (h : mNth L i = some (some v)) : (i, cv v) ∈ lvl cv L :=
  List.mem_filterMap.mpr ⟨i, List.mem_range.mpr (mNth_lt h), by rw [h]⟩
theorem lvl_out {cv : mV → Value} {L : mL} {q : Nat × Value} (h : q ∈ lvl cv L) : ∃ v, mNth L q.1 = some (some v) ∧ q.2 = cv v := by
  obtain ⟨i, -, hi⟩ := List.mem_filterMap.mp h
  split at hi
  next v hv =>
    cases hi
    exact ⟨v, hv, rfl⟩
  next => cases hi
theorem HL.has {cv : mV → Value} {ls : Array Slot} {L : mL} (h : HL cv ls L) : lv_has ls L.length (lvl cv L) :=
  ⟨h.1, h.2.1, fun q hq => by
    obtain ⟨v, h1, h2⟩ := lvl_out hq
    rw [h2]; exact h.2.2 _ _ h1⟩
theorem mSet_len {α : Type} (l : List α) (i : Nat) (x : α) : (mSet l i x).length = l.length := by rw [mSet_set]; simp
theorem mSet_eq {α : Type} {l : List α} {i : Nat} (x : α) (h : i < l.length) : mNth (mSet l i x) i = some x := by rw [mSet_set, mNth_get]; simp [h]
theorem mSet_ne {α : Type} {l : List α} {i j : Nat} (x : α) (h : j ≠ i) : mNth (mSet l i x) j = mNth l j := by rw [mSet_set, mNth_get, mNth_get]; exact List.getElem?_set_ne (Ne.symm h)
theorem mCut_len (L : mL) (i : Nat) : (mCut L i).length = L.length := by
  cases i with
  | zero => rfl
  | succ i =>
    simp only [mCut]
    split
    next => exact mSet_len _ _ _
    next => rfl
theorem mCut_get {L : mL} {i j : Nat} {w : mV} (h : mNth (mCut L i) j = some (some w)) : mNth L j = some (some w) ∧ ¬ (j + 1 = i ∧ m2 w = true) := by
  cases i with
  | zero => exact ⟨h, fun q => by omega⟩
  | succ i =>
    simp only [mCut] at h
    split at h
    next z hz =>
      by_cases e : j = i
      · subst e
        rw [mSet_eq _ (mNth_lt hz)] at h
        cases h
      · rw [mSet_ne _ e] at h
        exact ⟨h, fun q => by omega⟩
    next hz =>
      refine ⟨h, fun q => ?_⟩
      have : j = i := by omega
      subst this
      rcases w with z | z | z | z
      · cases q.2
      · exact hz z h
      · cases q.2
      · cases q.2
theorem mPut_1 {L : mL} {i : Nat} {v : mV} (h : m2 v = false) : mPut L i v = mSet (mCut L i) i (some v) := by
  rcases v with z | z | z | z <;> first | rfl | cases h
theorem HL.put1 {aO aA : Nat → Nat} {ls' : Array Slot} {L : mL} {i : Nat} {v : mV} (hv : m2 v = false) (hi : i < L.length)
    (h : lv_has ls' L.length ((i, cvV aO aA v) :: (lvl (cvV aO aA) L).filter (fun q => !(q.1 == i) && !(q.1 + 1 == i && q.2.category == 2)))) : HL (cvV aO aA) ls' (mPut L i v) := by
  rw [mPut_1 hv]
  refine ⟨by rw [mSet_len, mCut_len]; exact h.1, h.2.1, fun j w hw => ?_⟩
  by_cases e : j = i
  · subst e
    rw [mSet_eq _ (by rw [mCut_len]; exact hi)] at hw
    cases hw
    exact h.2.2 _ List.mem_cons_self
  · rw [mSet_ne _ e] at hw
    obtain ⟨h1, h2⟩ := mCut_get hw
    refine h.2.2 (j, cvV aO aA w) (List.mem_cons_of_mem _ (List.mem_filter.mpr ⟨lvl_mem h1, ?_⟩))
    have e1 : (j == i) = false := by simp [e]
    have e2 : (j + 1 == i && (cvV aO aA w).category == 2) = false := by
      rw [Bool.and_eq_false_iff]
      by_cases z : j + 1 = i
      · refine Or.inr ?_
        have : m2 w = false := by
          cases hm : m2 w with
          | false => rfl
          | true => exact absurd ⟨z, hm⟩ h2
        rw [cv_1 this]; rfl
      · exact Or.inl (by simp [z])
    simp only [e1, e2]; rfl
theorem HL.put2 {aO aA : Nat → Nat} {ls' : Array Slot} {L : mL} {i : Nat} {z : Int} (hi : i + 1 < L.length)
    (h : lv_has ls' L.length ((i, cvV aO aA (vL z)) :: (lvl (cvV aO aA) L).filter (fun q => !(q.1 == i) && (!(q.1 == i + 1) && !(q.1 + 1 == i && q.2.category == 2))))) : HL (cvV aO aA) ls' (mPut L i (vL z)) := by
  show HL (cvV aO aA) ls' (mSet (mSet (mCut L i) i (some (vL z))) (i + 1) none)
  refine ⟨by rw [mSet_len, mSet_len, mCut_len]; exact h.1, h.2.1, fun j w hw => ?_⟩
  by_cases e2 : j = i + 1
  · subst e2
    rw [mSet_eq _ (by rw [mSet_len, mCut_len]; exact hi)] at hw
    cases hw
  rw [mSet_ne _ e2] at hw
  by_cases e : j = i
  · subst e
    rw [mSet_eq _ (by rw [mCut_len]; omega)] at hw
    cases hw
    exact h.2.2 _ List.mem_cons_self
  · rw [mSet_ne _ e] at hw
    obtain ⟨h1, h2⟩ := mCut_get hw
    refine h.2.2 (j, cvV aO aA w) (List.mem_cons_of_mem _ (List.mem_filter.mpr ⟨lvl_mem h1, ?_⟩))
    have e1 : (j == i) = false := by simp [e]
    have e3 : (j == i + 1) = false := by simp [e2]
    have e2 : (j + 1 == i && (cvV aO aA w).category == 2) = false := by
      rw [Bool.and_eq_false_iff]
      by_cases z : j + 1 = i
      · refine Or.inr ?_
        have : m2 w = false := by
          cases hm : m2 w with
          | false => rfl
          | true => exact absurd ⟨z, hm⟩ h2
        rw [cv_1 this]; rfl
      · exact Or.inl (by simp [z])
    simp only [e1, e2, e3]; rfl
theorem mFlat_sl (aO aA : Nat → Nat) : ∀ args : List mV, (lg_sl (args.map (cvV aO aA))).length = (mFlat args).length
  | [] => rfl
  | .inl z :: S => by
    have := mFlat_sl aO aA S
    simp only [lg_sl, List.map_cons, List.flatMap_cons, List.length_append, mFlat, List.length_cons] at this ⊢
    rw [this]; show 1 + _ = _; omega
  | .inr (.inl z) :: S => by
    have := mFlat_sl aO aA S
    simp only [lg_sl, List.map_cons, List.flatMap_cons, List.length_append, mFlat, List.length_cons] at this ⊢
    rw [this]; show 2 + _ = _; omega
  | .inr (.inr (.inl z)) :: S => by
    have := mFlat_sl aO aA S
    simp only [lg_sl, List.map_cons, List.flatMap_cons, List.length_append, mFlat, List.length_cons] at this ⊢
    rw [this]; show 1 + _ = _; omega
  | .inr (.inr (.inr z)) :: S => by
    have := mFlat_sl aO aA S
    simp only [lg_sl, List.map_cons, List.flatMap_cons, List.length_append, mFlat, List.length_cons] at this ⊢
    rw [this]; show 1 + _ = _; omega
theorem mPad_len : ∀ (n : Nat) (L : mL), L.length ≤ n → (mPad n L).length = n
  | 0, [], _ => rfl
  | 0, _ :: _, h => by simp at h
  | n + 1, [], _ => by simp [mPad, mPad_len n [] (Nat.zero_le _)]
  | n + 1, a :: L, h => by simp [mPad, mPad_len n L (by simpa using h)]
theorem mPad_get : ∀ (n : Nat) (L : mL) (i : Nat) (v : mV), mNth (mPad n L) i = some (some v) → mNth L i = some (some v)
  | 0, L, i, v, h => h
  | n + 1, [], 0, v, h => by simp [mPad, mNth] at h
  | n + 1, [], i + 1, v, h => by
    have := mPad_get n [] i v (by simpa [mPad, mNth] using h)
    simp [mNth] at this
  | n + 1, a :: L, 0, v, h => by simpa [mPad, mNth] using h
  | n + 1, a :: L, i + 1, v, h => by
    have := mPad_get n L i v (by simpa [mPad, mNth] using h)
    simpa [mNth] using this
theorem mFlat_args (aO aA : Nat → Nat) : ∀ (args : List mV) (k i : Nat) (v : mV), mNth (mFlat args) i = some (some v) → (k + i, cvV aO aA v) ∈ lv_args k (args.map (cvV aO aA))
  | [], k, i, v, h => by simp [mFlat, mNth] at h
  | .inr (.inl z) :: S, k, 0, v, h => by
    simp [mFlat, mNth] at h
    subst h
    exact List.mem_cons_self
  | .inr (.inl z) :: S, k, 1, v, h => by simp [mFlat, mNth] at h
  | .inr (.inl z) :: S, k, i + 2, v, h => by
    have := mFlat_args aO aA S (k + 2) i v (by simpa [mFlat, mNth] using h)
    rw [show k + (i + 2) = k + 2 + i by omega]
    exact List.mem_cons_of_mem _ this
  | .inl z :: S, k, 0, v, h => by
    simp [mFlat, mNth] at h
    subst h
    exact List.mem_cons_self
  | .inl z :: S, k, i + 1, v, h => by
    have := mFlat_args aO aA S (k + 1) i v (by simpa [mFlat, mNth] using h)
    rw [show k + (i + 1) = k + 1 + i by omega]
    exact List.mem_cons_of_mem _ this
  | .inr (.inr (.inl z)) :: S, k, 0, v, h => by
    simp [mFlat, mNth] at h
    subst h
    exact List.mem_cons_self
  | .inr (.inr (.inl z)) :: S, k, i + 1, v, h => by
    have := mFlat_args aO aA S (k + 1) i v (by simpa [mFlat, mNth] using h)
    rw [show k + (i + 1) = k + 1 + i by omega]
    exact List.mem_cons_of_mem _ this
  | .inr (.inr (.inr z)) :: S, k, 0, v, h => by
    simp [mFlat, mNth] at h
    subst h
    exact List.mem_cons_self
  | .inr (.inr (.inr z)) :: S, k, i + 1, v, h => by
    have := mFlat_args aO aA S (k + 1) i v (by simpa [mFlat, mNth] using h)
    rw [show k + (i + 1) = k + 1 + i by omega]
    exact List.mem_cons_of_mem _ this
theorem HL.entry (aO aA : Nat → Nat) {m : Nat} {args : List mV} (h : (mFlat args).length ≤ mW m) : HL (cvV aO aA) ((lg_sl (args.map (cvV aO aA)) ++ List.replicate (mW m - (lg_sl (args.map (cvV aO aA))).length) Slot.unset).toArray) (mIn m args) := by
  have hl := lv_entry (args.map (cvV aO aA)) (n := mW m) (by rw [mFlat_sl]; exact h)
  refine ⟨hl.1.trans (mPad_len _ _ h).symm, hl.2.1, fun i v hi => ?_⟩
  have := mFlat_args aO aA args 0 i v (mPad_get _ _ _ _ hi)
  rw [Nat.zero_add] at this
  exact hl.2.2 _ this
/-! the cells -/
def wFld (aO aA : Nat → Nat) (h : mH) (o c k : Nat) : Value := match fK c k with
  | 0 => .int (jI (h.1 (16 * o + k)))
  | 1 => .long (jL (h.1 (16 * o + k)))
  | 2 => .ref (aA (16 * o + k))
  | _ => .ref (aO (sO o k))
def wObj (aO aA : Nat → Nat) (h : mH) (o c : Nat) : va_E := .inr (c, (List.range (cF c)).map (wFld aO aA h o c))
def wCel (aO aA : Nat → Nat) (G : ClassId × ClassId × ClassId) (h : mH) (q : Nat × Nat × Nat) : Nat × va_E := match q.1 with
  | 0 => (aO q.2.1, wObj aO aA h q.2.1 q.2.2)
  | 1 => (aA q.2.1, .inl (G.1, q.2.2, .inl (fun i => jI (h.2 q.2.1 i))))
  | 2 => (aA q.2.1, .inl (G.2.1, q.2.2, .inr (.inl (fun i => jL (h.2 q.2.1 i)))))
  | _ => (aA q.2.1, .inl (G.2.2, q.2.2, .inl (fun i => jI (h.2 q.2.1 i))))
def wW (aO aA : Nat → Nat) (G : ClassId × ClassId × ClassId) (h : mH) : va_W := wI.map (wCel aO aA G h)
abbrev wT (G : ClassId × ClassId × ClassId) : List (ClassId × FieldType) := [(G.1, .int), (G.2.1, .long), (G.2.2, .boolean)]
def wAd (aO aA : Nat → Nat) (q : Nat × Nat × Nat) : Nat := if q.1 = 0 then aO q.2.1 else aA q.2.1
theorem wAd_eq (aO aA : Nat → Nat) (G : ClassId × ClassId × ClassId) (h : mH) (q : Nat × Nat × Nat) : (wCel aO aA G h q).1 = wAd aO aA q := by
  obtain ⟨k, a, n⟩ := q
  match k with
  | 0 => rfl
  | 1 => rfl
  | 2 => rfl
  | n + 3 => rfl
def wDd (A : Nat → Prop) (aO aA : Nat → Nat) : Prop := (∀ (i j : Nat) (p q : Nat × Nat × Nat), wI[i]? = some p → wI[j]? = some q → wAd aO aA p = wAd aO aA q → i = j) ∧ ∀ (k : Nat) (q : Nat × Nat × Nat), wI[k]? = some q → A (wAd aO aA q)
theorem wW_at {aO aA : Nat → Nat} {G : ClassId × ClassId × ClassId} {h : mH} {k : Nat} {q : Nat × Nat × Nat} (hq : wI[k]? = some q) : (wW aO aA G h)[k]? = some (wCel aO aA G h q) := by
  unfold wW
  rw [List.getElem?_map, hq]; rfl
theorem wW_of {aO aA : Nat → Nat} {G : ClassId × ClassId × ClassId} {h : mH} {k : Nat} {e : Nat × va_E} (he : (wW aO aA G h)[k]? = some e) : ∃ q, wI[k]? = some q ∧ e = wCel aO aA G h q := by
  unfold wW at he
  rw [List.getElem?_map] at he
  cases hq : wI[k]? with
  | none => rw [hq] at he; cases he
  | some q => rw [hq] at he; cases he; exact ⟨q, rfl, rfl⟩
theorem wDd.D {A : Nat → Prop} {aO aA : Nat → Nat} (hd : wDd A aO aA) (G : ClassId × ClassId × ClassId) (h : mH) : va_D A (wW aO aA G h) := by
  refine ⟨fun i j p q hi hj e => ?_, fun k q hk => ?_⟩
  · obtain ⟨x, hx, rfl⟩ := wW_of hi
    obtain ⟨y, hy, rfl⟩ := wW_of hj
    rw [wAd_eq, wAd_eq] at e
    exact hd.1 i j x y hx hy e
  · obtain ⟨x, hx, rfl⟩ := wW_of hk
    rw [wAd_eq]
    exact hd.2 k x hx
theorem wI_obj : ∀ o, o < 12 → wI[o]? = some (0, o, cO o) := by decide +kernel
theorem cO_lt {o c : Nat} (h : cO o = c) (hc : c < 99) : o < 12 := by
  rcases Nat.lt_or_ge o 12 with q | q
  · exact q
  · unfold cO at h
    rw [mNth_get, List.getElem?_eq_none (by show 12 ≤ o; exact q)] at h
    simp at h; omega
def wPos (a : Nat) : Nat := (wI.findIdx? (fun q => decide (q.1 ≠ 0 ∧ q.2.1 = a))).getD 0
theorem wI_arr0 : ∀ a, a < 192 → aK a ≤ 2 → wI[wPos a]? = some (aK a + 1, a, aN a) := by decide +kernel
theorem aK_lt {a : Nat} (h : aK a ≤ 2) (h9 : a ≠ 999) : a < 192 := by
  rcases Nat.lt_or_ge a 192 with q | q
  · exact q
  · unfold aK at h
    rw [if_neg h9, mNth_get aKs, List.getElem?_eq_none (by show 12 ≤ a / 16; omega)] at h
    simp [mNth] at h
theorem wI_arr {a : Nat} (h : aK a ≤ 2) (h9 : a ≠ 999) : wI[wPos a]? = some (aK a + 1, a, aN a) := wI_arr0 a (aK_lt h h9) h
theorem aN_small : ∀ a, a < 192 → aN a ≤ 256 := by decide +kernel
theorem wI_one : ∀ i, i < 40 → ∀ j, j < 40 → (wI.getD i (0, 0, 0)).1 ≠ 0 → (wI.getD j (0, 0, 0)).1 ≠ 0 → (wI.getD i (0, 0, 0)).2.1 = (wI.getD j (0, 0, 0)).2.1 → i = j := by decide +kernel
theorem wI_oneO : ∀ i, i < 40 → ∀ j, j < 40 → (wI.getD i (0, 0, 0)).1 = 0 → (wI.getD j (0, 0, 0)).1 = 0 → (wI.getD i (0, 0, 0)).2.1 = (wI.getD j (0, 0, 0)).2.1 → i = j := by decide +kernel
theorem wI_cls : ∀ i, i < 40 → (wI.getD i (0, 0, 0)).1 = 0 → (wI.getD i (0, 0, 0)).2.2 < 10 := by decide +kernel
theorem wI_len : wI.length = 40 := by decide +kernel
theorem wI_D {i : Nat} {q : Nat × Nat × Nat} (h : wI[i]? = some q) : i < 40 ∧ wI.getD i (0, 0, 0) = q := by
  have := (List.getElem?_eq_some_iff.mp h).1
  rw [wI_len] at this
  exact ⟨this, by rw [List.getD_eq_getElem?_getD, h]; rfl⟩
/-- an array's new row is the world's -/
theorem wW_setA {aO aA : Nat → Nat} {G : ClassId × ClassId × ClassId} {h : mH} {a k : Nat} {q : Nat × Nat × Nat} {f : Nat → Int} (hk : wI[k]? = some q) (h1 : q.1 ≠ 0) (h2 : q.2.1 = a) : (wW aO aA G h).set k (wCel aO aA G (h.1, up h.2 a f) q) = wW aO aA G (h.1, up h.2 a f) := by
  apply List.ext_getElem?
  intro j
  by_cases e : j = k
  · subst e
    rw [List.getElem?_set_self (by rw [wW, List.length_map]; exact (List.getElem?_eq_some_iff.mp hk).1), wW_at hk]
  · rw [List.getElem?_set_ne (Ne.symm e)]
    unfold wW
    rw [List.getElem?_map, List.getElem?_map]
    cases hj : wI[j]? with
    | none => rfl
    | some y =>
      show some _ = some _
      congr 1
      obtain ⟨z, b, n⟩ := y
      have hne : z ≠ 0 → b ≠ a := fun hz hb => e (wI_one j (wI_D hj).1 k (wI_D hk).1 (by rw [(wI_D hj).2]; exact hz) (by rw [(wI_D hk).2]; exact h1) (by rw [(wI_D hj).2, (wI_D hk).2, h2]; exact hb))
      match z, hne with
      | 0, _ => rfl
      | 1, hne => show (_, Sum.inl (_, _, Sum.inl _)) = (_, Sum.inl (_, _, Sum.inl _)); simp only [up, if_neg (hne (by decide))]
      | 2, hne => show (_, Sum.inl (_, _, Sum.inr (Sum.inl _))) = (_, Sum.inl (_, _, Sum.inr (Sum.inl _))); simp only [up, if_neg (hne (by decide))]
      | n + 3, hne => show (_, Sum.inl (_, _, Sum.inl _)) = (_, Sum.inl (_, _, Sum.inl _)); simp only [up, if_neg (hne (by omega))]
theorem wW_set1 {aO aA : Nat → Nat} {G : ClassId × ClassId × ClassId} {h : mH} {a k n : Nat} {f : Nat → Int} (hk : wI[k]? = some (0 + 1, a, n)) : (wW aO aA G h).set k (aA a, .inl (G.1, n, .inl (fun i => jI (f i)))) = wW aO aA G (h.1, up h.2 a f) := by
  rw [← wW_setA (q := (1, a, n)) (a := a) (f := f) hk (fun q => by cases q) rfl]
  simp only [wCel, up, if_pos]
theorem wW_set2 {aO aA : Nat → Nat} {G : ClassId × ClassId × ClassId} {h : mH} {a k n : Nat} {f : Nat → Int} (hk : wI[k]? = some (1 + 1, a, n)) : (wW aO aA G h).set k (aA a, .inl (G.2.1, n, .inr (.inl (fun i => jL (f i))))) = wW aO aA G (h.1, up h.2 a f) := by
  rw [← wW_setA (q := (2, a, n)) (a := a) (f := f) hk (fun q => by cases q) rfl]
  simp only [wCel, up, if_pos]
theorem wW_set3 {aO aA : Nat → Nat} {G : ClassId × ClassId × ClassId} {h : mH} {a k n : Nat} {f : Nat → Int} (hk : wI[k]? = some (2 + 1, a, n)) : (wW aO aA G h).set k (aA a, .inl (G.2.2, n, .inl (fun i => jI (f i)))) = wW aO aA G (h.1, up h.2 a f) := by
  rw [← wW_setA (q := (3, a, n)) (a := a) (f := f) hk (fun q => by cases q) rfl]
  simp only [wCel, up, if_pos]
/-- an object's new number is the world's -/
theorem wW_setF {aO aA : Nat → Nat} {G : ClassId × ClassId × ClassId} {h : mH} {o c k j : Nat} {z : Int} (hj : wI[j]? = some (0, o, c)) (hc : c < 10) (hk : k < cF c) (hf : fK c k = 0 ∨ fK c k = 1) :
    (wW aO aA G h).set j (aO o, .inr (c, ((List.range (cF c)).map (wFld aO aA h o c)).set k (if fK c k = 0 then .int (jI z) else .long (jL z)))) = wW aO aA G (up h.1 (16 * o + k) z, h.2) := by
  apply List.ext_getElem?
  intro i
  by_cases e : i = j
  · subst e
    rw [List.getElem?_set_self (by rw [wW, List.length_map]; exact (List.getElem?_eq_some_iff.mp hj).1), wW_at hj]
    show some (aO o, Sum.inr (c, _)) = some (aO o, Sum.inr (c, _))
    congr 4
    apply List.ext_getElem?
    intro x
    by_cases ex : x = k
    · subst ex
      rw [List.getElem?_set_self (by simpa using hk), List.getElem?_map, List.getElem?_range hk]
      show some _ = some _
      congr 1
      unfold wFld
      rcases hf with hf | hf <;> rw [hf] <;> simp [up]
    · rw [List.getElem?_set_ne (Ne.symm ex), List.getElem?_map, List.getElem?_map]
      cases hx : (List.range (cF c))[x]? with
      | none => rfl
      | some y =>
        have hy : y = x := by
          have := (List.getElem?_eq_some_iff.mp hx).2
          simpa using this.symm
        subst hy
        show some _ = some _
        congr 1
        unfold wFld
        have hne : 16 * o + y ≠ 16 * o + k := by omega
        simp only [up, if_neg hne]
  · rw [List.getElem?_set_ne (Ne.symm e)]
    unfold wW
    rw [List.getElem?_map, List.getElem?_map]
    cases hi : wI[i]? with
    | none => rfl
    | some y =>
      show some _ = some _
      congr 1
      obtain ⟨zz, b, n⟩ := y
      have h16 := cF_16 c hc
      match zz with
      | 0 =>
        have hb : b ≠ o := fun hb => e (wI_oneO i (wI_D hi).1 j (wI_D hj).1 (by rw [(wI_D hi).2]) (by rw [(wI_D hj).2]) (by rw [(wI_D hi).2, (wI_D hj).2]; exact hb))
        have hn : n < 10 := by
          have := wI_cls i (wI_D hi).1 (by rw [(wI_D hi).2])
          rw [(wI_D hi).2] at this
          exact this
        have hn16 := cF_16 n hn
        show (aO b, Sum.inr (n, _)) = (aO b, Sum.inr (n, _))
        congr 3
        apply List.map_congr_left
        intro y hy
        have hy : y < cF n := List.mem_range.mp hy
        have hne : 16 * b + y ≠ 16 * o + k := by omega
        unfold wFld
        simp only [up, if_neg hne]
      | 1 => rfl
      | 2 => rfl
      | n + 3 => rfl

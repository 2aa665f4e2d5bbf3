/-! ONE STEP of the small machine is a step of the machine -/
def hScr (b Ls : Nat) (xs : Nat → Int32) (h : mH) : Prop := h.1 999 = (Ls : Int) ∧ ∀ j, j < Ls → xs j = jI (h.2 999 j)
def Cx (p : Program) (s : State) (m : MethodId) (args : Array Value) (c : Code) (M : Nat) (D : va_G) (G : ClassId × ClassId × ClassId) (aO aA : Nat → Nat) (A : Nat → Prop) (b Ls : Nat) (xs : Nat → Int32) : Prop :=
  p.tables.exec = Jvm.exec ∧ c.code = bN M ∧ c.maxLocals = mW M ∧ s.vm.findClass (cN (mK M)) = some m.cls ∧ (∀ w ∈ lw_good, w.before args s = true) ∧ (∀ q ∈ kN, va_Nw (.methodLinkNest (cN q.1) q.2.1 (yN q.2.2.1) "DesignTurns") s) ∧ va_K D vwCl (wT G) s ∧ wDd A aO aA ∧ (∀ q, s.heap.size ≤ q → A q) ∧ va_X b Ls xs s s.heap ∧ b < s.heap.size ∧ ¬ A b ∧ aA 999 = b ∧ Ls < 2147483648
section STEP
variable {p : Program} {l : Launch} {e : Env} {R : Room} {s : State} {m : MethodId} {args : Array Value} {below : List Frame} {meth : Method} {c : Code} {H : Heap} {locs : List Loc} {cells slots : Nat} {Q : State → Prop}
variable {D : va_G} {G : ClassId × ClassId × ClassId} {aO aA : Nat → Nat} {A : Nat → Prop} {b Ls : Nat} {xs : Nat → Int32}
set_option maxHeartbeats 4000000 in
theorem step_ok {M pc : Nat} {en : mE} {L L2 : mL} {S S2 : List mV} {h h2 : mH} {g : Option Prop} {pc2 : Nat} {ls : Array Slot} (C : Cx p s m args c M D G aO aA A b Ls xs) (he : pg M pc = some en) (hs : stp en pc L S h = some (.inl (g, pc2, L2, S2, h2))) (hg : gd g True) (hR : 1 ≤ R.frames ∧ 40 ≤ R.locals ∧ cells ≤ R.cells ∧ slots ≤ R.slots)
    (hl : HL (cvV aO aA) ls L) (hn : L.length = mW M) (hP : va_P D vwCl (wW aO aA G h) H) (hS : va_S A s.heap H locs) (hc : hScr b Ls xs h)
    (kk : ∀ (ls2 : Array Slot) (H2 : Heap) (locs2 : List Loc), HL (cvV aO aA) ls2 L2 → L2.length = mW M → va_P D vwCl (wW aO aA G h2) H2 → va_S A s.heap H2 locs2 → hScr b Ls xs h2 → W p l e R s m args below meth c H2 locs2 cells slots Q (F0 m pc2 ls2 (S2.map (cvV aO aA)))) :
    W p l e R s m args below meth c H locs cells slots Q (F0 m pc ls (S.map (cvV aO aA))) := by
  obtain ⟨hx, hb, hml, hown, hts, hnest, hK, hDd, hA, hX, hbl, hbA, hb9, hLs⟩ := C
  have hck := ck_at he
  have hd := ck_dec hck
  have hD := hDd.D G h
  have ha := (Bool.and_eq_true_iff.mp (by unfold ck at hck; exact hck)).2
  obtain ⟨i, x, y, z⟩ := en
  have mput : ∀ (i : Nat) (v : mV), (mPut L i v).length = L.length := by
    intro i v
    unfold mPut
    split <;> simp only [mSet_len, mCut_len]
  cases i
  case iload i =>
    rcases mLoad_out hs with ⟨z, hk, hz, hr⟩ | ⟨z, hk, hz, hr⟩ | ⟨z, hk, hz, hr⟩ | ⟨z, hk, hz, hr⟩ <;> first | (cases hk; done) | skip
    cases hr
    exact lv_iload hx hb hd (hl.2.2 _ _ hz) (kk ls H locs hl hn hP hS hc)
  case iload_n i =>
    rcases mLoad_out hs with ⟨z, hk, hz, hr⟩ | ⟨z, hk, hz, hr⟩ | ⟨z, hk, hz, hr⟩ | ⟨z, hk, hz, hr⟩ <;> first | (cases hk; done) | skip
    cases hr
    exact lv_iload_n hx hb hd rfl (hl.2.2 _ _ hz) (kk ls H locs hl hn hP hS hc)
  case lload i =>
    rcases mLoad_out hs with ⟨z, hk, hz, hr⟩ | ⟨z, hk, hz, hr⟩ | ⟨z, hk, hz, hr⟩ | ⟨z, hk, hz, hr⟩ <;> first | (cases hk; done) | skip
    cases hr
    exact lv_lload hx hb hd (hl.2.2 _ _ hz) (kk ls H locs hl hn hP hS hc)
  case lload_n i =>
    rcases mLoad_out hs with ⟨z, hk, hz, hr⟩ | ⟨z, hk, hz, hr⟩ | ⟨z, hk, hz, hr⟩ | ⟨z, hk, hz, hr⟩ <;> first | (cases hk; done) | skip
    cases hr
    exact lv_lload_n hx hb hd rfl (hl.2.2 _ _ hz) (kk ls H locs hl hn hP hS hc)
  case aload i =>
    rcases mLoad_out hs with ⟨z, hk, hz, hr⟩ | ⟨z, hk, hz, hr⟩ | ⟨z, hk, hz, hr⟩ | ⟨z, hk, hz, hr⟩ <;> first | (cases hk; done) | skip
    · cases hr
      exact lv_aload hx hb hd (hl.2.2 _ _ hz) (kk ls H locs hl hn hP hS hc)
    · cases hr
      exact lv_aload hx hb hd (hl.2.2 _ _ hz) (kk ls H locs hl hn hP hS hc)
  case aload_n i =>
    rcases mLoad_out hs with ⟨z, hk, hz, hr⟩ | ⟨z, hk, hz, hr⟩ | ⟨z, hk, hz, hr⟩ | ⟨z, hk, hz, hr⟩ <;> first | (cases hk; done) | skip
    · cases hr
      exact lv_aload_n hx hb hd rfl (hl.2.2 _ _ hz) (kk ls H locs hl hn hP hS hc)
    · cases hr
      exact lv_aload_n hx hb hd rfl (hl.2.2 _ _ hz) (kk ls H locs hl hn hP hS hc)
  case istore i =>
    rcases mStore_out hs with ⟨z, T, rfl, hk, hi, hr⟩ | ⟨z, T, rfl, hk, hi, hr⟩ | ⟨z, T, rfl, hk, hi, hr⟩ | ⟨z, T, rfl, hk, hi, hr⟩ <;> first | (cases hk; done) | skip
    cases hr
    exact lv_istore hx hb hd hl.has hi rfl (fun ls2 hl2 => kk ls2 H locs (HL.put1 (v := vI z) rfl hi hl2) ((mput _ _).trans hn) hP hS hc)
  case istore_n i =>
    rcases mStore_out hs with ⟨z, T, rfl, hk, hi, hr⟩ | ⟨z, T, rfl, hk, hi, hr⟩ | ⟨z, T, rfl, hk, hi, hr⟩ | ⟨z, T, rfl, hk, hi, hr⟩ <;> first | (cases hk; done) | skip
    cases hr
    exact lv_istore_n hx hb hd rfl hl.has hi rfl (fun ls2 hl2 => kk ls2 H locs (HL.put1 (v := vI z) rfl hi hl2) ((mput _ _).trans hn) hP hS hc)
  case lstore i =>
    rcases mStore_out hs with ⟨z, T, rfl, hk, hi, hr⟩ | ⟨z, T, rfl, hk, hi, hr⟩ | ⟨z, T, rfl, hk, hi, hr⟩ | ⟨z, T, rfl, hk, hi, hr⟩ <;> first | (cases hk; done) | skip
    cases hr
    exact lv_lstore hx hb hd hl.has hi rfl (fun ls2 hl2 => kk ls2 H locs (HL.put2 hi hl2) ((mput _ _).trans hn) hP hS hc)
  case lstore_n i =>
    rcases mStore_out hs with ⟨z, T, rfl, hk, hi, hr⟩ | ⟨z, T, rfl, hk, hi, hr⟩ | ⟨z, T, rfl, hk, hi, hr⟩ | ⟨z, T, rfl, hk, hi, hr⟩ <;> first | (cases hk; done) | skip
    cases hr
    exact lv_lstore_n hx hb hd rfl hl.has hi rfl (fun ls2 hl2 => kk ls2 H locs (HL.put2 hi hl2) ((mput _ _).trans hn) hP hS hc)
  case astore i =>
    rcases mStore_out hs with ⟨z, T, rfl, hk, hi, hr⟩ | ⟨z, T, rfl, hk, hi, hr⟩ | ⟨z, T, rfl, hk, hi, hr⟩ | ⟨z, T, rfl, hk, hi, hr⟩ <;> first | (cases hk; done) | skip
    · cases hr
      exact lv_astore hx hb hd hl.has hi rfl (fun ls2 hl2 => kk ls2 H locs (HL.put1 (v := vO z) rfl hi hl2) ((mput _ _).trans hn) hP hS hc)
    · cases hr
      exact lv_astore hx hb hd hl.has hi rfl (fun ls2 hl2 => kk ls2 H locs (HL.put1 (v := vA z) rfl hi hl2) ((mput _ _).trans hn) hP hS hc)
  case astore_n i =>
    rcases mStore_out hs with ⟨z, T, rfl, hk, hi, hr⟩ | ⟨z, T, rfl, hk, hi, hr⟩ | ⟨z, T, rfl, hk, hi, hr⟩ | ⟨z, T, rfl, hk, hi, hr⟩ <;> first | (cases hk; done) | skip
    · cases hr
      exact lv_astore_n hx hb hd rfl hl.has hi rfl (fun ls2 hl2 => kk ls2 H locs (HL.put1 (v := vO z) rfl hi hl2) ((mput _ _).trans hn) hP hS hc)
    · cases hr
      exact lv_astore_n hx hb hd rfl hl.has hi rfl (fun ls2 hl2 => kk ls2 H locs (HL.put1 (v := vA z) rfl hi hl2) ((mput _ _).trans hn) hP hS hc)
  case iconst n =>
    cases hs
    exact lv_iconst hx hb hd (of_decide_eq_true ha) (kk ls H locs hl hn hP hS hc)
  case bipush n =>
    cases hs
    exact lv_bipush hx hb hd (of_decide_eq_true ha) (kk ls H locs hl hn hP hS hc)
  case sipush n =>
    cases hs
    exact lv_sipush hx hb hd (of_decide_eq_true ha) (kk ls H locs hl hn hP hS hc)
  case lconst n =>
    cases hs
    exact lv_lconst hx hb hd (of_decide_eq_true ha) (kk ls H locs hl hn hP hS hc)
  case ldc n =>
    cases hs
    obtain ⟨q, hq, hq2⟩ := List.any_eq_true.mp ha
    obtain ⟨q1, q2, q3⟩ := of_decide_eq_true hq2
    have hw := hts _ (kI_word hq)
    rw [q1, q2, q3] at hw
    exact lv_ldc hx hb hown hw hd (kk ls H locs hl hn hP hS hc)
  case ldc2_w n =>
    cases hs
    obtain ⟨q, hq, hq2⟩ := List.any_eq_true.mp ha
    obtain ⟨q1, q2, q3⟩ := of_decide_eq_true hq2
    have hw := hts _ (kL_word hq)
    rw [q1, q2, q3] at hw
    exact lv_ldc2 hx hb hown hw hd (kk ls H locs hl hn hP hS hc)
  case iadd =>
    dsimp only [stp] at hs
    split at hs
    · cases hs
      refine lv_iadd hx hb hd ?_
      rw [← jI_add]
      exact kk ls H locs hl hn hP hS hc
    · cases hs
  case isub =>
    dsimp only [stp] at hs
    split at hs
    · cases hs
      refine lv_isub hx hb hd ?_
      rw [← jI_sub]
      exact kk ls H locs hl hn hP hS hc
    · cases hs
  case imul =>
    dsimp only [stp] at hs
    split at hs
    · cases hs
      refine lv_imul hx hb hd ?_
      rw [← jI_mul]
      exact kk ls H locs hl hn hP hS hc
    · cases hs
  case idiv =>
    dsimp only [stp] at hs
    split at hs
    · cases hs
      obtain ⟨⟨g1, g2, g3⟩, -⟩ := hg
      refine lv_idiv hx hb hd (jI_ne0 g2 g3) ?_
      rw [← jI_div g1 g2]
      exact kk ls H locs hl hn hP hS hc
    · cases hs
  case iand =>
    dsimp only [stp] at hs
    split at hs
    · cases hs
      refine lv_iand hx hb hd ?_
      rw [← jI_and]
      exact kk ls H locs hl hn hP hS hc
    · cases hs
  case ior =>
    dsimp only [stp] at hs
    split at hs
    · cases hs
      refine lv_ior hx hb hd ?_
      rw [← jI_or]
      exact kk ls H locs hl hn hP hS hc
    · cases hs
  case ixor =>
    dsimp only [stp] at hs
    split at hs
    · cases hs
      refine lv_ixor hx hb hd ?_
      rw [← jI_xor]
      exact kk ls H locs hl hn hP hS hc
    · cases hs
  case ishl =>
    dsimp only [stp] at hs
    split at hs
    · cases hs
      refine lv_ishl hx hb hd ?_
      rw [← jI_shl]
      exact kk ls H locs hl hn hP hS hc
    · cases hs
  case ishr =>
    dsimp only [stp] at hs
    split at hs
    · cases hs
      refine lv_ishr hx hb hd ?_
      rw [← jI_shr]
      exact kk ls H locs hl hn hP hS hc
    · cases hs
  case i2l =>
    dsimp only [stp] at hs
    split at hs
    · cases hs
      exact lv_i2l hx hb hd (jI_i2l hg.1) (kk ls H locs hl hn hP hS hc)
    · cases hs
  case ladd =>
    dsimp only [stp] at hs
    split at hs
    · cases hs
      refine lv_ladd hx hb hd ?_
      rw [← jL_add]
      exact kk ls H locs hl hn hP hS hc
    · cases hs
  case lmul =>
    dsimp only [stp] at hs
    split at hs
    · cases hs
      refine lv_lmul hx hb hd ?_
      rw [← jL_mul]
      exact kk ls H locs hl hn hP hS hc
    · cases hs
  case ldiv =>
    dsimp only [stp] at hs
    split at hs
    · cases hs
      obtain ⟨⟨g1, g2, g3⟩, -⟩ := hg
      refine lv_ldiv hx hb hd (jL_ne0 g2 g3) ?_
      rw [← jL_div g1 g2]
      exact kk ls H locs hl hn hP hS hc
    · cases hs
  case lrem =>
    dsimp only [stp] at hs
    split at hs
    · cases hs
      obtain ⟨⟨g1, g2, g3⟩, -⟩ := hg
      refine lv_lrem hx hb hd (jL_ne0 g2 g3) ?_
      rw [← jL_rem g1 g2]
      exact kk ls H locs hl hn hP hS hc
    · cases hs
  case lcmp =>
    dsimp only [stp] at hs
    split at hs
    · cases hs
      obtain ⟨⟨g1, g2⟩, -⟩ := hg
      refine W.lcmp hx hb hd ?_
      rw [jI_cmp g1 g2]
      exact kk ls H locs hl hn hP hS hc
    · cases hs
  case iinc i n =>
    dsimp only [stp] at hs
    split at hs
    next x hx1 hx2 =>
      cases hs
      have hi := mLt_lt _ _ hx2
      obtain ⟨k, hk, hk2⟩ := List.getElem_of_mem (lvl_mem (cv := cvV aO aA) hx1)
      exact lv_iinc hx hb hd hl.has (k := k) ((List.getElem?_eq_getElem hk).trans (congrArg some hk2)) (jI_add x n).symm hi rfl (fun ls2 hl2 => kk ls2 H locs (HL.put1 (v := vI (x + n)) rfl hi hl2) ((mput _ _).trans hn) hP hS hc)
    next => cases hs
  case goto n =>
    cases hs
    exact lv_goto hx hb hd (of_decide_eq_true ha) (kk ls H locs hl hn hP hS hc)
  case getfield i =>
    dsimp only [stp] at hs
    split at hs
    next o T =>
      obtain ⟨q, hq, q1, q2, q3, q4⟩ := ck_F (e := (Instr.getfield i, x, y, z)) ha
      have hw := hts _ (kF_word hq)
      obtain ⟨hc10, hk10⟩ := kF_in q hq
      rw [q1, q2, q3, q4] at hw
      rw [q3] at hc10 hk10
      rw [q4] at hk10
      dsimp only at hw hc10 hk10 hs
      have go : ∀ (v : Value), cO o = x → wFld aO aA h o x y = v → (W p l e R s m args below meth c H locs cells slots Q (F0 m (pc + 3) ls (v :: T.map (cvV aO aA)))) → W p l e R s m args below meth c H locs cells slots Q (F0 m pc ls ((vO o :: T).map (cvV aO aA))) := by
        intro v hco hv k
        have ho := wI_obj o (cO_lt hco (by omega))
        rw [hco] at ho
        exact va_get hx hb hts (kW_words hc10) hown hK hP o (wW_at ho) (kC_at x hc10) y hk10 hw (fun w hw2 => by rw [← kT_own x hc10 y hk10]; exact hw2) (by rw [List.getElem?_map, List.getElem?_range hk10]; exact congrArg some hv) hd k
      unfold mGet at hs
      unfold wFld at go
      split at hs
      next hk => cases hs; exact go _ hg.1 (by rw [hk]; rfl) (kk ls H locs hl hn hP hS hc)
      next hk => cases hs; exact go _ hg.1 (by rw [hk]; rfl) (kk ls H locs hl hn hP hS hc)
      next hk => cases hs; exact go _ hg.1 (by rw [hk]; rfl) (kk ls H locs hl hn hP hS hc)
      next k0 k1 k2 =>
        cases hs
        refine go _ hg.1 ?_ (kk ls H locs hl hn hP hS hc)
        split
        next e => exact absurd e k0
        next e => exact absurd e k1
        next e => exact absurd e k2
        next => rfl
    next => cases hs
  case putfield i =>
    dsimp only [stp] at hs
    split at hs
    next v o T =>
      obtain ⟨q, hq, q1, q2, q3, q4⟩ := ck_F (e := (Instr.putfield i, x, y, z)) ha
      have hw := hts _ (kF_word hq)
      obtain ⟨hc10, hk10⟩ := kF_in q hq
      rw [q1, q2, q3, q4] at hw
      rw [q3] at hc10 hk10
      rw [q4] at hk10
      dsimp only at hw hc10 hk10 hs
      have hkin := kT_kind x hc10 y hk10
      unfold mPutf at hs
      split at hs
      next zv hk =>
        cases hs
        have ho := wI_obj o (cO_lt hg.1 (by omega))
        rw [hg.1] at ho
        have hset := wW_setF (aO := aO) (aA := aA) (G := G) (h := h) (z := zv) ho hc10 hk10 (Or.inl hk)
        rw [if_pos hk] at hset
        refine va_put (v := .int (jI zv)) (ty := .int) hx hb hts (kW_words hc10) (cY x) (kY_ok x hc10) (kT_ok x hc10) hown hK hP hD hS o (wW_at ho) (kC_at x hc10) y hk10 hw (fun w hw2 => by rw [← kT_own x hc10 y hk10]; exact hw2) (hkin.1 hk).2 (by rw [kY_ok x hc10 y hk10, (hkin.1 hk).1]) rfl rfl (by simpa using hk10) hd (fun H2 locs2 hP2 hD2 hS2 => ?_)
        rw [hset] at hP2
        refine kk ls H2 locs2 hl hn hP2 hS2 ⟨?_, hc.2⟩
        have ho12 := cO_lt hg.1 (by omega)
        have h16 := cF_16 x hc10
        show up h.1 (16 * o + y) zv 999 = _
        rw [up, if_neg (by omega)]
        exact hc.1
      next zv hk =>
        cases hs
        have ho := wI_obj o (cO_lt hg.1 (by omega))
        rw [hg.1] at ho
        have hset := wW_setF (aO := aO) (aA := aA) (G := G) (h := h) (z := zv) ho hc10 hk10 (Or.inr hk)
        rw [if_neg (by rw [hk]; decide)] at hset
        refine va_put (v := .long (jL zv)) (ty := .long) hx hb hts (kW_words hc10) (cY x) (kY_ok x hc10) (kT_ok x hc10) hown hK hP hD hS o (wW_at ho) (kC_at x hc10) y hk10 hw (fun w hw2 => by rw [← kT_own x hc10 y hk10]; exact hw2) (hkin.2 hk).2 (by rw [kY_ok x hc10 y hk10, (hkin.2 hk).1]) rfl rfl (by simpa using hk10) hd (fun H2 locs2 hP2 hD2 hS2 => ?_)
        rw [hset] at hP2
        refine kk ls H2 locs2 hl hn hP2 hS2 ⟨?_, hc.2⟩
        have ho12 := cO_lt hg.1 (by omega)
        have h16 := cF_16 x hc10
        show up h.1 (16 * o + y) zv 999 = _
        rw [up, if_neg (by omega)]
        exact hc.1
      next => cases hs
    next => cases hs
  case iaload =>
    dsimp only [stp] at hs
    split at hs
    next i a T =>
      cases hs
      obtain ⟨⟨g1, g2, g3⟩, -⟩ := hg
      by_cases h9 : a = 999
      · subst h9
        unfold mLen at g3
        rw [if_pos rfl, hc.1] at g3
        have hi : inR i := by omega
        show W p l e R s m args below meth c H locs cells slots Q (F0 m pc ls (.int (jI i) :: .ref (aA 999) :: T.map (cvV aO aA)))
        rw [hb9]
        refine va_sld hx hb hX hbl hbA hS (jI_vin g2 g3 hLs) hd ?_
        rw [jI_nat g2 hi, hc.2 _ (by omega)]
        exact kk ls H locs hl hn hP hS hc
      · unfold mLen at g3
        rw [if_neg h9] at g3
        have hw := wI_arr (by omega : aK a ≤ 2) h9
        have hsm := aN_small a (aK_lt (by omega) h9)
        rw [g1] at hw
        have hi : inR i := by omega
        refine va_iald hx hb hK hP (wPos a) 0 (wW_at hw) rfl (jI_vin (n := aN a) g2 g3 (by omega)) hd ?_
        rw [jI_nat g2 hi]
        exact kk ls H locs hl hn hP hS hc
    next => cases hs
  case laload =>
    dsimp only [stp] at hs
    split at hs
    next i a T =>
      cases hs
      obtain ⟨⟨g1, g2, g3⟩, -⟩ := hg
      have h9 : a ≠ 999 := by rintro rfl; exact absurd g1 (by decide)
      unfold mLen at g3
      rw [if_neg h9] at g3
      have hw := wI_arr (by omega : aK a ≤ 2) h9
      have hsm := aN_small a (aK_lt (by omega) h9)
      rw [g1] at hw
      have hi : inR i := by omega
      refine va_lald hx hb hK hP (wPos a) 1 (wW_at hw) rfl (jI_vin (n := aN a) g2 g3 (by omega)) hd ?_
      rw [jI_nat g2 hi]
      exact kk ls H locs hl hn hP hS hc
    next => cases hs
  case baload =>
    dsimp only [stp] at hs
    split at hs
    next i a T =>
      cases hs
      obtain ⟨⟨g1, g2, g3⟩, -⟩ := hg
      have h9 : a ≠ 999 := by rintro rfl; exact absurd g1 (by decide)
      unfold mLen at g3
      rw [if_neg h9] at g3
      have hw := wI_arr (by omega : aK a ≤ 2) h9
      have hsm := aN_small a (aK_lt (by omega) h9)
      rw [g1] at hw
      have hi : inR i := by omega
      refine va_zald hx hb hK hP (wPos a) 2 (wW_at hw) rfl (jI_vin (n := aN a) g2 g3 (by omega)) hd ?_
      rw [jI_nat g2 hi]
      exact kk ls H locs hl hn hP hS hc
    next => cases hs
  case iastore =>
    dsimp only [stp] at hs
    split at hs
    next v i a T =>
      cases hs
      obtain ⟨⟨g1, h9, g2, g3⟩, -⟩ := hg
      unfold mLen at g3
      rw [if_neg h9] at g3
      have hw := wI_arr (by omega : aK a ≤ 2) h9
      have hsm := aN_small a (aK_lt (by omega) h9)
      rw [g1] at hw
      have hi : inR i := by omega
      refine va_iast hx hb hK hP hD hS (wPos a) 0 (wW_at hw) rfl (jI_vin (n := aN a) g2 g3 (by omega)) hd (fun H2 locs2 hP2 hD2 hS2 => ?_)
      rw [jI_nat g2 hi, up_jI, wW_set1 hw] at hP2
      exact kk ls H2 locs2 hl hn hP2 hS2 ⟨hc.1, fun j hj => by show _ = jI (up h.2 a _ 999 j); rw [up, if_neg (Ne.symm h9)]; exact hc.2 j hj⟩
    next => cases hs
  case lastore =>
    dsimp only [stp] at hs
    split at hs
    next v i a T =>
      cases hs
      obtain ⟨⟨g1, h9, g2, g3⟩, -⟩ := hg
      unfold mLen at g3
      rw [if_neg h9] at g3
      have hw := wI_arr (by omega : aK a ≤ 2) h9
      have hsm := aN_small a (aK_lt (by omega) h9)
      rw [g1] at hw
      have hi : inR i := by omega
      refine va_last hx hb hK hP hD hS (wPos a) 1 (wW_at hw) rfl (jI_vin (n := aN a) g2 g3 (by omega)) hd (fun H2 locs2 hP2 hD2 hS2 => ?_)
      rw [jI_nat g2 hi, up_jL, wW_set2 hw] at hP2
      exact kk ls H2 locs2 hl hn hP2 hS2 ⟨hc.1, fun j hj => by show _ = jI (up h.2 a _ 999 j); rw [up, if_neg (Ne.symm h9)]; exact hc.2 j hj⟩
    next => cases hs
  case bastore =>
    dsimp only [stp] at hs
    split at hs
    next v i a T =>
      cases hs
      obtain ⟨⟨g1, h9, g2, g3, g4, g5⟩, -⟩ := hg
      unfold mLen at g3
      rw [if_neg h9] at g3
      have hw := wI_arr (by omega : aK a ≤ 2) h9
      have hsm := aN_small a (aK_lt (by omega) h9)
      rw [g1] at hw
      have hi : inR i := by omega
      refine va_zast hx hb hK hP hD hS (wPos a) 2 (wW_at hw) rfl (jI_vin (n := aN a) g2 g3 (by omega)) hd (fun H2 locs2 hP2 hD2 hS2 => ?_)
      rw [jI_nat g2 hi, jI_bool g4 g5, up_jI, wW_set3 hw] at hP2
      exact kk ls H2 locs2 hl hn hP2 hS2 ⟨hc.1, fun j hj => by show _ = jI (up h.2 a _ 999 j); rw [up, if_neg (Ne.symm h9)]; exact hc.2 j hj⟩
    next => cases hs
  case arraylength =>
    dsimp only [stp] at hs
    split at hs
    next a T =>
      cases hs
      have g1 := hg.1
      by_cases h9 : a = 999
      · subst h9
        show W p l e R s m args below meth c H locs cells slots Q (F0 m pc ls (.ref (aA 999) :: T.map (cvV aO aA)))
        rw [hb9]
        refine va_slen hx hb hX hbl hbA hS hd ?_
        have := kk ls H locs hl hn hP hS hc
        unfold mLen at this
        rw [if_pos rfl, hc.1] at this
        rw [jI_len]
        exact this
      · have hw := wI_arr g1 h9
        have := kk ls H locs hl hn hP hS hc
        unfold mLen at this
        rw [if_neg h9] at this
        rcases (by omega : aK a = 0 ∨ aK a = 1 ∨ aK a = 2) with z | z | z <;> rw [z] at hw
        · exact va_alen hx hb hK hP (wPos a) (t0 := 0) (wW_at hw) rfl (jI_len _) hd this
        · exact va_alen hx hb hK hP (wPos a) (t0 := 1) (wW_at hw) rfl (jI_len _) hd this
        · exact va_alen hx hb hK hP (wPos a) (t0 := 2) (wW_at hw) rfl (jI_len _) hd this
    next => cases hs
  case dup =>
    dsimp only [stp] at hs
    split at hs
    · cases hs
      exact lv_dup hx hb hd rfl (kk ls H locs hl hn hP hS hc)
    next v T =>
      cases hs
      rcases v with v | v
      · exact lv_dup hx hb hd rfl (kk ls H locs hl hn hP hS hc)
      · exact lv_dup hx hb hd rfl (kk ls H locs hl hn hP hS hc)
    · cases hs
  case pop =>
    dsimp only [stp] at hs
    split at hs
    · cases hs
      exact lv_pop hx hb hd rfl (kk ls H locs hl hn hP hS hc)
    next v T =>
      cases hs
      rcases v with v | v
      · exact lv_pop hx hb hd rfl (kk ls H locs hl hn hP hS hc)
      · exact lv_pop hx hb hd rfl (kk ls H locs hl hn hP hS hc)
    · cases hs
  case dup2 =>
    dsimp only [stp] at hs
    split at hs
    next x v T =>
      cases hs
      rcases v with v | v
      · exact lv_dup2_11 hx hb hd rfl rfl (kk ls H locs hl hn hP hS hc)
      · exact lv_dup2_11 hx hb hd rfl rfl (kk ls H locs hl hn hP hS hc)
    · cases hs
  case invokestatic i =>
    have hls : c.maxLocals = ls.size := by rw [hml, hl.1, hn]
    dsimp only [stp] at hs
    split at hs
    next =>
      dsimp only at ha
      rw [if_pos rfl] at ha
      obtain ⟨q1, q2⟩ := of_decide_eq_true ha
      split at hs
      next n dp b2 sp a2 =>
        cases hs
        obtain ⟨⟨g1, h9, g2, h92, g3, g4, g5, g6, g7⟩, -⟩ := hg
        have hw1 := wI_arr (by omega : aK a2 ≤ 2) h9
        have hw2 := wI_arr (by omega : aK b2 ≤ 2) h92
        have hs1 := aN_small a2 (aK_lt (by omega) h9)
        have hs2 := aN_small b2 (aK_lt (by omega) h92)
        rw [g1] at hw1
        rw [g2] at hw2
        have i1 : inR n := by omega
        have i2 : inR sp := by omega
        have i3 : inR dp := by omega
        have hlk := hts _ (good_in kA_link rfl)
        rw [← q1, ← q2] at hlk
        refine va_copyi (n0 := aN a2) (n1 := aN b2) hx hb hls hown hlk (hts _ (good_in kA_nat rfl)) (hts _ (good_in kA_stat rfl)) (hts _ (good_in kA_init rfl)) hK hP hD hS (wPos a2) (wPos b2) 0 0 (wW_at hw1) (wW_at hw2) rfl rfl rfl (by rw [← jI_0, jI_lt i2 inR0]; omega) (by rw [← jI_0, jI_lt i3 inR0]; omega) (by rw [← jI_0, jI_lt i1 inR0]; omega) (by rw [jI_nat g4 i2, jI_nat g3 i1]; omega) (by rw [jI_nat g5 i3, jI_nat g3 i1]; omega) (fun _ _ => rfl) hR.1 ?_ hd (fun H2 locs2 hP2 hD2 hS2 => ?_)
        · have : nativeFrameWords "java/lang/System" "arraycopy" 5 = 7 := by decide +kernel
          rw [this]
          have := hR.2.1
          show 0 + (7 + 11) ≤ _
          omega
        · rw [jI_nat g3 i1, jI_nat g4 i2, jI_nat g5 i3, cpy_jI, wW_set1 hw2] at hP2
          exact kk ls H2 locs2 hl hn hP2 hS2 ⟨hc.1, fun j hj => by show _ = jI (up h.2 b2 _ 999 j); rw [up, if_neg (Ne.symm h92)]; exact hc.2 j hj⟩
      next => cases hs
    next =>
      dsimp only at ha
      rw [if_neg (by decide), if_pos (Or.inl rfl)] at ha
      obtain ⟨q, hq, hq2⟩ := List.any_eq_true.mp ha
      obtain ⟨q1, q2, q3⟩ := of_decide_eq_true hq2
      have hlk := hts _ (kX_word hq)
      rw [q1, q2, q3, if_pos rfl] at hlk
      split at hs
      next y2 x2 T =>
        cases hs
        obtain ⟨⟨g1, g2, g3⟩, -⟩ := hg
        refine va_mmax hx hb hls hown hlk (hts _ (good_in kX_st1 rfl)) (hts _ (good_in kX_in rfl)) (hts _ (good_in kX_code1 rfl)) hR.1 (by rw [cv_cats]; have := hR.2.1; omega) hR.2.2.1 hR.2.2.2 hd ?_
        have := kk ls H locs hl hn hP hS hc
        rw [show (if jI x2 < jI y2 then jI y2 else jI x2) = jI (if x2 < y2 then y2 else x2) by simp only [jI_lt g1 g2]; split <;> rfl]
        exact this
      next => cases hs
    next =>
      dsimp only at ha
      rw [if_neg (by decide), if_pos (Or.inr rfl)] at ha
      obtain ⟨q, hq, hq2⟩ := List.any_eq_true.mp ha
      obtain ⟨q1, q2, q3⟩ := of_decide_eq_true hq2
      have hlk := hts _ (kX_word hq)
      rw [q1, q2, q3, if_neg (by decide)] at hlk
      split at hs
      next y2 x2 T =>
        cases hs
        obtain ⟨⟨g1, g2, g3⟩, -⟩ := hg
        refine va_mmin hx hb hls hown hlk (hts _ (good_in kX_st2 rfl)) (hts _ (good_in kX_in rfl)) (hts _ (good_in kX_code2 rfl)) hR.1 (by rw [cv_cats]; have := hR.2.1; omega) hR.2.2.1 hR.2.2.2 hd ?_
        have := kk ls H locs hl hn hP hS hc
        rw [show (if jI y2 < jI x2 then jI y2 else jI x2) = jI (if y2 < x2 then y2 else x2) by simp only [jI_lt g2 g1]; split <;> rfl]
        exact this
      next => cases hs
    next =>
      obtain ⟨_, _, _, _, _, h5⟩ := mCall_out hs
      rcases h5 with ⟨_, _, h5⟩ | ⟨_, _, _, _, _, h5⟩ <;> cases h5
  case invokevirtual i =>
    obtain ⟨_, _, _, _, _, h5⟩ := mCall_out hs
    rcases h5 with ⟨_, _, h5⟩ | ⟨_, _, _, _, _, h5⟩ <;> cases h5
  case ifCond =>
    dsimp only [stp] at hs
    split at hs <;> cases hs
  case if_icmp =>
    dsimp only [stp] at hs
    split at hs <;> cases hs
  case tableswitch =>
    dsimp only [stp] at hs
    split at hs <;> cases hs
  case ireturn =>
    dsimp only [stp] at hs
    split at hs <;> cases hs
  case lreturn =>
    dsimp only [stp] at hs
    split at hs <;> cases hs
  case areturn =>
    dsimp only [stp] at hs
    split at hs <;> cases hs
  case return_ =>
    dsimp only [stp] at hs
    split at hs <;> cases hs
  all_goals (cases hs)
end STEP

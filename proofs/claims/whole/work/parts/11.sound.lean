/-! A WHOLE RUN of the small machine is one of the machine -/
def rDec (M pc : Nat) (r : Option mV) : Prop := match r with
  | none => decode (bN M) pc = .ok (.return_, 1) ∧ rN M = none
  | some (.inl z) => decode (bN M) pc = .ok (.ireturn, 1) ∧ (rN M = some .int ∨ (rN M = some .boolean ∧ 0 ≤ z ∧ z ≤ 1))
  | some (.inr (.inl _)) => decode (bN M) pc = .ok (.lreturn, 1) ∧ rN M = some .long
  | some (.inr (.inr _)) => decode (bN M) pc = .ok (.areturn, 1) ∧ ∃ n, rN M = some (.object n)
section SOUND
variable {p : Program} {l : Launch} {e : Env} {R : Room} {s : State} {m : MethodId} {args : Array Value} {below : List Frame} {meth : Method} {c : Code} {H : Heap} {locs : List Loc} {cells slots : Nat} {Q : State → Prop}
variable {D : va_G} {G : ClassId × ClassId × ClassId} {aO aA : Nat → Nat} {A : Nat → Prop} {b Ls : Nat} {xs : Nat → Int32}
set_option maxHeartbeats 4000000 in
theorem branch_ok {M pc : Nat} {en : mE} {L L2 : mL} {S S2 : List mV} {h h2 : mH} {g k : Prop} {p1 p2 : Nat} {ls : Array Slot} (C : Cx p s m args c M D G aO aA A b Ls xs) (he : pg M pc = some en) (hs : stp en pc L S h = some (.inr (.inl (g, k, p1, p2, L2, S2, h2)))) (hg : g)
    (kt : k → L2 = L → h2 = h → W p l e R s m args below meth c H locs cells slots Q (F0 m p1 ls (S2.map (cvV aO aA)))) (kf : ¬ k → L2 = L → h2 = h → W p l e R s m args below meth c H locs cells slots Q (F0 m p2 ls (S2.map (cvV aO aA)))) :
    W p l e R s m args below meth c H locs cells slots Q (F0 m pc ls (S.map (cvV aO aA))) := by
  obtain ⟨hx, hb, -⟩ := C
  have hck := ck_at he
  have hd := ck_dec hck
  have ha := (Bool.and_eq_true_iff.mp (by unfold ck at hck; exact hck)).2
  obtain ⟨i, x, y, z⟩ := en
  cases i
  case ifCond cnd off =>
    have ht : (pc : Int) + off = (x : Int) := of_decide_eq_true ha
    dsimp only [stp] at hs
    split at hs
    next v T =>
      cases hs
      have kt := fun q => kt q rfl rfl
      have kf := fun q => kf q rfl rfl
      cases cnd
      · exact lv_if_eq hx hb hd ht (fun q => kt ((jI_eq hg inR0).mp q)) (fun q => kf (fun w => q ((jI_eq hg inR0).mpr w)))
      · exact lv_if_ne hx hb hd ht (fun q => kt (fun w => q ((jI_eq hg inR0).mpr w))) (fun q => kf (fun w => w ((jI_eq hg inR0).mp q)))
      · exact lv_if_lt hx hb hd ht (fun q => kt ((jI_lt hg inR0).mp q)) (fun q => kf (fun w => q ((jI_lt hg inR0).mpr w)))
      · exact lv_if_ge hx hb hd ht (fun q => kt ((jI_le inR0 hg).mp q)) (fun q => kf (fun w => q ((jI_le inR0 hg).mpr w)))
      · exact lv_if_gt hx hb hd ht (fun q => kt ((jI_lt inR0 hg).mp q)) (fun q => kf (fun w => q ((jI_lt inR0 hg).mpr w)))
      · exact lv_if_le hx hb hd ht (fun q => kt ((jI_le hg inR0).mp q)) (fun q => kf (fun w => q ((jI_le hg inR0).mpr w)))
    next => cases hs
  case if_icmp cnd off =>
    have ht : (pc : Int) + off = (x : Int) := of_decide_eq_true ha
    dsimp only [stp] at hs
    split at hs
    next v w T =>
      cases hs
      have kt := fun q => kt q rfl rfl
      have kf := fun q => kf q rfl rfl
      obtain ⟨h1, h2⟩ := hg
      cases cnd
      · exact lv_icmp_eq hx hb hd ht (fun q => kt ((jI_eq h1 h2).mp q)) (fun q => kf (fun w => q ((jI_eq h1 h2).mpr w)))
      · exact lv_icmp_ne hx hb hd ht (fun q => kt (fun w => q ((jI_eq h1 h2).mpr w))) (fun q => kf (fun w => w ((jI_eq h1 h2).mp q)))
      · exact lv_icmp_lt hx hb hd ht (fun q => kt ((jI_lt h1 h2).mp q)) (fun q => kf (fun w => q ((jI_lt h1 h2).mpr w)))
      · exact lv_icmp_ge hx hb hd ht (fun q => kt ((jI_le h2 h1).mp q)) (fun q => kf (fun w => q ((jI_le h2 h1).mpr w)))
      · exact lv_icmp_gt hx hb hd ht (fun q => kt ((jI_lt h2 h1).mp q)) (fun q => kf (fun w => q ((jI_lt h2 h1).mpr w)))
      · exact lv_icmp_le hx hb hd ht (fun q => kt ((jI_le h1 h2).mp q)) (fun q => kf (fun w => q ((jI_le h1 h2).mpr w)))
    next => cases hs
  case tableswitch dd lo hi offs =>
    obtain ⟨t1, t2, t3⟩ := of_decide_eq_true ha
    dsimp only [stp] at hs
    split at hs
    next v T =>
      cases hs
      have kt := fun q => kt q rfl rfl
      have kf := fun q => kf q rfl rfl
      obtain ⟨h1, h2, h3⟩ := hg
      rcases Classical.em (v < lo ∨ hi < v) with q | q
      · exact lv_tableOut hx hb hd (by rw [jI_in h1]; exact q) t1 (kt q)
      · have hlt : (v - lo).toNat < offs.size := by omega
        have hget : offs[(v - lo).toNat]? = some offs[(v - lo).toNat] := Array.getElem?_eq_getElem hlt
        have hmem : offs[(v - lo).toNat] ∈ offs.toList := by rw [Array.mem_toList_iff]; exact Array.getElem_mem hlt
        have hD : offs.toList.getD (v - lo).toNat 0 = offs[(v - lo).toNat] := by
          rw [List.getD_eq_getElem?_getD, Array.getElem?_toList, hget]; rfl
        have hnn := t3 _ hmem
        have kf := kf q
        rw [hD] at kf
        exact lv_tableIn hx hb hd (by rw [jI_in h1]; omega) (by rw [jI_in h1]; omega) (off := offs[(v - lo).toNat]) (by rw [jI_in h1]; exact hget) (tgt := ((pc : Int) + offs[(v - lo).toNat]).toNat) (by omega) kf
    next => cases hs
  case getfield =>
    dsimp only [stp] at hs
    split at hs
    · unfold mGet at hs
      split at hs <;> cases hs
    · cases hs
  case putfield =>
    dsimp only [stp] at hs
    split at hs
    · unfold mPutf at hs
      split at hs <;> cases hs
    · cases hs
  case invokevirtual =>
    obtain ⟨_, _, _, _, _, h5⟩ := mCall_out hs
    rcases h5 with ⟨_, _, h5⟩ | ⟨_, _, _, _, _, h5⟩ <;> cases h5
  case invokestatic =>
    dsimp only [stp] at hs
    split at hs
    · split at hs <;> cases hs
    · split at hs <;> cases hs
    · split at hs <;> cases hs
    · obtain ⟨_, _, _, _, _, h5⟩ := mCall_out hs
      rcases h5 with ⟨_, _, h5⟩ | ⟨_, _, _, _, _, h5⟩ <;> cases h5
  all_goals first
    | (rcases mLoad_out hs with ⟨z, hk, hz, hr⟩ | ⟨z, hk, hz, hr⟩ | ⟨z, hk, hz, hr⟩ | ⟨z, hk, hz, hr⟩ <;> cases hr; done)
    | (rcases mStore_out hs with ⟨z, T, rfl, hk, hi, hr⟩ | ⟨z, T, rfl, hk, hi, hr⟩ | ⟨z, T, rfl, hk, hi, hr⟩ | ⟨z, T, rfl, hk, hi, hr⟩ <;> cases hr; done)
    | (cases hs; done)
    | (dsimp only [stp] at hs; split at hs <;> cases hs; done)
set_option maxHeartbeats 4000000 in
theorem end_ok {M pc : Nat} {en : mE} {L : mL} {S : List mV} {h h2 : mH} {g : Option Prop} {v : Option mV} (he : pg M pc = some en) (hs : stp en pc L S h = some (.inr (.inr (.inr (g, v, h2))))) (hg : gd g True) : h2 = h ∧ S = mPush v [] ∧ rDec M pc v := by
  have hck := ck_at he
  have hd := ck_dec hck
  have ha := (Bool.and_eq_true_iff.mp (by unfold ck at hck; exact hck)).2
  obtain ⟨i, x, y, z⟩ := en
  cases i
  case ireturn =>
    dsimp only [stp] at hs
    dsimp only at ha
    split at hs
    next x2 =>
      cases hs
      rw [if_pos rfl] at ha
      exact ⟨rfl, rfl, hd, Or.inl (of_decide_eq_true ha)⟩
    next x2 hz =>
      cases hs
      rw [if_neg hz] at ha
      exact ⟨rfl, rfl, hd, Or.inr ⟨of_decide_eq_true ha, hg.1⟩⟩
    next => cases hs
  case lreturn =>
    dsimp only [stp] at hs
    split at hs
    · cases hs
      exact ⟨rfl, rfl, hd, of_decide_eq_true ha⟩
    · cases hs
  case areturn =>
    dsimp only [stp] at hs
    dsimp only at ha
    split at hs
    · cases hs
      refine ⟨rfl, rfl, hd, ?_⟩
      split at ha
      next n hn => exact ⟨n, hn⟩
      next => cases ha
    · cases hs
  case return_ =>
    dsimp only [stp] at hs
    split at hs
    · cases hs
      exact ⟨rfl, rfl, hd, of_decide_eq_true ha⟩
    · cases hs
  case getfield =>
    dsimp only [stp] at hs
    split at hs
    · unfold mGet at hs
      split at hs <;> cases hs
    · cases hs
  case putfield =>
    dsimp only [stp] at hs
    split at hs
    · unfold mPutf at hs
      split at hs <;> cases hs
    · cases hs
  case invokevirtual =>
    obtain ⟨_, _, _, _, _, h5⟩ := mCall_out hs
    rcases h5 with ⟨_, _, h5⟩ | ⟨_, _, _, _, _, h5⟩ <;> cases h5
  case invokestatic =>
    dsimp only [stp] at hs
    split at hs
    · split at hs <;> cases hs
    · split at hs <;> cases hs
    · split at hs <;> cases hs
    · obtain ⟨_, _, _, _, _, h5⟩ := mCall_out hs
      rcases h5 with ⟨_, _, h5⟩ | ⟨_, _, _, _, _, h5⟩ <;> cases h5
  all_goals first
    | (rcases mLoad_out hs with ⟨z, hk, hz, hr⟩ | ⟨z, hk, hz, hr⟩ | ⟨z, hk, hz, hr⟩ | ⟨z, hk, hz, hr⟩ <;> cases hr; done)
    | (rcases mStore_out hs with ⟨z, T, rfl, hk, hi, hr⟩ | ⟨z, T, rfl, hk, hi, hr⟩ | ⟨z, T, rfl, hk, hi, hr⟩ | ⟨z, T, rfl, hk, hi, hr⟩ <;> cases hr; done)
    | (cases hs; done)
    | (dsimp only [stp] at hs; split at hs <;> cases hs; done)
def sW (k : Nat) : List Cond := Cond.code (yN k) (bN k) (mW k) (rN k) :: lw_good
def sR (d : Nat) : Room := { frames := d + 1, cells := 0, slots := 0, locals := 40 * (d + 1) }
def sB (D : va_G) (G : ClassId × ClassId × ClassId) (aO aA : Nat → Nat) (A : Nat → Prop) (b Ls : Nat) (xs : Nat → Int32) (h : mH) (U : State) : Prop := va_P D vwCl (wW aO aA G h) U.heap ∧ va_K D vwCl (wT G) U ∧ (∀ q ∈ kN, va_Nw (.methodLinkNest (cN q.1) q.2.1 (yN q.2.2.1) "DesignTurns") U) ∧ va_X b Ls xs U U.heap ∧ (∀ q, U.heap.size ≤ q → A q)
def sQ (D : va_G) (G : ClassId × ClassId × ClassId) (aO aA : Nat → Nat) (A : Nat → Prop) (b Ls : Nat) (xs : Nat → Int32) (r : Option mV) (t : mH) : Array Value → State → Outcome → State → Prop := fun _ st oc u => (oc = .returned (r.map (cvV aO aA)) ∧ va_P D vwCl (wW aO aA G t) u.heap ∧ hScr b Ls xs t) ∧ va_F A st u
theorem callX {v : Option Value} {B : State → Prop} {H0 : Heap} {pc : Nat} {ls : Array Slot} {rest st0 : List Value} (hr : va_Run p l e R s m args below meth c H locs cells slots 0 0 (F0 m pc ls st0) rest (fun st oc u => (oc = .returned v ∧ B u) ∧ va_F A st u) A) (hS : va_S A H0 H locs)
    (kk : ∀ (t : State) (H1 : Heap) (locs1 : List Loc), t.heap = H1 → B t → va_S A H0 H1 locs1 → W p l e R s m args below meth c H1 locs1 cells slots Q (F0 m (pc + 3) ls (v.toList ++ rest))) : W p l e R s m args below meth c H locs cells slots Q (F0 m pc ls st0) := by
  intro T hT X
  obtain ⟨v2, st₀, t, T', L, h0, X', hL, e1, e2, ⟨⟨hv, hb⟩, hz, hk⟩, st⟩ := hr T hT X
  cases hv
  rw [h0] at hz hk
  obtain ⟨t2, a1, b1⟩ := kk t T'.heap (locs ++ L) e1.symm hb
    ⟨Nat.le_trans hS.1 (by rw [e1]; exact hz), fun q h1 h2 => by rw [e1, hk q (Nat.lt_of_lt_of_le h1 hS.1) h2]; exact hS.2.1 q h1 h2, fun q hq => by
      rcases List.mem_append.mp hq with h | h
      · exact hS.2.2 q h
      · exact hL q h⟩ T' rfl X'
  exact ⟨t2, st t2 a1, b1⟩
/-- what a run at n gives of the machine, at each place -/
def sOk (l : Launch) (D : va_G) (G : ClassId × ClassId × ClassId) (aO aA : Nat → Nat) (A : Nat → Prop) (b Ls : Nat) (xs : Nat → Int32) (n : Nat) : Prop := ∀ (d M : Nat) (cf : mC) (r : Option mV) (t : mH), run n d M cf r t →
  ∀ (p : Program) (e : Env) (R : Room) (s : State) (m : MethodId) (args : Array Value) (below : List Frame) (meth : Method) (c : Code) (H : Heap) (locs : List Loc) (cells slots : Nat) (Q : State → Prop) (ls : Array Slot),
  Cx p s m args c M D G aO aA A b Ls xs → (d + 1 ≤ R.frames ∧ 40 * (d + 1) ≤ R.locals ∧ cells ≤ R.cells ∧ slots ≤ R.slots) → HL (cvV aO aA) ls cf.2.1 → cf.2.1.length = mW M → va_P D vwCl (wW aO aA G cf.2.2.2) H → va_S A s.heap H locs → hScr b Ls xs cf.2.2.2 →
  (∀ (pc2 : Nat) (ls2 : Array Slot) (H2 : Heap) (locs2 : List Loc), rDec M pc2 r → va_P D vwCl (wW aO aA G t) H2 → va_S A s.heap H2 locs2 → hScr b Ls xs t → W p l e R s m args below meth c H2 locs2 cells slots Q (F0 m pc2 ls2 ((mPush r []).map (cvV aO aA)))) →
  W p l e R s m args below meth c H locs cells slots Q (F0 m cf.1 ls (cf.2.2.1.map (cvV aO aA)))
set_option maxHeartbeats 4000000 in
theorem met_ok {n d k : Nat} {a : List mV} {h t : mH} {r : Option mV} (ih : sOk l D G aO aA A b Ls xs n) (hk : k < 133) (hk2 : 2 ≤ k) (ha : (mFlat a).length ≤ mW k) (hr : run n d k (0, mIn k a, [], h) r t) (hDd : wDd A aO aA) (hbA : ¬ A b) (hb9 : aA 999 = b) (hLs : Ls < 2147483648) (hc : hScr b Ls xs h) :
    Met l (yN k) (sW k) (sR d) (va_Pc (a.map (cvV aO aA)) (fun U => sB D G aO aA A b Ls xs h U ∧ b < U.heap.size)) (sQ D G aO aA A b Ls xs r t) 0 0 A := by
  refine Met.ofW (cc := bN k) (maxL := mW k) (ret := rN k) (ws' := lw_good) (kM_name3 k hk hk2) rfl ?_
  intro p e s m args below meth c s₁ B hml hv
  obtain ⟨rfl, ⟨hP, hK, hN, hX, hA⟩, hbl⟩ := hv
  have hts := atoms_spec (ws := sW k) B.pre
  have hown : s.vm.findClass (yN k).cls = some m.cls := findClass_of_methodNamed B.named
  rw [kM_name k hk] at hown
  rw [lg_entry_eq]
  have hlocks := B.notSynchronized
  have hret := B.returns
  have hx := B.exec
  have hb := B.bytes
  refine ih d k (0, mIn k a, [], h) r t hr p e (sR d) s m _ below meth c s.heap [] 0 0 _ _ ⟨hx, hb, hml, hown, fun w hw => hts w (List.mem_cons_of_mem _ hw), hN, hK, hDd, hA, hX, hbl, hbA, hb9, hLs⟩ ⟨Nat.le_refl _, Nat.le_refl _, Nat.le_refl _, Nat.le_refl _⟩ (HL.entry aO aA ha) (mPad_len _ _ ha) hP va_S.rf hc ?_
  intro pc2 ls2 H2 locs2 hdec hP2 hS2 hct
  rcases r with _ | z | z | z | z
  · exact W.vret hx hb (hret.trans hdec.2) (fun t ht hW => ⟨⟨rfl, by rw [ht]; exact hP2, hct⟩, hS2.F ht⟩) hS2.2.2 hdec.1 hlocks
  · rcases hdec.2 with q | ⟨q, q0, q1⟩
    · exact W.iret hx hb (hret.trans q) (fun t ht hW => ⟨⟨rfl, by rw [ht]; exact hP2, hct⟩, hS2.F ht⟩) hS2.2.2 hdec.1 hlocks
    · exact W.zret hx hb (hret.trans q) (jI_nbool q0 q1) (fun t ht hW => ⟨⟨rfl, by rw [ht]; exact hP2, hct⟩, hS2.F ht⟩) hS2.2.2 hdec.1 hlocks
  · exact W.lret hx hb (hret.trans hdec.2) (fun t ht hW => ⟨⟨rfl, by rw [ht]; exact hP2, hct⟩, hS2.F ht⟩) hS2.2.2 hdec.1 hlocks
  · obtain ⟨nm, q⟩ := hdec.2
    exact W.aret hx hb (hret.trans q) (Or.inl ⟨nm, rfl⟩) (Or.inr ⟨_, rfl⟩) (fun t ht hW => ⟨⟨rfl, by rw [ht]; exact hP2, hct⟩, hS2.F ht⟩) hS2.2.2 hdec.1 hlocks
  · obtain ⟨nm, q⟩ := hdec.2
    exact W.aret hx hb (hret.trans q) (Or.inl ⟨nm, rfl⟩) (Or.inr ⟨_, rfl⟩) (fun t ht hW => ⟨⟨rfl, by rw [ht]; exact hP2, hct⟩, hS2.F ht⟩) hS2.2.2 hdec.1 hlocks
theorem gi_of {X : List Cond} (h : ∀ w ∈ X, w ∈ lw_good) : GoodIn lw_good X := fun w hw => ⟨h w hw, good_of_word (List.mem_filter.mp (h w hw)).2⟩
theorem sW_good {k : Nat} (hk : k < 133) : ∀ w ∈ sW k, w ∈ lw_good := by
  intro w hw
  rcases List.mem_cons.mp hw with rfl | hw
  · exact kM_codeW hk
  · exact hw
theorem run_call {M pc : Nat} {en : mE} {L L2 : mL} {S S2 : List mV} {h h2 : mH} {g : Option Prop} {k pc2 : Nat} {a : List mV} (he : pg M pc = some en) (hs : stp en pc L S h = some (.inr (.inr (.inl (g, k, a, pc2, L2, S2, h2))))) (hg : gd g True) :
    pc2 = pc + 3 ∧ L2 = L ∧ h2 = h ∧ S = a.reverse ++ S2 ∧ mCat S2 ≤ 8 ∧ (mFlat a).length ≤ mW k ∧ a.length = mA k ∧
    ((∃ i q o as, en.1 = .invokevirtual i ∧ decode (bN M) pc = .ok (.invokevirtual i, 3) ∧ q ∈ kV ∧ q.1 = mK M ∧ q.2.1 = i ∧ q.2.2.1 = k ∧ a = vO o :: as ∧ cO o = mK k) ∨
     (∃ i q, en.1 = .invokestatic i ∧ decode (bN M) pc = .ok (.invokestatic i, 3) ∧ (q ∈ kS ∨ q ∈ kN) ∧ q.1 = mK M ∧ q.2.1 = i ∧ q.2.2.1 = k)) := by
  have hck := ck_at he
  have hd := ck_dec hck
  have ha := (Bool.and_eq_true_iff.mp (by unfold ck at hck; exact hck)).2
  obtain ⟨i, x, y, z⟩ := en
  cases i
  case getfield =>
    dsimp only [stp] at hs
    split at hs
    · unfold mGet at hs
      split at hs <;> cases hs
    · cases hs
  case putfield =>
    dsimp only [stp] at hs
    split at hs
    · unfold mPutf at hs
      split at hs <;> cases hs
    · cases hs
  case invokevirtual i =>
    obtain ⟨q, hq, hq2⟩ := List.any_eq_true.mp ha
    obtain ⟨q1, q2, q3⟩ := of_decide_eq_true hq2
    obtain ⟨a2, rest, ht, h1, h2, h5⟩ := mCall_out hs
    obtain ⟨t1, t2⟩ := mTake_all ht
    rcases h5 with ⟨hf, _, h5⟩ | ⟨_, _, o, as, rfl, h5⟩
    · cases hf
    · cases h5
      exact ⟨rfl, rfl, rfl, t1, h1, h2, t2, Or.inl ⟨i, q, o, as, rfl, hd, hq, q1, q2, q3, rfl, hg.1⟩⟩
  case invokestatic i =>
    dsimp only [stp] at hs
    split at hs
    · split at hs <;> cases hs
    · split at hs <;> cases hs
    · split at hs <;> cases hs
    next n1 n2 n3 =>
      dsimp only at ha
      rw [if_neg n1, if_neg (by rintro (w | w); exact n2 w; exact n3 w)] at ha
      obtain ⟨a2, rest, ht, h1, h2, h5⟩ := mCall_out hs
      obtain ⟨t1, t2⟩ := mTake_all ht
      have hq : ∃ q, (q ∈ kS ∨ q ∈ kN) ∧ q.1 = mK M ∧ q.2.1 = i ∧ q.2.2.1 = x := by
        rcases Bool.or_eq_true_iff.mp ha with w | w
        · obtain ⟨q, hq, hq2⟩ := List.any_eq_true.mp w
          exact ⟨q, Or.inl hq, of_decide_eq_true hq2⟩
        · obtain ⟨q, hq, hq2⟩ := List.any_eq_true.mp w
          exact ⟨q, Or.inr hq, of_decide_eq_true hq2⟩
      obtain ⟨q, hq, q1, q2, q3⟩ := hq
      rcases h5 with ⟨_, _, h5⟩ | ⟨hf, _⟩
      · cases h5
        exact ⟨rfl, rfl, rfl, t1, h1, h2, t2, Or.inr ⟨i, q, rfl, hd, hq, q1, q2, q3⟩⟩
      · cases hf
  all_goals first
    | (rcases mLoad_out hs with ⟨z, hk, hz, hr⟩ | ⟨z, hk, hz, hr⟩ | ⟨z, hk, hz, hr⟩ | ⟨z, hk, hz, hr⟩ <;> cases hr; done)
    | (rcases mStore_out hs with ⟨z, T, rfl, hk, hi, hr⟩ | ⟨z, T, rfl, hk, hi, hr⟩ | ⟨z, T, rfl, hk, hi, hr⟩ | ⟨z, T, rfl, hk, hi, hr⟩ <;> cases hr; done)
    | (cases hs; done)
    | (dsimp only [stp] at hs; split at hs <;> cases hs; done)
set_option maxHeartbeats 4000000 in
theorem sound : ∀ n, sOk l D G aO aA A b Ls xs n := by
  intro n
  induction n with
  | zero => intro d M cf r t hr; exact hr.elim
  | succ n ih =>
    intro d M cf r t hr p e R s m args below meth c H locs cells slots Q ls C hR hl hn hP hS hc fin
    unfold run at hr
    split at hr
    next => exact hr.elim
    next en he =>
      split at hr
      next => exact hr.elim
      next g c2 hs =>
        obtain ⟨pc2, L2, S2, h2⟩ := c2
        exact step_ok C he hs (gd_imp hr (fun _ => trivial)) ⟨by omega, by omega, hR.2.2.1, hR.2.2.2⟩ hl hn hP hS hc (fun ls2 H2 locs2 hl2 hn2 hP2 hS2 hc2 => ih d M (pc2, L2, S2, h2) r t (gd_out hr) p e R s m args below meth c H2 locs2 cells slots Q ls2 C hR hl2 hn2 hP2 hS2 hc2 fin)
      next g k p1 p2 L2 S2 h2 hs =>
        refine branch_ok C he hs hr.1 (fun hk e1 e2 => ?_) (fun hk e1 e2 => ?_)
        · subst e1; subst e2
          rcases hr.2 with q | q
          · exact ih d M (p1, cf.2.1, S2, cf.2.2.2) r t q.2 p e R s m args below meth c H locs cells slots Q ls C hR hl hn hP hS hc fin
          · exact absurd hk q.1
        · subst e1; subst e2
          rcases hr.2 with q | q
          · exact absurd q.1 hk
          · exact ih d M (p2, cf.2.1, S2, cf.2.2.2) r t q.2 p e R s m args below meth c H locs cells slots Q ls C hR hl hn hP hS hc fin
      next g k a pc2 L2 S2 h2 hs =>
        have hg := gd_imp hr (fun _ => trivial)
        have hr2 := gd_out hr
        cases d with
        | zero => exact hr2.elim
        | succ d =>
          obtain ⟨r1, h1, hr1, hr3⟩ := hr2
          obtain ⟨e1, e2, e3, hS2, hcat, hfl, hal, hcall⟩ := run_call he hs hg
          subst e1; subst e2; subst e3
          obtain ⟨hx, hb, hml, hown, hts, hnest, hK, hDd, hA, hX, hbl, hbA, hb9, hLs⟩ := id C
          have hk : k < 133 ∧ 2 ≤ k := by
            rcases hcall with ⟨i, q, o, as, -, -, hq, -, -, e, -⟩ | ⟨i, q, -, -, hq, -, -, e⟩
            · have := kV_in q hq
              rw [e] at this
              exact ⟨this.1, this.2.1⟩
            · rcases hq with hq | hq
              · have := kS_in q hq
                rw [e] at this
                exact ⟨this.1, this.2.1⟩
              · have := kN_in q hq
                rw [e] at this
                exact ⟨this.1, this.2.1⟩
          obtain ⟨hk, hk2⟩ := hk
          have hM := met_ok (l := l) (D := D) (G := G) ih hk hk2 hfl hr1 hDd hbA hb9 hLs hc
          have hsB : ∀ U : State, U.heap = H → s.WarmedH U.vm → sB D G aO aA A b Ls xs cf.2.2.2 U ∧ b < U.heap.size := by
            intro U hU hW
            refine ⟨⟨by rw [hU]; exact hP, va_K.moved hW.alike hK, fun q hq => va_Nw.warmM hW (hnest q hq), ?_, ?_⟩, ?_⟩
            · rw [hU]
              exact va_X.moved hW.alike (hX.kept (hS.2.1 b hbl hbA))
            · intro q hq
              rw [hU] at hq
              exact hA q (Nat.le_trans hS.1 hq)
            · rw [hU]
              exact Nat.lt_of_lt_of_le hbl hS.1
          have hblind : FrameBlind (va_Pc (a.map (cvV aO aA)) (fun U => sB D G aO aA A b Ls xs cf.2.2.2 U ∧ b < U.heap.size)) := by
            intro a2 U g2 mk q
            obtain ⟨q1, ⟨q2, q3, q4, q5, q6⟩, q7⟩ := q
            exact ⟨q1, ⟨q2, va_K.moved (u := U) (U := U.calling g2 mk a2) (Vm.Alike.refl U.vm) q3, fun q hq => va_Nw.same rfl (u := U) rfl (q4 q hq), va_X.moved (u := U) (U := U.calling g2 mk a2) (Vm.Alike.refl U.vm) q5, q6⟩, q7⟩
          have hroom : (sR d).frames + 1 ≤ R.frames ∧ 8 + (mW k + 11) + (sR d).locals ≤ R.locals := by
            have hw := kM_loc k hk
            refine ⟨?_, ?_⟩
            · show d + 1 + 1 ≤ _; omega
            · show 8 + (mW k + 11) + 40 * (d + 1) ≤ _; omega
          have hargs := kM_arg k hk
          have hsz : ls.size = mW M := hl.1.trans hn
          have hW8 : 2 * (F0 m cf.1 ls (cf.2.2.1.map (cvV aO aA))).monitorRoom + ((S2.map (cvV aO aA)).map fun v => v.category).sum ≤ 8 := lv_room (by rw [cv_cats]; exact hcat)
          have hgo : ∀ (hrun : va_Run p l e R s m args below meth c H locs cells slots 0 0 (F0 m cf.1 ls (cf.2.2.1.map (cvV aO aA))) (S2.map (cvV aO aA)) (sQ D G aO aA A b Ls xs r1 h1 (a.map (cvV aO aA)).toArray) A), W p l e R s m args below meth c H locs cells slots Q (F0 m cf.1 ls (cf.2.2.1.map (cvV aO aA))) := by
            intro hrun
            refine callX hrun hS (fun t2 H1 locs1 ht hB hS1 => ?_)
            obtain ⟨hP1, hc1⟩ := hB
            rw [ht] at hP1
            have := ih (d + 1) M (cf.1 + 3, cf.2.1, mPush r1 S2, h1) r t hr3 p e R s m args below meth c H1 locs1 cells slots Q ls C hR hl hn hP1 hS1 hc1 fin
            have e : (r1.map (cvV aO aA)).toList ++ S2.map (cvV aO aA) = (mPush r1 S2).map (cvV aO aA) := by cases r1 <;> rfl
            rw [e]
            exact this
          rcases hcall with ⟨i, q, o, as, -, hd, hq, q1, q2, q3, rfl, hco⟩ | ⟨i, q, -, hd, hq, q1, q2, q3⟩
          · have hlk := kV_word hq
            have hst := (kV_in q hq).2.2
            rw [q1, q2, q3] at hlk
            rw [q3] at hst
            have hargs2 := hargs
            rw [if_neg (by rw [hst]; decide)] at hargs2
            have h10 := kM_cls k hk hst
            have ho := wI_obj o (cO_lt hco (by omega))
            rw [hco] at ho
            have hcw : CallW R s args (cN (mK M)) (cN (mK k)) i (yN k) (bN k) (mW k) (rN k) (sW k) (sR d) 0 0 (mA k - 1) := cwV (Ts := lw_good) (mA k - 1) hts (gi_of (by
              intro w hw
              rcases List.mem_append.mp hw with hw | hw
              · simp only [List.mem_cons, List.not_mem_nil, or_false] at hw
                rcases hw with rfl | rfl | rfl | rfl
                · exact hlk
                · exact kM_instW hk hst
                · exact kM_selW hk hst
                · rw [← kM_name k hk]; exact kM_initW hk
              · exact sW_good hk w hw)) rfl rfl rfl ⟨kM_name k hk, kM_name1 k hk, kM_name2 k hk, hargs2⟩ hroom
            exact hgo (va_runV (As := as.map (cvV aO aA)) (rest := S2.map (cvV aO aA)) (Ts := lw_good) ⟨hx, hb, hml, hown, hts⟩ hM hcw ⟨hblind, va_recv hK hP (kC_at (mK k) h10) (wW_at ho), fun U hU hW => ⟨rfl, hsB U hU hW⟩⟩ rfl (by simp at hal ⊢; omega) hsz (by show cf.2.2.1.map (cvV aO aA) = _; rw [hS2]; simp [cvV]) hW8 hd ⟨hR.2.2.1, hR.2.2.2⟩)
          · have hst : mS k = true := by
              rcases hq with hq | hq
              · have := (kS_in q hq).2.2
                rw [q3] at this
                exact this
              · have := (kN_in q hq).2.2
                rw [q3] at this
                exact this
            have hargs2 := hargs
            rw [if_pos hst] at hargs2
            have hpS : PreS s H (va_Pc (a.map (cvV aO aA)) (fun U => sB D G aO aA A b Ls xs cf.2.2.2 U ∧ b < U.heap.size)) (a.map (cvV aO aA)) := ⟨hblind, fun U hU hW => ⟨rfl, hsB U hU hW⟩⟩
            have hstk : (F0 m cf.1 ls (cf.2.2.1.map (cvV aO aA))).stack = (a.map (cvV aO aA)).reverse ++ S2.map (cvV aO aA) := by
              show cf.2.2.1.map (cvV aO aA) = _
              rw [hS2]
              simp
            rcases hq with hq | hq
            · have hlk := kS_word hq
              rw [q1, q2, q3] at hlk
              have hcw := va_cwS (R := R) (s := s) (args := args) (own := cN (mK M)) (index := i) (y := yN k) (bytes := bN k) (maxL := mW k) (ret := rN k) (rm := sR d) (ws := sW k) (mc := 0) (ms := 0) (Ts := lw_good) (mA k) hts (gi_of (by
                intro w hw
                rcases List.mem_append.mp hw with hw | hw
                · simp only [List.mem_cons, List.not_mem_nil, or_false] at hw
                  rcases hw with rfl | rfl | rfl
                  · exact hlk
                  · exact kM_statW hk hst
                  · exact kM_initW hk
                · exact sW_good hk w hw)) rfl rfl rfl ⟨kM_name1 k hk, kM_name2 k hk, hargs2⟩ hroom
              exact hgo (va_runS (As := a.map (cvV aO aA)) (rest := S2.map (cvV aO aA)) (Ts := lw_good) ⟨hx, hb, hml, hown, hts⟩ hM hcw hpS rfl (by simpa using hal) hsz hstk hW8 hd ⟨hR.2.2.1, hR.2.2.2⟩)
            · have hlk := hnest q hq
              rw [q1, q2, q3] at hlk
              have hcw := va_cnB (R := R) (s := s) (args := args) (own := cN (mK M)) (index := i) (y := yN k) (bytes := bN k) (maxL := mW k) (ret := rN k) (rm := sR d) (ws := sW k) (mc := 0) (ms := 0) (Ts := lw_good) (mA k) hts (gi_of (sW_good hk)) rfl rfl rfl hlk (hts _ (kM_initW hk)) ⟨kM_name1 k hk, kM_name2 k hk, hargs2⟩ hroom
              exact hgo (va_runSN (As := a.map (cvV aO aA)) (rest := S2.map (cvV aO aA)) (Ts := lw_good) ⟨hx, hb, hml, hown, hts⟩ hM ⟨hcw, hts _ (kM_statW hk hst), trivial⟩ hpS rfl (by simpa using hal) hsz hstk hW8 hd ⟨hR.2.2.1, hR.2.2.2⟩)
      next g v h2 hs =>
        have hg := gd_imp hr (fun _ => trivial)
        obtain ⟨rfl, rfl⟩ := gd_out hr
        obtain ⟨e1, e2, e3⟩ := end_ok he hs hg
        subst e1
        rw [e2]
        exact fin cf.1 ls H locs e3 hP hS hc
end SOUND

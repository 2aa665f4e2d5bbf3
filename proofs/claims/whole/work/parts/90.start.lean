/-! THE LAW FROM ITS ENTRY: two objects are made, then the loop by the small machine -/
def kIN : List Nat := [130, 98, 69, 113, 82, 168, 58, 140, 50, 594]
theorem kIN_at : ∀ c, c < 10 → lw_tbl[(mNth kIN c).getD 0]? = some (.instantiable (cN c) (cF c)) := by decide +kernel
theorem dL_law_0 : decode code 0 = .ok (.new 7, 3) := by decide +kernel
theorem dL_law_3 : decode code 3 = .ok (.dup, 1) := by decide +kernel
theorem dL_law_4 : decode code 4 = .ok (.invokespecial 9, 3) := by decide +kernel
theorem dL_law_7 : decode code 7 = .ok (.astore_n 1, 1) := by decide +kernel
theorem dL_law_8 : decode code 8 = .ok (.new 10, 3) := by decide +kernel
theorem dL_law_11 : decode code 11 = .ok (.dup, 1) := by decide +kernel
theorem dL_law_12 : decode code 12 = .ok (.invokespecial 12, 3) := by decide +kernel
theorem dL_law_15 : decode code 15 = .ok (.astore_n 2, 1) := by decide +kernel
theorem dL_law_16 : decode code 16 = .ok (.iconst 0, 1) := by decide +kernel
theorem dL_law_17 : decode code 17 = .ok (.istore_n 3, 1) := by decide +kernel
/-! THE CLAIM OUT OF ONE WALK OF THE LAW'S BODY. Your part is whole_start (and what it stands on); all else here is the same for every law, but numbers. -/
def lw_P (b : Addr) (xs : List Int32) (args : Array Value) (s : State) : Prop := args = #[.ref b] ∧ s.IntsAt b xs ∧ xs.length ≤ 2048 ∧ (Jvm.Cond.and given_1 narrow_1).before args s = true
def lw_Q (_ : Array Value) (s : State) (o : Outcome) (t : State) : Prop := o = .returned (some (.int 1)) ∧ Framed s o t [] 600000 7302250
def lw_Z (below : List Frame) (a : Array Value) (s : State) : State → Prop := fun t => ∃ o, t.status = .running ∧ Ended t below o ∧ lw_Q a s o t
/-- the law's own end, with 1 on the stack, nothing written that was there before, its room as the claim has it -/
theorem lw_ret {p : Program} {l : Launch} {e : Env} {s : State} {m : MethodId} {below : List Frame} {meth : Method} {c : Code} {b : Nat} (hx : p.tables.exec = Jvm.exec) (hb : c.code = code) (hr : meth.sig.returnType = ret) (hlocks : meth.locks = false) {pc : Nat} {H : Heap} {ls : Array Slot} (hdg : decode code pc = .ok (.ireturn, 1)) : W p l e room_1 s m #[Value.ref b] below meth c H [] 600000 7302250 (lw_Z below #[Value.ref b] s) (F0 m pc ls [.int 1]) := by
  intro T hT X
  obtain ⟨fs, hret, hrun, hended, hW, hframe⟩ := X.leave (v := some (.int 1)) (hlocks := hlocks) (fun h => by rw [hr] at h; cases h)
  have hmeth' : T.vm.method? m = some meth := X.method'
  refine ⟨T.setFrames fs, ?_, .returned (some (.int 1)), hrun, hended, rfl, ⟨_, rfl⟩, hW, hframe⟩
  jvm_step X.here [X.here.top, hx, hb, hdg, hmeth', hr, ret, narrow_b1]
  (try refine ⟨rfl, ?_⟩); (try refine ⟨rfl, ?_⟩)
  first | (intro acts; rw [hret _ acts rfl rfl rfl]) | rw [hret _ _ rfl rfl rfl]
  exact Steps.refl _
/-- what holds at the law's entry: the machine, the code, the tables' words (any of lw_tbl by 'hts w (by decide +kernel)'), the script of L ints xs at the cell b, what the Statement gives of the start (any of its parts by flat_of_before) -/
def lw_At (p : Program) (s : State) (m : MethodId) (meth : Method) (c : Code) (b L : Nat) (xs : Nat → Int32) : Prop :=
  p.tables.exec = Jvm.exec ∧ c.code = code ∧ meth.sig.returnType = ret ∧ c.maxLocals = 4 ∧ s.vm.findClass R_law = some m.cls ∧ (∀ w ∈ lw_tbl, w.before #[Value.ref b] s = true) ∧ va_X b L xs s s.heap ∧ b < s.heap.size ∧ meth.locks = false ∧ (Jvm.Cond.and given_1 narrow_1).before #[Value.ref b] s = true
def adO (qx xq1 xq3 xq5 xq7 xq10 xq12 xq14 xq17 xq19 xq23 qm : Nat) : Nat → Nat := fun o => (mNth [qx, xq1, xq3, xq5, xq7, xq10, xq12, xq14, xq17, xq19, xq23, qm] o).getD 0
def adA (b xq0 xq2 xq4 xq6 xq8 xq9 xq11 xq13 xq15 xq16 xq18 xq20 xq21 xq22 xq24 mq0 mq1 mq2 mq3 mq4 mq5 mq6 mq7 mq8 mq9 mq10 mq11 mq12 : Nat) : Nat → Nat := fun a => match a with
  | 0 => xq0
  | 16 => xq2
  | 32 => xq4
  | 48 => xq6
  | 64 => xq8
  | 65 => xq9
  | 80 => xq11
  | 96 => xq13
  | 112 => xq15
  | 113 => xq16
  | 128 => xq18
  | 144 => xq20
  | 145 => xq21
  | 146 => xq22
  | 160 => xq24
  | 178 => mq0
  | 179 => mq1
  | 180 => mq2
  | 181 => mq3
  | 182 => mq4
  | 183 => mq5
  | 184 => mq6
  | 185 => mq7
  | 186 => mq8
  | 187 => mq9
  | 188 => mq10
  | 189 => mq11
  | 191 => mq12
  | _ => b
set_option maxHeartbeats 8000000 in
set_option maxRecDepth 100000 in
/-- from the entry, for every script of at most 2048 ints, the law comes to its end with true -/
theorem whole_start {p : Program} {e : Env} {s : State} {m : MethodId} {below : List Frame} {meth : Method} {c : Code} (l : Launch) (hflags : l.flags = flags0) {b L : Nat} {xs : Nat → Int32} (hL : L ≤ 2048) (C0 : lw_At p s m meth c b L xs) : W p l e room_1 s m #[Value.ref b] below meth c s.heap [] 0 0 (lw_Z below #[Value.ref b] s) (entryFrame m ([Value.ref b] : List Value).toArray 4) := by
  obtain ⟨hx, hb, hr, hml, hown, hts0, hX, hbl, hlocks, hgv⟩ := id C0
  have hA : ∀ q : Nat, s.heap.size ≤ q → (fun q : Nat => s.heap.size ≤ q) q := fun _ h => h
  have hbA : ¬ (fun q : Nat => s.heap.size ≤ q) b := Nat.not_le.mpr hbl
  have hts : ∀ w ∈ lw_good, w.before #[Value.ref b] s = true := fun w hw => hts0 w (List.mem_filter.mp hw).1
  have hN : hNI s := fun q hq => va_Nw.of rfl (hts0 _ (List.mem_of_getElem? (kNI_at q hq)))
  have hNest : ∀ q ∈ kN, va_Nw (.methodLinkNest (cN q.1) q.2.1 (yN q.2.2.1) "DesignTurns") s := fun q hq => va_Nw.of rfl (hts0 _ (List.mem_of_getElem? (kN_at q hq)))
  have hkn : ∀ k : Nat, ∃ (cC : ClassId) (iS : Nat → Nat), k < 10 → u_Kn s (cN k) (cT k) (cF k) cC iS := by
    intro k
    by_cases hk : k < 10
    · obtain ⟨cC, iS, h⟩ := u_known hts (kW_words hk) (n := cF k) (hts _ (good_at (kIN_at k hk) rfl))
      exact ⟨cC, iS, fun _ => h⟩
    · exact ⟨0, fun _ => 0, fun h => absurd h hk⟩
  obtain ⟨D1, hD1⟩ : ∃ f : Nat → ClassId, ∀ k, ∃ (iS : Nat → Nat), k < 10 → u_Kn s (cN k) (cT k) (cF k) (f k) iS := ⟨fun k => Classical.choose (hkn k), fun k => Classical.choose_spec (hkn k)⟩
  obtain ⟨D2, hD2⟩ : ∃ f : Nat → Nat → Nat, ∀ k, k < 10 → u_Kn s (cN k) (cT k) (cF k) (D1 k) (f k) := ⟨fun k => Classical.choose (hD1 k), fun k => Classical.choose_spec (hD1 k)⟩
  obtain ⟨gI, hgI⟩ := arr_K (hts _ aC_int) (fun C h => by cases h)
  obtain ⟨gJ, hgJ⟩ := arr_K (hts _ aC_long) (fun C h => by cases h)
  obtain ⟨gZ, hgZ⟩ := arr_K (hts _ aC_boolean) (fun C h => by cases h)
  obtain ⟨D, hDe⟩ : ∃ D : va_G, D = (D1, D2) := ⟨_, rfl⟩
  obtain ⟨G, hGe⟩ : ∃ G : ClassId × ClassId × ClassId, G = (gI, gJ, gZ) := ⟨_, rfl⟩
  have hK : va_K D vwCl (wT G) s := by
    subst hDe; subst hGe
    refine ⟨fun k q hq => ?_, fun k q hq => ?_⟩
    · have hk : k < 10 := (List.getElem?_eq_some_iff.mp hq).1
      have h2 := kC_at k hk
      rw [hq] at h2
      obtain rfl := Option.some.inj h2
      exact hD2 k hk
    · match k, hq with
      | 0, hq => cases hq; exact hgI
      | 1, hq => cases hq; exact hgJ
      | 2, hq => cases hq; exact hgZ
      | k + 3, hq => simp at hq
  have hS : va_S (fun q : Nat => s.heap.size ≤ q) s.heap s.heap [] := va_S.rf
  have hP : va_P D vwCl [] s.heap := fun k q h => by simp at h
  have hD : va_D (fun q : Nat => s.heap.size ≤ q) [] := ⟨fun i j p q h => by simp at h, fun k q h => by simp at h⟩
  have hl := lv_entry ([.ref b]) (n := 4) (Nat.le_of_ble_eq_true rfl)
  rw [lg_entry_eq]
  generalize (lg_sl ([.ref b]) ++ List.replicate (4 - (lg_sl ([.ref b])).length) Slot.unset).toArray = ls at hl ⊢
  have hl : lv_has ls 4 [(0, .ref b)] := hl
  refine va_new (ci := 8) (fs := [.null, .null, .null, .null, .null, .null, .null, .null, .null, .null, .int (jI 0)]) (C := RX8) (T := TX8) (N := 11) hx hb hts (fun w hw => kW_words (c := 8) (by decide) w hw) tyX8 tyX8_ok hown (hts _ (gW (i := 49) (w := .classLink R_law 7 RX8) rfl rfl)) (hts _ (gW (i := 50) (w := .instantiable RX8 11) rfl rfl)) (hts _ (gW (i := 36) (w := .initialized RX8) rfl rfl)) hK hP hD hS hA rfl (fun j hj => by rcases (show j = 0 ∨ j = 1 ∨ j = 2 ∨ j = 3 ∨ j = 4 ∨ j = 5 ∨ j = 6 ∨ j = 7 ∨ j = 8 ∨ j = 9 ∨ j = 10 by omega) with rfl | rfl | rfl | rfl | rfl | rfl | rfl | rfl | rfl | rfl | rfl <;> rfl) (Nat.le_of_ble_eq_true rfl) (Nat.le_of_ble_eq_true rfl) dL_law_0 (fun qx H hP hD hS => ?_)
  have hP : va_P D vwCl [(qx, .inr (8, [.null, .null, .null, .null, .null, .null, .null, .null, .null, .null, .int (jI 0)]))] H := hP
  have hD : va_D (fun q : Nat => s.heap.size ≤ q) [(qx, .inr (8, [.null, .null, .null, .null, .null, .null, .null, .null, .null, .null, .int (jI 0)]))] := hD
  refine lv_dup hx hb dL_law_3 rfl ?_
  have hPc := hP.sub (ws' := [(qx, .inr (8, [.null, .null, .null, .null, .null, .null, .null, .null, .null, .null, .int (jI 0)]))]) [0] rfl
  have hDc := hD.sub (ws' := [(qx, .inr (8, [.null, .null, .null, .null, .null, .null, .null, .null, .null, .null, .int (jI 0)]))]) [0] (by decide) rfl
  have hFc := va_free (wc := [(qx, .inr (8, [.null, .null, .null, .null, .null, .null, .null, .null, .null, .null, .int (jI 0)]))]) hD hS hA [0] rfl
  refine va_callv (va_runI (As := []) (rest := [.ref qx]) ⟨hx, hb, hml, hown, hts⟩ (cc_X8 l D G qx H.size) (cwI (ws := sI 8) 0 hts (gi_of (sI_good 8 (by decide))) rfl rfl rfl (hts _ (gW (i := 36) (w := .initialized RX8) rfl rfl)) (hts _ (gW (i := 51) (w := .methodLink R_law 9 yX8_init) rfl rfl)) (hts _ (gW (i := 52) (w := .instanceMethod yX8_init) rfl rfl)) rfl ⟨by decide, by decide, by decide +kernel⟩ ⟨Nat.le_of_ble_eq_true rfl, Nat.le_of_ble_eq_true rfl⟩) ⟨hblI, fun U hU hW => ⟨rfl, by rw [hU], by rw [hU]; exact hPc, va_K.moved hW.alike hK, fun q hq => va_Nw.warmM hW (hN q hq), hDc.weaken (fun _ _ _ _ => trivial)⟩⟩ rfl rfl hl.1 rfl (lv_room (Nat.le_of_ble_eq_true rfl)) dL_law_4 ⟨Nat.le_of_ble_eq_true rfl, Nat.le_of_ble_eq_true rfl⟩) hS (fun q _ h => hFc q h) hFc (fun u t H1 locs ht hvm hw hB hz1 hk1 hS => ?_)
  obtain ⟨xq0, xq1, xq2, xq3, xq4, xq5, xq6, xq7, xq8, xq9, xq10, xq11, xq12, xq13, xq14, xq15, xq16, xq17, xq18, xq19, xq20, xq21, xq22, xq23, xq24, hP1, hD1⟩ := hB
  rw [ht] at hP1
  obtain ⟨hP, hD⟩ := va_join (wr := []) (w1 := [(qx, .inr (8, [.ref xq0, .ref xq1, .ref xq3, .ref xq5, .ref xq7, .ref xq10, .ref xq14, .ref xq17, .ref xq19, .ref xq23, .int (jI 0)])), (xq0, .inl (G.1, 8, .inl (fun i => jI ((fun _ => 0 : Nat → Int) i)))), (xq1, .inr (6, [.ref xq2])), (xq2, .inl (G.1, 64, .inl (fun i => jI ((fun _ => 0 : Nat → Int) i)))), (xq3, .inr (6, [.ref xq4])), (xq4, .inl (G.1, 64, .inl (fun i => jI ((fun _ => 0 : Nat → Int) i)))), (xq5, .inr (2, [.ref xq6, .int (jI 0)])), (xq6, .inl (G.1, 8, .inl (fun i => jI ((fun _ => 0 : Nat → Int) i)))), (xq7, .inr (4, [.ref xq8, .ref xq9, .int (jI 0)])), (xq8, .inl (G.1, 8, .inl (fun i => jI ((fun _ => 0 : Nat → Int) i)))), (xq9, .inl (G.1, 8, .inl (fun i => jI ((fun _ => 0 : Nat → Int) i)))), (xq10, .inr (1, [.ref xq11, .ref xq12])), (xq11, .inl (G.1, 256, .inl (fun i => jI ((fun _ => 0 : Nat → Int) i)))), (xq12, .inr (2, [.ref xq13, .int (jI 0)])), (xq13, .inl (G.1, 8, .inl (fun i => jI ((fun _ => 0 : Nat → Int) i)))), (xq14, .inr (3, [.ref xq15, .ref xq16, .long (jL 1)])), (xq15, .inl (G.2.1, 8, .inr (.inl (fun i => jL ((fun _ => 0 : Nat → Int) i))))), (xq16, .inl (G.1, 8, .inl (fun i => jI ((fun _ => 0 : Nat → Int) i)))), (xq17, .inr (0, [.ref xq18])), (xq18, .inl (G.1, 8, .inl (fun i => jI ((fun _ => 0 : Nat → Int) i)))), (xq19, .inr (7, [.ref xq20, .ref xq21, .ref xq22, .int (jI 0), .int (jI 0), .int (jI 0), .int (jI 0)])), (xq20, .inl (G.1, 8, .inl (fun i => jI ((fun _ => 0 : Nat → Int) i)))), (xq21, .inl (G.1, 8, .inl (fun i => jI ((fun _ => 0 : Nat → Int) i)))), (xq22, .inl (G.1, 8, .inl (fun i => jI ((fun _ => 0 : Nat → Int) i)))), (xq23, .inr (5, [.ref xq24, .int (jI 0)])), (xq24, .inl (G.1, 8, .inl (fun i => jI ((fun _ => 0 : Nat → Int) i))))]) hP hD [0] [] rfl rfl (by decide) (by decide) hk1 hFc hP1 hD1
  generalize H1 = H at hP hS ⊢
  have hP : va_P D vwCl [(qx, .inr (8, [.ref xq0, .ref xq1, .ref xq3, .ref xq5, .ref xq7, .ref xq10, .ref xq14, .ref xq17, .ref xq19, .ref xq23, .int (jI 0)])), (xq0, .inl (G.1, 8, .inl (fun i => jI ((fun _ => 0 : Nat → Int) i)))), (xq1, .inr (6, [.ref xq2])), (xq2, .inl (G.1, 64, .inl (fun i => jI ((fun _ => 0 : Nat → Int) i)))), (xq3, .inr (6, [.ref xq4])), (xq4, .inl (G.1, 64, .inl (fun i => jI ((fun _ => 0 : Nat → Int) i)))), (xq5, .inr (2, [.ref xq6, .int (jI 0)])), (xq6, .inl (G.1, 8, .inl (fun i => jI ((fun _ => 0 : Nat → Int) i)))), (xq7, .inr (4, [.ref xq8, .ref xq9, .int (jI 0)])), (xq8, .inl (G.1, 8, .inl (fun i => jI ((fun _ => 0 : Nat → Int) i)))), (xq9, .inl (G.1, 8, .inl (fun i => jI ((fun _ => 0 : Nat → Int) i)))), (xq10, .inr (1, [.ref xq11, .ref xq12])), (xq11, .inl (G.1, 256, .inl (fun i => jI ((fun _ => 0 : Nat → Int) i)))), (xq12, .inr (2, [.ref xq13, .int (jI 0)])), (xq13, .inl (G.1, 8, .inl (fun i => jI ((fun _ => 0 : Nat → Int) i)))), (xq14, .inr (3, [.ref xq15, .ref xq16, .long (jL 1)])), (xq15, .inl (G.2.1, 8, .inr (.inl (fun i => jL ((fun _ => 0 : Nat → Int) i))))), (xq16, .inl (G.1, 8, .inl (fun i => jI ((fun _ => 0 : Nat → Int) i)))), (xq17, .inr (0, [.ref xq18])), (xq18, .inl (G.1, 8, .inl (fun i => jI ((fun _ => 0 : Nat → Int) i)))), (xq19, .inr (7, [.ref xq20, .ref xq21, .ref xq22, .int (jI 0), .int (jI 0), .int (jI 0), .int (jI 0)])), (xq20, .inl (G.1, 8, .inl (fun i => jI ((fun _ => 0 : Nat → Int) i)))), (xq21, .inl (G.1, 8, .inl (fun i => jI ((fun _ => 0 : Nat → Int) i)))), (xq22, .inl (G.1, 8, .inl (fun i => jI ((fun _ => 0 : Nat → Int) i)))), (xq23, .inr (5, [.ref xq24, .int (jI 0)])), (xq24, .inl (G.1, 8, .inl (fun i => jI ((fun _ => 0 : Nat → Int) i))))] H := hP
  have hD : va_D (fun q : Nat => s.heap.size ≤ q) [(qx, .inr (8, [.ref xq0, .ref xq1, .ref xq3, .ref xq5, .ref xq7, .ref xq10, .ref xq14, .ref xq17, .ref xq19, .ref xq23, .int (jI 0)])), (xq0, .inl (G.1, 8, .inl (fun i => jI ((fun _ => 0 : Nat → Int) i)))), (xq1, .inr (6, [.ref xq2])), (xq2, .inl (G.1, 64, .inl (fun i => jI ((fun _ => 0 : Nat → Int) i)))), (xq3, .inr (6, [.ref xq4])), (xq4, .inl (G.1, 64, .inl (fun i => jI ((fun _ => 0 : Nat → Int) i)))), (xq5, .inr (2, [.ref xq6, .int (jI 0)])), (xq6, .inl (G.1, 8, .inl (fun i => jI ((fun _ => 0 : Nat → Int) i)))), (xq7, .inr (4, [.ref xq8, .ref xq9, .int (jI 0)])), (xq8, .inl (G.1, 8, .inl (fun i => jI ((fun _ => 0 : Nat → Int) i)))), (xq9, .inl (G.1, 8, .inl (fun i => jI ((fun _ => 0 : Nat → Int) i)))), (xq10, .inr (1, [.ref xq11, .ref xq12])), (xq11, .inl (G.1, 256, .inl (fun i => jI ((fun _ => 0 : Nat → Int) i)))), (xq12, .inr (2, [.ref xq13, .int (jI 0)])), (xq13, .inl (G.1, 8, .inl (fun i => jI ((fun _ => 0 : Nat → Int) i)))), (xq14, .inr (3, [.ref xq15, .ref xq16, .long (jL 1)])), (xq15, .inl (G.2.1, 8, .inr (.inl (fun i => jL ((fun _ => 0 : Nat → Int) i))))), (xq16, .inl (G.1, 8, .inl (fun i => jI ((fun _ => 0 : Nat → Int) i)))), (xq17, .inr (0, [.ref xq18])), (xq18, .inl (G.1, 8, .inl (fun i => jI ((fun _ => 0 : Nat → Int) i)))), (xq19, .inr (7, [.ref xq20, .ref xq21, .ref xq22, .int (jI 0), .int (jI 0), .int (jI 0), .int (jI 0)])), (xq20, .inl (G.1, 8, .inl (fun i => jI ((fun _ => 0 : Nat → Int) i)))), (xq21, .inl (G.1, 8, .inl (fun i => jI ((fun _ => 0 : Nat → Int) i)))), (xq22, .inl (G.1, 8, .inl (fun i => jI ((fun _ => 0 : Nat → Int) i)))), (xq23, .inr (5, [.ref xq24, .int (jI 0)])), (xq24, .inl (G.1, 8, .inl (fun i => jI ((fun _ => 0 : Nat → Int) i))))] := hD
  refine lv_astore_n (lv' := [(1, .ref qx), (0, .ref b)]) hx hb dL_law_7 rfl hl (by decide) rfl (fun ls hl => ?_)
  refine va_new (ci := 9) (fs := [.int (jI 0), .int (jI 0), .null, .null, .null, .null, .null, .null, .null, .null, .null, .null, .null, .null, .int (jI 0), .null]) (C := RX9) (T := TX9) (N := 16) hx hb hts (fun w hw => kW_words (c := 9) (by decide) w hw) tyX9 tyX9_ok hown (hts _ (gW (i := 593) (w := .classLink R_law 10 RX9) rfl rfl)) (hts _ (gW (i := 594) (w := .instantiable RX9 16) rfl rfl)) (hts _ (gW (i := 45) (w := .initialized RX9) rfl rfl)) hK hP hD hS hA rfl (fun j hj => by rcases (show j = 0 ∨ j = 1 ∨ j = 2 ∨ j = 3 ∨ j = 4 ∨ j = 5 ∨ j = 6 ∨ j = 7 ∨ j = 8 ∨ j = 9 ∨ j = 10 ∨ j = 11 ∨ j = 12 ∨ j = 13 ∨ j = 14 ∨ j = 15 by omega) with rfl | rfl | rfl | rfl | rfl | rfl | rfl | rfl | rfl | rfl | rfl | rfl | rfl | rfl | rfl | rfl <;> rfl) (Nat.le_of_ble_eq_true rfl) (Nat.le_of_ble_eq_true rfl) dL_law_8 (fun qm H hP hD hS => ?_)
  have hP : va_P D vwCl [(qx, .inr (8, [.ref xq0, .ref xq1, .ref xq3, .ref xq5, .ref xq7, .ref xq10, .ref xq14, .ref xq17, .ref xq19, .ref xq23, .int (jI 0)])), (xq0, .inl (G.1, 8, .inl (fun i => jI ((fun _ => 0 : Nat → Int) i)))), (xq1, .inr (6, [.ref xq2])), (xq2, .inl (G.1, 64, .inl (fun i => jI ((fun _ => 0 : Nat → Int) i)))), (xq3, .inr (6, [.ref xq4])), (xq4, .inl (G.1, 64, .inl (fun i => jI ((fun _ => 0 : Nat → Int) i)))), (xq5, .inr (2, [.ref xq6, .int (jI 0)])), (xq6, .inl (G.1, 8, .inl (fun i => jI ((fun _ => 0 : Nat → Int) i)))), (xq7, .inr (4, [.ref xq8, .ref xq9, .int (jI 0)])), (xq8, .inl (G.1, 8, .inl (fun i => jI ((fun _ => 0 : Nat → Int) i)))), (xq9, .inl (G.1, 8, .inl (fun i => jI ((fun _ => 0 : Nat → Int) i)))), (xq10, .inr (1, [.ref xq11, .ref xq12])), (xq11, .inl (G.1, 256, .inl (fun i => jI ((fun _ => 0 : Nat → Int) i)))), (xq12, .inr (2, [.ref xq13, .int (jI 0)])), (xq13, .inl (G.1, 8, .inl (fun i => jI ((fun _ => 0 : Nat → Int) i)))), (xq14, .inr (3, [.ref xq15, .ref xq16, .long (jL 1)])), (xq15, .inl (G.2.1, 8, .inr (.inl (fun i => jL ((fun _ => 0 : Nat → Int) i))))), (xq16, .inl (G.1, 8, .inl (fun i => jI ((fun _ => 0 : Nat → Int) i)))), (xq17, .inr (0, [.ref xq18])), (xq18, .inl (G.1, 8, .inl (fun i => jI ((fun _ => 0 : Nat → Int) i)))), (xq19, .inr (7, [.ref xq20, .ref xq21, .ref xq22, .int (jI 0), .int (jI 0), .int (jI 0), .int (jI 0)])), (xq20, .inl (G.1, 8, .inl (fun i => jI ((fun _ => 0 : Nat → Int) i)))), (xq21, .inl (G.1, 8, .inl (fun i => jI ((fun _ => 0 : Nat → Int) i)))), (xq22, .inl (G.1, 8, .inl (fun i => jI ((fun _ => 0 : Nat → Int) i)))), (xq23, .inr (5, [.ref xq24, .int (jI 0)])), (xq24, .inl (G.1, 8, .inl (fun i => jI ((fun _ => 0 : Nat → Int) i)))), (qm, .inr (9, [.int (jI 0), .int (jI 0), .null, .null, .null, .null, .null, .null, .null, .null, .null, .null, .null, .null, .int (jI 0), .null]))] H := hP
  have hD : va_D (fun q : Nat => s.heap.size ≤ q) [(qx, .inr (8, [.ref xq0, .ref xq1, .ref xq3, .ref xq5, .ref xq7, .ref xq10, .ref xq14, .ref xq17, .ref xq19, .ref xq23, .int (jI 0)])), (xq0, .inl (G.1, 8, .inl (fun i => jI ((fun _ => 0 : Nat → Int) i)))), (xq1, .inr (6, [.ref xq2])), (xq2, .inl (G.1, 64, .inl (fun i => jI ((fun _ => 0 : Nat → Int) i)))), (xq3, .inr (6, [.ref xq4])), (xq4, .inl (G.1, 64, .inl (fun i => jI ((fun _ => 0 : Nat → Int) i)))), (xq5, .inr (2, [.ref xq6, .int (jI 0)])), (xq6, .inl (G.1, 8, .inl (fun i => jI ((fun _ => 0 : Nat → Int) i)))), (xq7, .inr (4, [.ref xq8, .ref xq9, .int (jI 0)])), (xq8, .inl (G.1, 8, .inl (fun i => jI ((fun _ => 0 : Nat → Int) i)))), (xq9, .inl (G.1, 8, .inl (fun i => jI ((fun _ => 0 : Nat → Int) i)))), (xq10, .inr (1, [.ref xq11, .ref xq12])), (xq11, .inl (G.1, 256, .inl (fun i => jI ((fun _ => 0 : Nat → Int) i)))), (xq12, .inr (2, [.ref xq13, .int (jI 0)])), (xq13, .inl (G.1, 8, .inl (fun i => jI ((fun _ => 0 : Nat → Int) i)))), (xq14, .inr (3, [.ref xq15, .ref xq16, .long (jL 1)])), (xq15, .inl (G.2.1, 8, .inr (.inl (fun i => jL ((fun _ => 0 : Nat → Int) i))))), (xq16, .inl (G.1, 8, .inl (fun i => jI ((fun _ => 0 : Nat → Int) i)))), (xq17, .inr (0, [.ref xq18])), (xq18, .inl (G.1, 8, .inl (fun i => jI ((fun _ => 0 : Nat → Int) i)))), (xq19, .inr (7, [.ref xq20, .ref xq21, .ref xq22, .int (jI 0), .int (jI 0), .int (jI 0), .int (jI 0)])), (xq20, .inl (G.1, 8, .inl (fun i => jI ((fun _ => 0 : Nat → Int) i)))), (xq21, .inl (G.1, 8, .inl (fun i => jI ((fun _ => 0 : Nat → Int) i)))), (xq22, .inl (G.1, 8, .inl (fun i => jI ((fun _ => 0 : Nat → Int) i)))), (xq23, .inr (5, [.ref xq24, .int (jI 0)])), (xq24, .inl (G.1, 8, .inl (fun i => jI ((fun _ => 0 : Nat → Int) i)))), (qm, .inr (9, [.int (jI 0), .int (jI 0), .null, .null, .null, .null, .null, .null, .null, .null, .null, .null, .null, .null, .int (jI 0), .null]))] := hD
  refine lv_dup hx hb dL_law_11 rfl ?_
  have hPc := hP.sub (ws' := [(qm, .inr (9, [.int (jI 0), .int (jI 0), .null, .null, .null, .null, .null, .null, .null, .null, .null, .null, .null, .null, .int (jI 0), .null]))]) [26] rfl
  have hDc := hD.sub (ws' := [(qm, .inr (9, [.int (jI 0), .int (jI 0), .null, .null, .null, .null, .null, .null, .null, .null, .null, .null, .null, .null, .int (jI 0), .null]))]) [26] (by decide) rfl
  have hFc := va_free (wc := [(qm, .inr (9, [.int (jI 0), .int (jI 0), .null, .null, .null, .null, .null, .null, .null, .null, .null, .null, .null, .null, .int (jI 0), .null]))]) hD hS hA [26] rfl
  refine va_callv (va_runI (As := []) (rest := [.ref qm]) ⟨hx, hb, hml, hown, hts⟩ (cc_X9 l D G qm H.size) (cwI (ws := sI 9) 0 hts (gi_of (sI_good 9 (by decide))) rfl rfl rfl (hts _ (gW (i := 45) (w := .initialized RX9) rfl rfl)) (hts _ (gW (i := 595) (w := .methodLink R_law 12 yX9_init) rfl rfl)) (hts _ (gW (i := 596) (w := .instanceMethod yX9_init) rfl rfl)) rfl ⟨by decide, by decide, by decide +kernel⟩ ⟨Nat.le_of_ble_eq_true rfl, Nat.le_of_ble_eq_true rfl⟩) ⟨hblI, fun U hU hW => ⟨rfl, by rw [hU], by rw [hU]; exact hPc, va_K.moved hW.alike hK, fun q hq => va_Nw.warmM hW (hN q hq), hDc.weaken (fun _ _ _ _ => trivial)⟩⟩ rfl rfl hl.1 rfl (lv_room (Nat.le_of_ble_eq_true rfl)) dL_law_12 ⟨Nat.le_of_ble_eq_true rfl, Nat.le_of_ble_eq_true rfl⟩) hS (fun q _ h => hFc q h) hFc (fun u t H1 locs ht hvm hw hB hz1 hk1 hS => ?_)
  obtain ⟨mq0, mq1, mq2, mq3, mq4, mq5, mq6, mq7, mq8, mq9, mq10, mq11, mq12, hP1, hD1⟩ := hB
  rw [ht] at hP1
  obtain ⟨hP, hD⟩ := va_join (wr := [(qx, .inr (8, [.ref xq0, .ref xq1, .ref xq3, .ref xq5, .ref xq7, .ref xq10, .ref xq14, .ref xq17, .ref xq19, .ref xq23, .int (jI 0)])), (xq0, .inl (G.1, 8, .inl (fun i => jI ((fun _ => 0 : Nat → Int) i)))), (xq1, .inr (6, [.ref xq2])), (xq2, .inl (G.1, 64, .inl (fun i => jI ((fun _ => 0 : Nat → Int) i)))), (xq3, .inr (6, [.ref xq4])), (xq4, .inl (G.1, 64, .inl (fun i => jI ((fun _ => 0 : Nat → Int) i)))), (xq5, .inr (2, [.ref xq6, .int (jI 0)])), (xq6, .inl (G.1, 8, .inl (fun i => jI ((fun _ => 0 : Nat → Int) i)))), (xq7, .inr (4, [.ref xq8, .ref xq9, .int (jI 0)])), (xq8, .inl (G.1, 8, .inl (fun i => jI ((fun _ => 0 : Nat → Int) i)))), (xq9, .inl (G.1, 8, .inl (fun i => jI ((fun _ => 0 : Nat → Int) i)))), (xq10, .inr (1, [.ref xq11, .ref xq12])), (xq11, .inl (G.1, 256, .inl (fun i => jI ((fun _ => 0 : Nat → Int) i)))), (xq12, .inr (2, [.ref xq13, .int (jI 0)])), (xq13, .inl (G.1, 8, .inl (fun i => jI ((fun _ => 0 : Nat → Int) i)))), (xq14, .inr (3, [.ref xq15, .ref xq16, .long (jL 1)])), (xq15, .inl (G.2.1, 8, .inr (.inl (fun i => jL ((fun _ => 0 : Nat → Int) i))))), (xq16, .inl (G.1, 8, .inl (fun i => jI ((fun _ => 0 : Nat → Int) i)))), (xq17, .inr (0, [.ref xq18])), (xq18, .inl (G.1, 8, .inl (fun i => jI ((fun _ => 0 : Nat → Int) i)))), (xq19, .inr (7, [.ref xq20, .ref xq21, .ref xq22, .int (jI 0), .int (jI 0), .int (jI 0), .int (jI 0)])), (xq20, .inl (G.1, 8, .inl (fun i => jI ((fun _ => 0 : Nat → Int) i)))), (xq21, .inl (G.1, 8, .inl (fun i => jI ((fun _ => 0 : Nat → Int) i)))), (xq22, .inl (G.1, 8, .inl (fun i => jI ((fun _ => 0 : Nat → Int) i)))), (xq23, .inr (5, [.ref xq24, .int (jI 0)])), (xq24, .inl (G.1, 8, .inl (fun i => jI ((fun _ => 0 : Nat → Int) i))))]) (w1 := [(qm, .inr (9, [.int (jI 0), .int (jI 0), .ref mq0, .ref mq1, .ref mq2, .ref mq3, .ref mq4, .ref mq5, .ref mq6, .ref mq7, .ref mq8, .ref mq9, .ref mq10, .ref mq11, .int (jI 0), .ref mq12])), (mq0, .inl (G.1, 8, .inl (fun i => jI ((fun _ => 0 : Nat → Int) i)))), (mq1, .inl (G.1, 64, .inl (fun i => jI ((fun _ => 0 : Nat → Int) i)))), (mq2, .inl (G.1, 64, .inl (fun i => jI ((fun _ => 0 : Nat → Int) i)))), (mq3, .inl (G.1, 8, .inl (fun i => jI ((fun _ => 0 : Nat → Int) i)))), (mq4, .inl (G.1, 256, .inl (fun i => jI ((fun _ => 0 : Nat → Int) i)))), (mq5, .inl (G.2.2, 64, .inl (fun i => jI ((fun _ => 0 : Nat → Int) i)))), (mq6, .inl (G.1, 8, .inl (fun i => jI ((fun _ => 0 : Nat → Int) i)))), (mq7, .inl (G.2.1, 8, .inr (.inl (fun i => jL ((fun _ => 0 : Nat → Int) i))))), (mq8, .inl (G.2.1, 9, .inr (.inl (fun i => jL ((fun _ => 0 : Nat → Int) i))))), (mq9, .inl (G.1, 8, .inl (fun i => jI ((fun _ => 0 : Nat → Int) i)))), (mq10, .inl (G.1, 8, .inl (fun i => jI ((fun _ => 0 : Nat → Int) i)))), (mq11, .inl (G.1, 8, .inl (fun i => jI ((fun _ => 0 : Nat → Int) i)))), (mq12, .inl (G.2.1, 8, .inr (.inl (fun i => jL ((fun _ => 0 : Nat → Int) i)))))]) hP hD [26] [0, 1, 2, 3, 4, 5, 6, 7, 8, 9, 10, 11, 12, 13, 14, 15, 16, 17, 18, 19, 20, 21, 22, 23, 24, 25] rfl rfl (by decide) (by decide) hk1 hFc hP1 hD1
  generalize H1 = H at hP hS ⊢
  have hP : va_P D vwCl [(qx, .inr (8, [.ref xq0, .ref xq1, .ref xq3, .ref xq5, .ref xq7, .ref xq10, .ref xq14, .ref xq17, .ref xq19, .ref xq23, .int (jI 0)])), (xq0, .inl (G.1, 8, .inl (fun i => jI ((fun _ => 0 : Nat → Int) i)))), (xq1, .inr (6, [.ref xq2])), (xq2, .inl (G.1, 64, .inl (fun i => jI ((fun _ => 0 : Nat → Int) i)))), (xq3, .inr (6, [.ref xq4])), (xq4, .inl (G.1, 64, .inl (fun i => jI ((fun _ => 0 : Nat → Int) i)))), (xq5, .inr (2, [.ref xq6, .int (jI 0)])), (xq6, .inl (G.1, 8, .inl (fun i => jI ((fun _ => 0 : Nat → Int) i)))), (xq7, .inr (4, [.ref xq8, .ref xq9, .int (jI 0)])), (xq8, .inl (G.1, 8, .inl (fun i => jI ((fun _ => 0 : Nat → Int) i)))), (xq9, .inl (G.1, 8, .inl (fun i => jI ((fun _ => 0 : Nat → Int) i)))), (xq10, .inr (1, [.ref xq11, .ref xq12])), (xq11, .inl (G.1, 256, .inl (fun i => jI ((fun _ => 0 : Nat → Int) i)))), (xq12, .inr (2, [.ref xq13, .int (jI 0)])), (xq13, .inl (G.1, 8, .inl (fun i => jI ((fun _ => 0 : Nat → Int) i)))), (xq14, .inr (3, [.ref xq15, .ref xq16, .long (jL 1)])), (xq15, .inl (G.2.1, 8, .inr (.inl (fun i => jL ((fun _ => 0 : Nat → Int) i))))), (xq16, .inl (G.1, 8, .inl (fun i => jI ((fun _ => 0 : Nat → Int) i)))), (xq17, .inr (0, [.ref xq18])), (xq18, .inl (G.1, 8, .inl (fun i => jI ((fun _ => 0 : Nat → Int) i)))), (xq19, .inr (7, [.ref xq20, .ref xq21, .ref xq22, .int (jI 0), .int (jI 0), .int (jI 0), .int (jI 0)])), (xq20, .inl (G.1, 8, .inl (fun i => jI ((fun _ => 0 : Nat → Int) i)))), (xq21, .inl (G.1, 8, .inl (fun i => jI ((fun _ => 0 : Nat → Int) i)))), (xq22, .inl (G.1, 8, .inl (fun i => jI ((fun _ => 0 : Nat → Int) i)))), (xq23, .inr (5, [.ref xq24, .int (jI 0)])), (xq24, .inl (G.1, 8, .inl (fun i => jI ((fun _ => 0 : Nat → Int) i)))), (qm, .inr (9, [.int (jI 0), .int (jI 0), .ref mq0, .ref mq1, .ref mq2, .ref mq3, .ref mq4, .ref mq5, .ref mq6, .ref mq7, .ref mq8, .ref mq9, .ref mq10, .ref mq11, .int (jI 0), .ref mq12])), (mq0, .inl (G.1, 8, .inl (fun i => jI ((fun _ => 0 : Nat → Int) i)))), (mq1, .inl (G.1, 64, .inl (fun i => jI ((fun _ => 0 : Nat → Int) i)))), (mq2, .inl (G.1, 64, .inl (fun i => jI ((fun _ => 0 : Nat → Int) i)))), (mq3, .inl (G.1, 8, .inl (fun i => jI ((fun _ => 0 : Nat → Int) i)))), (mq4, .inl (G.1, 256, .inl (fun i => jI ((fun _ => 0 : Nat → Int) i)))), (mq5, .inl (G.2.2, 64, .inl (fun i => jI ((fun _ => 0 : Nat → Int) i)))), (mq6, .inl (G.1, 8, .inl (fun i => jI ((fun _ => 0 : Nat → Int) i)))), (mq7, .inl (G.2.1, 8, .inr (.inl (fun i => jL ((fun _ => 0 : Nat → Int) i))))), (mq8, .inl (G.2.1, 9, .inr (.inl (fun i => jL ((fun _ => 0 : Nat → Int) i))))), (mq9, .inl (G.1, 8, .inl (fun i => jI ((fun _ => 0 : Nat → Int) i)))), (mq10, .inl (G.1, 8, .inl (fun i => jI ((fun _ => 0 : Nat → Int) i)))), (mq11, .inl (G.1, 8, .inl (fun i => jI ((fun _ => 0 : Nat → Int) i)))), (mq12, .inl (G.2.1, 8, .inr (.inl (fun i => jL ((fun _ => 0 : Nat → Int) i)))))] H := hP
  have hD : va_D (fun q : Nat => s.heap.size ≤ q) [(qx, .inr (8, [.ref xq0, .ref xq1, .ref xq3, .ref xq5, .ref xq7, .ref xq10, .ref xq14, .ref xq17, .ref xq19, .ref xq23, .int (jI 0)])), (xq0, .inl (G.1, 8, .inl (fun i => jI ((fun _ => 0 : Nat → Int) i)))), (xq1, .inr (6, [.ref xq2])), (xq2, .inl (G.1, 64, .inl (fun i => jI ((fun _ => 0 : Nat → Int) i)))), (xq3, .inr (6, [.ref xq4])), (xq4, .inl (G.1, 64, .inl (fun i => jI ((fun _ => 0 : Nat → Int) i)))), (xq5, .inr (2, [.ref xq6, .int (jI 0)])), (xq6, .inl (G.1, 8, .inl (fun i => jI ((fun _ => 0 : Nat → Int) i)))), (xq7, .inr (4, [.ref xq8, .ref xq9, .int (jI 0)])), (xq8, .inl (G.1, 8, .inl (fun i => jI ((fun _ => 0 : Nat → Int) i)))), (xq9, .inl (G.1, 8, .inl (fun i => jI ((fun _ => 0 : Nat → Int) i)))), (xq10, .inr (1, [.ref xq11, .ref xq12])), (xq11, .inl (G.1, 256, .inl (fun i => jI ((fun _ => 0 : Nat → Int) i)))), (xq12, .inr (2, [.ref xq13, .int (jI 0)])), (xq13, .inl (G.1, 8, .inl (fun i => jI ((fun _ => 0 : Nat → Int) i)))), (xq14, .inr (3, [.ref xq15, .ref xq16, .long (jL 1)])), (xq15, .inl (G.2.1, 8, .inr (.inl (fun i => jL ((fun _ => 0 : Nat → Int) i))))), (xq16, .inl (G.1, 8, .inl (fun i => jI ((fun _ => 0 : Nat → Int) i)))), (xq17, .inr (0, [.ref xq18])), (xq18, .inl (G.1, 8, .inl (fun i => jI ((fun _ => 0 : Nat → Int) i)))), (xq19, .inr (7, [.ref xq20, .ref xq21, .ref xq22, .int (jI 0), .int (jI 0), .int (jI 0), .int (jI 0)])), (xq20, .inl (G.1, 8, .inl (fun i => jI ((fun _ => 0 : Nat → Int) i)))), (xq21, .inl (G.1, 8, .inl (fun i => jI ((fun _ => 0 : Nat → Int) i)))), (xq22, .inl (G.1, 8, .inl (fun i => jI ((fun _ => 0 : Nat → Int) i)))), (xq23, .inr (5, [.ref xq24, .int (jI 0)])), (xq24, .inl (G.1, 8, .inl (fun i => jI ((fun _ => 0 : Nat → Int) i)))), (qm, .inr (9, [.int (jI 0), .int (jI 0), .ref mq0, .ref mq1, .ref mq2, .ref mq3, .ref mq4, .ref mq5, .ref mq6, .ref mq7, .ref mq8, .ref mq9, .ref mq10, .ref mq11, .int (jI 0), .ref mq12])), (mq0, .inl (G.1, 8, .inl (fun i => jI ((fun _ => 0 : Nat → Int) i)))), (mq1, .inl (G.1, 64, .inl (fun i => jI ((fun _ => 0 : Nat → Int) i)))), (mq2, .inl (G.1, 64, .inl (fun i => jI ((fun _ => 0 : Nat → Int) i)))), (mq3, .inl (G.1, 8, .inl (fun i => jI ((fun _ => 0 : Nat → Int) i)))), (mq4, .inl (G.1, 256, .inl (fun i => jI ((fun _ => 0 : Nat → Int) i)))), (mq5, .inl (G.2.2, 64, .inl (fun i => jI ((fun _ => 0 : Nat → Int) i)))), (mq6, .inl (G.1, 8, .inl (fun i => jI ((fun _ => 0 : Nat → Int) i)))), (mq7, .inl (G.2.1, 8, .inr (.inl (fun i => jL ((fun _ => 0 : Nat → Int) i))))), (mq8, .inl (G.2.1, 9, .inr (.inl (fun i => jL ((fun _ => 0 : Nat → Int) i))))), (mq9, .inl (G.1, 8, .inl (fun i => jI ((fun _ => 0 : Nat → Int) i)))), (mq10, .inl (G.1, 8, .inl (fun i => jI ((fun _ => 0 : Nat → Int) i)))), (mq11, .inl (G.1, 8, .inl (fun i => jI ((fun _ => 0 : Nat → Int) i)))), (mq12, .inl (G.2.1, 8, .inr (.inl (fun i => jL ((fun _ => 0 : Nat → Int) i)))))] := hD
  refine lv_astore_n (lv' := [(2, .ref qm), (1, .ref qx), (0, .ref b)]) hx hb dL_law_15 rfl hl (by decide) rfl (fun ls hl => ?_)
  refine lv_iconst (v := jI 0) hx hb dL_law_16 (by decide) ?_
  refine lv_istore_n (lv' := [(3, .int (jI 0)), (2, .ref qm), (1, .ref qx), (0, .ref b)]) hx hb dL_law_17 rfl hl (by decide) rfl (fun ls hl => ?_)
  obtain ⟨n, rr, t, hrun, hrr⟩ := law_ev L (fun i => (xs i).toInt) hL (fun i => jI_selfR _)
  obtain ⟨aO, haO⟩ : ∃ f : Nat → Nat, f = (adO qx xq1 xq3 xq5 xq7 xq10 xq12 xq14 xq17 xq19 xq23 qm) := ⟨_, rfl⟩
  obtain ⟨aA, haA⟩ : ∃ f : Nat → Nat, f = (adA b xq0 xq2 xq4 xq6 xq8 xq9 xq11 xq13 xq15 xq16 xq18 xq20 xq21 xq22 xq24 mq0 mq1 mq2 mq3 mq4 mq5 mq6 mq7 mq8 mq9 mq10 mq11 mq12) := ⟨_, rfl⟩
  have hP9 : va_P D vwCl (wW aO aA G (h00 L (fun i => (xs i).toInt))) H := by
    rw [haO, haA]
    exact hP.sub [0, 2, 4, 6, 8, 11, 13, 15, 18, 20, 24, 26, 1, 3, 5, 7, 9, 10, 12, 14, 16, 17, 19, 21, 22, 23, 25, 27, 28, 29, 30, 31, 32, 33, 34, 35, 36, 37, 38, 39] rfl
  have hD9 : va_D (fun q : Nat => s.heap.size ≤ q) (wW aO aA G (h00 L (fun i => (xs i).toInt))) := by
    rw [haO, haA]
    exact hD.sub [0, 2, 4, 6, 8, 11, 13, 15, 18, 20, 24, 26, 1, 3, 5, 7, 9, 10, 12, 14, 16, 17, 19, 21, 22, 23, 25, 27, 28, 29, 30, 31, 32, 33, 34, 35, 36, 37, 38, 39] (by decide) rfl
  have hDd : wDd (fun q : Nat => s.heap.size ≤ q) aO aA := ⟨fun i j p q hp hq e => hD9.1 i j _ _ (wW_at hp) (wW_at hq) (by rw [wAd_eq, wAd_eq]; exact e), fun k q hk => by
    have := hD9.2 k _ (wW_at hk)
    rw [wAd_eq] at this
    exact this⟩
  have hb9 : aA 999 = b := by rw [haA]; rfl
  have hHL : HL (cvV aO aA) ls [some (vA 999), some (vO 0), some (vO 11), some (vI 0)] := by
    refine ⟨hl.1, hl.2.1, fun i v hv => ?_⟩
    match i, hv with
    | 0, hv =>
      cases hv
      show ls[0]? = some (.val (.ref (aA 999)))
      rw [hb9]
      exact lv_at hl 3 rfl
    | 1, hv =>
      cases hv
      rw [haO]
      exact lv_at hl 2 rfl
    | 2, hv =>
      cases hv
      rw [haO]
      exact lv_at hl 1 rfl
    | 3, hv =>
      cases hv
      exact lv_at hl 0 rfl
    | i + 4, hv => simp [mNth] at hv
  have hscr : hScr b L xs (h00 L (fun i => (xs i).toInt)) := ⟨rfl, fun j _ => (jI_self (xs j)).symm⟩
  refine sound (l := l) (D := D) (G := G) (aO := aO) (aA := aA) (A := fun q : Nat => s.heap.size ≤ q) (b := b) (Ls := L) (xs := xs) n 16 133 (18, [some (vA 999), some (vO 0), some (vO 11), some (vI 0)], [], h00 L (fun i => (xs i).toInt)) rr t hrun p e room_1 s m #[Value.ref b] below meth c H _ _ _ _ ls ⟨hx, hb, hml, hown, hts, hNest, hK, hDd, hA, hX, hbl, hbA, hb9, by omega⟩ ⟨Nat.le_of_ble_eq_true rfl, Nat.le_of_ble_eq_true rfl, Nat.le_of_ble_eq_true rfl, Nat.le_of_ble_eq_true rfl⟩ hHL rfl hP9 hS hscr ?_
  intro pc2 ls2 H2 locs2 hdec _ hS2 _
  subst hrr
  refine va_forget (fun q hq => hS2.2.2 q hq) ?_
  refine W.widen (k := 600000) (n := 7302250) (Nat.le_of_ble_eq_true rfl) (Nat.le_of_ble_eq_true rfl) ?_
  exact lw_ret hx hb hr hlocks hdec.1
set_option maxHeartbeats 4000000 in
theorem lw_walk (l : Launch) (hflags : l.flags = flags0) (b : Addr) (xs : List Int32) : MetFree l x (headSpec (Jvm.Cond.code x code maxLocals ret :: tables_1) room_1) (lw_P b xs) (fun _ _ _ _ _ => True) lw_Q := by
  refine MetFree.of_bodyS (code := code) (maxLocals := maxLocals) (ret := ret) (by decide) ?_ ?_
  · intro args s m h hn
    obtain ⟨meth, c, h1, h2, h3, h4, h5, h6, -, -⟩ := Cond.code_spec hn (atoms_spec (ws := Jvm.Cond.code x code maxLocals ret :: tables_1) h _ List.mem_cons_self)
    exact ⟨meth, c, h1, h2, h3, h4, h5, h6⟩
  · intro p e s m args below meth c s₁ B hml0 hP _
    obtain ⟨rfl, hx, hbd, hgv⟩ := hP
    obtain ⟨scr, harrAt, hlist, hof, hsmall⟩ := hx
    obtain ⟨hcb, hkn, -, -⟩ := State.arrayAt?_spec harrAt
    have hown : s.vm.findClass R_law = some m.cls := findClass_of_methodNamed B.named
    have hts0 : ∀ c ∈ (Jvm.Cond.code x code maxLocals ret :: tables_1), c.before #[Value.ref b] s = true := atoms_spec (ws := Jvm.Cond.code x code maxLocals ret :: tables_1) B.pre
    have hts : ∀ w ∈ lw_tbl, w.before #[Value.ref b] s = true := k2_hts_sels lw_privs (fun w hw => hts0 w (List.mem_cons_of_mem _ hw)) lw_privs_ok
    have hml : c.maxLocals = 4 := B.maxLocals_eq (hts0 _ List.mem_cons_self)
    have X₀ : Stand p l e room_1 s m #[Value.ref b] below meth c s₁ [] 0 0 := Stand.of_body B
    have hh0 : s₁.heap = s.heap := by rw [B.state]; rfl
    have hsz : scr.slots.size = xs.length := by rw [← Array.length_toList, hlist, List.length_map]
    have hval : ∀ j : Nat, j < xs.length → scr.slots[j]? = some (.int (xs.getD j 0)) := fun j hj => by
      rw [← Array.getElem?_toList, hlist]
      simp [hj]
    have hbl : b < s.heap.size := (Array.getElem?_eq_some_iff.mp hcb).1
    have hX : va_X b xs.length (fun j => xs.getD j 0) s s.heap := ⟨scr, hcb, hof, hkn, hsz, hval⟩
    have K : W p l e room_1 s m #[Value.ref b] below meth c s₁.heap [] 0 0 (lw_Z below #[Value.ref b] s) (entryFrame m ([Value.ref b] : List Value).toArray 4) := by
      rw [hh0]
      exact whole_start l hflags hbd ⟨B.exec, B.bytes, B.returns, hml, hown, hts, hX, hbl, B.notSynchronized, hgv⟩
    obtain ⟨t, a1, o, b1, b2, b3⟩ := K s₁ rfl X₀
    exact ⟨t, o, a1, b1, b2, b3⟩
theorem lw_pre_spec {args : Array Value} {s : State} (h : (Jvm.Cond.and given_1 narrow_1).before args s = true) (hr : rest_1_c.before args s = true) : ∃ (b : Addr) (xs : List Int32), lw_P b xs args s := by
  have hs := flat_of_before _ h
  have hq := flat_of_before _ hr
  have hc : (Cond.count 1).before args s = true := hs _ (by decide +kernel)
  have harr : (Cond.arrayOf (.arg 0) .int).before args s = true := hs _ (by decide +kernel)
  have hle : (Cond.le (.length (.arg 0)) (.int 2048)).before args s = true := hs _ (by decide +kernel)
  have hlen : (Cond.isInt (.length (.arg 0))).before args s = true := hq _ (by decide +kernel)
  have hall : (Cond.all (.arg 0) (.isInt (.elem (.arg 0) (.index 0)))).before args s = true := hq _ (by decide +kernel)
  obtain ⟨b, xs, hb, hx⟩ := State.ints_of_pre rfl harr hlen hall
  have hsm : xs.length < 2 ^ 31 := hx.choose_spec.2.2.2
  have hev : (Term.length (.arg 0)).eval args s none [] s = some (.int xs.length.toInt32) := hx.length_eval hb
  have hv := Cond.le_ints hev (show (Term.int 2048).eval args s none [] s = some (.int 2048) from rfl)
  have hd : xs.length.toInt32 ≤ 2048 := by
    simpa [Cond.before, Cond.holds, hv] using hle
  have hN : xs.length ≤ 2048 := (Int32.ofNat_le_ofNat hsm (by decide)).mp (show Int32.ofNat xs.length ≤ Int32.ofNat 2048 from hd)
  exact ⟨b, xs, Cond.one_arg hc (show args[0]? = some (.ref b) from hb), hx, hN, h⟩
theorem lw_comes (l : Launch) (hflags : l.flags = flags0) : Comes l x (Jvm.Cond.code x code maxLocals ret :: tables_1) room_1 (fun tb e args s => Calls_1 tb e args s ∧ rest_1 tb e args s ∧ Pre_1 tb e args s)
    (fun _ _ args s o t => lw_Q args s o t) := by
  intro p e ha hc hk s m args below hf hfit hheap happ hpre
  obtain ⟨b, xs, hP⟩ := lw_pre_spec hpre.2.2 hpre.2.1
  obtain ⟨k, o, h1, h2, h3, hQ⟩ := lw_walk l hflags b xs p e ha hc hk s m args below hf ((Spec.applies_iff_loose hf).mp happ).1 hP trivial
  exact ⟨k, o, h1, h2, h3, hQ⟩
theorem lw_frame {s t : State} {o : Outcome} {args : Array Value} (h : Framed s o t [] 600000 7302250) :
    Framed s o t (fieldLocs frame_1_writes args s ++ arrayLocs frame_1_arrays args s ++ staticLocs frame_1_statics s) 600000 7302250 := h
theorem lw_limb (L : Cond) (hL : ∀ (args : Array Value) (s t : State), L.after args s (.returned (some (.int 1))) t = true) :
    ArmFor flags0 classFile x code maxLocals ret World_1 tables_1 room_1 Calls_1 rest_1 Pre_1
      (fun tb e a s o t => postC L tb e a s o t ∧ Framed s o t (fieldLocs frame_1_writes a s ++ arrayLocs frame_1_arrays a s ++ staticLocs frame_1_statics s) 600000 7302250) := by
  intro l hflags _ _ p e ha hc hk s m args below hf hfit hheap happ hpre
  obtain ⟨k, o, h1, h2, h3, rfl, hF⟩ := lw_comes l hflags p e ha hc hk s m args below hf hfit hheap happ hpre
  exact ⟨k, _, h1, h2, h3, hL args s _, lw_frame hF⟩
theorem i_vc : Claimed_1_1 ∧ Claimed_1_2 := ⟨lw_limb limb_1_1 (fun args s t => by simp [limb_1_1, Cond.after, Cond.holds, Cond.value]), lw_limb limb_1_2 (fun args s t => Cond.after_iff.mpr (by
  first | (rw [show limb_1_2 = Cond.eq .result (.int 1) from rfl, Cond.eq_ints (x := 1) (y := 1) rfl rfl]; simp; done) | (simp [limb_1_2, Cond.value, Term.eval]; done)))⟩

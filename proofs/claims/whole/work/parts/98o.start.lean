/-! THE CLAIM OUT OF ONE WALK OF THE LAW'S BODY. Your part is whole_start (and what it stands on); all else here is the same for every law, but numbers. -/
def R_law : String := "PlaneColoursLaw"
def lw_P (b : Addr) (xs : List Int32) (args : Array Value) (s : State) : Prop := args = #[.ref b] ∧ s.IntsAt b xs ∧ xs.length ≤ 2560 ∧ (Jvm.Cond.and given_1 narrow_1).before args s = true
def lw_Q (_ : Array Value) (s : State) (o : Outcome) (t : State) : Prop := o = .returned (some (.int 1)) ∧ Framed s o t [] 1084 12501
def lw_Z (below : List Frame) (a : Array Value) (s : State) : State → Prop := fun t => ∃ o, t.status = .running ∧ Ended t below o ∧ lw_Q a s o t
/-- the law's own end, with 1 on the stack, nothing written that was there before, its room as the claim has it -/
theorem lw_ret {p : Program} {l : Launch} {e : Env} {s : State} {m : MethodId} {below : List Frame} {meth : Method} {c : Code} {b : Nat} (hx : p.tables.exec = Jvm.exec) (hb : c.code = code) (hr : meth.sig.returnType = ret) (hlocks : meth.locks = false) {pc : Nat} {H : Heap} {ls : Array Slot} (hdg : decode code pc = .ok (.ireturn, 1)) : W p l e room_1 s m #[Value.ref b] below meth c H [] 1084 12501 (lw_Z below #[Value.ref b] s) (F0 m pc ls [.int 1]) := by
  intro T hT X
  obtain ⟨fs, hret, hrun, hended, hW, hframe⟩ := X.leave (v := some (.int 1)) (hlocks := hlocks) (fun h => by rw [hr] at h; cases h)
  have hmeth' : T.vm.method? m = some meth := X.method'
  refine ⟨T.setFrames fs, ?_, .returned (some (.int 1)), hrun, hended, rfl, ⟨_, rfl⟩, hW, hframe⟩
  jvm_step X.here [X.here.top, hx, hb, hdg, hmeth', hr, ret, narrow_b1]
  (try refine ⟨rfl, ?_⟩); (try refine ⟨rfl, ?_⟩)
  first | (intro acts; rw [hret _ acts rfl rfl rfl]) | rw [hret _ _ rfl rfl rfl]
  exact Steps.refl _
/-- what holds at the law's entry: the machine, the code, the tables' words (any of lw_tbl by 'hts w (by decide +kernel)'), the script of L ints xs at the cell b, what the Statement gives of the start (any of its parts by flat_of_before) -/
def lw_At (p : Program) (s : State) (m : MethodId) (meth : Method) (c : Code) (b L : Nat) (xs : Nat → Int32) : Prop :=
  p.tables.exec = Jvm.exec ∧ c.code = code ∧ meth.sig.returnType = ret ∧ c.maxLocals = 7 ∧ s.vm.findClass R_law = some m.cls ∧ (∀ w ∈ lw_tbl, w.before #[Value.ref b] s = true) ∧ va_X b L xs s s.heap ∧ b < s.heap.size ∧ meth.locks = false ∧ (Jvm.Cond.and given_1 narrow_1).before #[Value.ref b] s = true
theorem wC_0 (cI cZ cJ : ClassId) (ad : Nat → Nat) : wC cI cZ cJ ad (fun _ _ => 0) = [(ad 0, zO 5 [.ref (ad 1), .ref (ad 2), .ref (ad 3), .ref (ad 4), .ref (ad 5)]), (ad 1, zO 2 [.ref (ad 6), .ref (ad 7), .ref (ad 8), .ref (ad 9), .ref (ad 10), .ref (ad 11), .int 0, .int 0, .int 0]), (ad 2, zO 1 [.ref (ad 1), .ref (ad 12), .ref (ad 13), .ref (ad 14), .int 0]), (ad 3, zO 4 [.ref (ad 1), .ref (ad 15), .ref (ad 16), .ref (ad 17), .ref (ad 18), .ref (ad 19), .int 0, .int 0]), (ad 4, zO 0 [.ref (ad 1), .ref (ad 20), .ref (ad 21), .ref (ad 22), .ref (ad 23), .ref (ad 24), .ref (ad 25), .int 0, .int 0]), (ad 5, zO 3 [.ref (ad 1), .ref (ad 2), .ref (ad 3), .ref (ad 26), .ref (ad 27), .ref (ad 28), .ref (ad 29), .int 0, .int 0, .int 0, .int 0]), (ad 6, zA cI 200), (ad 7, zA cI 200), (ad 8, zA cI 200), (ad 9, zA cZ 100), (ad 10, zA cI 30), (ad 11, zA cI 30), (ad 12, zA cI 200), (ad 13, zA cI 200), (ad 14, zA cI 200), (ad 15, zA cI 30), (ad 16, zA cI 30), (ad 17, zA cI 30), (ad 18, zA cI 30), (ad 19, zA cI 30), (ad 20, zA cI 30), (ad 21, zA cZ 30), (ad 22, zA cI 30), (ad 23, zA cI 5), (ad 24, zA cZ 30), (ad 25, zA cI 30), (ad 26, zA cZ 30), (ad 27, zA cZ 100), (ad 28, zA cZ 200), (ad 29, zA cI 200), (ad 30, zO 6 [.int 0, .int 0, .int 0, .int 0, .ref (ad 31), .ref (ad 32), .ref (ad 33), .ref (ad 34), .ref (ad 35), .ref (ad 36), .int 0, .ref (ad 37), .int 0, .ref (ad 38), .ref (ad 39), .ref (ad 40), .int 0, .ref (ad 41), .ref (ad 42), .ref (ad 43), .int 0, .ref (ad 44), .ref (ad 45), .ref (ad 46)]), (ad 31, zA cI 100), (ad 32, zA cI 100), (ad 33, zA cZ 100), (ad 34, zA cI 900), (ad 35, zA cI 30), (ad 36, zA cI 30), (ad 37, zA cI 200), (ad 38, zA cI 30), (ad 39, zA cI 30), (ad 40, zA cI 30), (ad 41, zA cI 30), (ad 42, zA cZ 30), (ad 43, zA cZ 30), (ad 44, zA cZ 30), (ad 45, zA cZ 100), (ad 46, zA cZ 200), (ad 47, zJ cJ 1)] := by
  unfold wC lay
  simp only [List.mapIdx_cons, List.mapIdx_nil]
  rfl
theorem ev_m1 : ∀ q ∈ EVs, Cond.stringRef RX5 q.1 q.2 ∈ lw_tbl := by decide +kernel
theorem ev_m2 : ∀ q ∈ EVs, Cond.exactly (.string RX5 q.1) "java/lang/String" ∈ flatC (Jvm.Cond.and given_1 narrow_1) := by decide +kernel
theorem ev_m3 : ∀ w ∈ EVw, w ∈ lw_tbl := by decide +kernel
theorem ev_m4 : ∀ q ∈ EVn, Cond.not (.castable q.1 q.2) ∈ flatC (Jvm.Cond.and given_1 narrow_1) := by decide +kernel
theorem ev_start {s : State} {args : Array Value} (hts : ∀ w ∈ lw_tbl, w.before args s = true) (hgv : (Jvm.Cond.and given_1 narrow_1).before args s = true) : EV (fun q => s.heap.size ≤ q) s s.heap ∧ NC s := by
  have hs := flat_of_before _ hgv
  have hA : ∀ a : Nat, a < s.heap.size → ¬ (fun q : Nat => s.heap.size ≤ q) a := fun a h => Nat.not_le.mpr h
  refine ⟨⟨vx_Zqof (hts (.laysStatic Bundle.tN "UNASSIGNED_STACK" Bundle.steD) (by decide +kernel)) (hts (.initialized Bundle.tN) (by decide +kernel)) (hs (.isRef (.static Bundle.tN "UNASSIGNED_STACK" Bundle.steD)) (by decide +kernel)) hA, vx_Zqof (hts (.laysStatic Bundle.tN "SUPPRESSED_SENTINEL" Bundle.listD) (by decide +kernel)) (hts (.initialized Bundle.tN) (by decide +kernel)) (hs (.isRef (.static Bundle.tN "SUPPRESSED_SENTINEL" Bundle.listD)) (by decide +kernel)) hA, fun w hw => va_Nw.of (List.all_eq_true.mp EVw_t w hw) (hts w (ev_m3 w hw)), fun q hq => ?_⟩, fun q hq => va_Nc.of (hs _ (ev_m4 q hq))⟩
  obtain ⟨a, c, cell, k, q1, -⟩ := Cond.exactly_spec (hs _ (ev_m2 q hq))
  have h1 := hts _ (ev_m1 q hq)
  refine ⟨a, ?_, q1⟩
  simp only [Cond.before, Cond.holds, Cond.value, State.names, State.poolOf?, State.resolvedAt?] at h1 ⊢
  exact h1
theorem arr_of {s : State} {args : Array Value} {ty : FieldType} (h : (Cond.arrayClass ty).before args s = true) : ∃ cA : ClassId, ArrOfT s cA ty ∧ s.vm.findClass ("[" ++ ty.toString) = some cA := by
  obtain ⟨c, k, comp, h1, h2, h3⟩ := Cond.arrayClass_spec h
  exact ⟨c, fun n z => ⟨fun k h => (by cases h), k, h2, comp, h3⟩, h1⟩
theorem k_start {s : State} {args : Array Value} (hts : ∀ w ∈ wsL_law, w.before args s = true) : ∃ (D : va_G) (cI cZ cJ : ClassId), va_K D vwCl (tyL cI cZ cJ) s := by
  obtain ⟨c0, iS0, hKn0⟩ := u_known (C := RX0) (T := TX0) (N := 9) (n := 9) hts inlX0 (hts (.instantiable RX0 9) (by decide +kernel))
  obtain ⟨c1, iS1, hKn1⟩ := u_known (C := RX1) (T := TX1) (N := 5) (n := 5) hts inlX1 (hts (.instantiable RX1 5) (by decide +kernel))
  obtain ⟨c2, iS2, hKn2⟩ := u_known (C := RX2) (T := TX2) (N := 9) (n := 9) hts inlX2 (hts (.instantiable RX2 9) (by decide +kernel))
  obtain ⟨c3, iS3, hKn3⟩ := u_known (C := RX3) (T := TX3) (N := 11) (n := 11) hts inlX3 (hts (.instantiable RX3 11) (by decide +kernel))
  obtain ⟨c4, iS4, hKn4⟩ := u_known (C := RX4) (T := TX4) (N := 8) (n := 8) hts inlX4 (hts (.instantiable RX4 8) (by decide +kernel))
  obtain ⟨c5, iS5, hKn5⟩ := u_known (C := RX5) (T := TX5) (N := 5) (n := 5) hts inlX5 (hts (.instantiable RX5 5) (by decide +kernel))
  obtain ⟨c6, iS6, hKn6⟩ := u_known (C := RX6) (T := TX6) (N := 24) (n := 24) hts inlX6 (hts (.instantiable RX6 24) (by decide +kernel))
  obtain ⟨cI, aI, nI0⟩ := arr_of (hts (.arrayClass .int) (by decide +kernel))
  obtain ⟨cZ, aZ, nZ0⟩ := arr_of (hts (.arrayClass .boolean) (by decide +kernel))
  obtain ⟨cJ, aJ, nJ0⟩ := arr_of (hts (.arrayClass .long) (by decide +kernel))
  refine ⟨(fun k => ([c0, c1, c2, c3, c4, c5, c6] : List ClassId).getD k 0, fun k => ([iS0, iS1, iS2, iS3, iS4, iS5, iS6] : List (Nat → Nat)).getD k (fun _ => 0)), cI, cZ, cJ, ?_, ?_⟩
  · intro k q hq
    match k, hq with
    | 0, hq => cases hq; exact hKn0
    | 1, hq => cases hq; exact hKn1
    | 2, hq => cases hq; exact hKn2
    | 3, hq => cases hq; exact hKn3
    | 4, hq => cases hq; exact hKn4
    | 5, hq => cases hq; exact hKn5
    | 6, hq => cases hq; exact hKn6
    | k + 7, hq => simp [vwCl] at hq
  · intro k q hq
    match k, hq with
    | 0, hq => cases hq; exact ⟨aI, nI0⟩
    | 1, hq => cases hq; exact ⟨aZ, nZ0⟩
    | 2, hq => cases hq; exact ⟨aJ, nJ0⟩
    | k + 3, hq => simp [tyL] at hq
set_option maxHeartbeats 8000000 in
set_option maxRecDepth 100000 in
theorem whole_start {p : Program} {e : Env} {s : State} {m : MethodId} {below : List Frame} {meth : Method} {c : Code} (l : Launch) (hst : l.stackTraces = false) {b L : Nat} {xs : Nat → Int32} (hL : L ≤ 2560) (C0 : lw_At p s m meth c b L xs) : W p l e room_1 s m #[Value.ref b] below meth c s.heap [] 0 0 (lw_Z below #[Value.ref b] s) (entryFrame m ([Value.ref b] : List Value).toArray 7) := by
  obtain ⟨hx, hb, hr, hml, hown0, htsT, hX, hbl, hlocks, hgv⟩ := id C0
  have hts : ∀ w ∈ wsL_law, w.before #[Value.ref b] s = true := fun w hw => htsT w (wsL_law_in w hw)
  have hown : s.vm.findClass RL = some m.cls := hown0
  obtain ⟨hEV, hNC⟩ := ev_start htsT hgv
  obtain ⟨D, cI, cZ, cJ, hK⟩ := k_start hts
  have hN0 : va_Nw (.methodLinkNest RX5 11 yX2_init RX5) s := va_Nw.of rfl (htsT (.methodLinkNest RX5 11 yX2_init RX5) (by decide +kernel))
  generalize hAe : (fun q : Nat => s.heap.size ≤ q) = A at hEV
  have hA : ∀ q : Nat, s.heap.size ≤ q → A q := fun q h => by rw [← hAe]; exact h
  have hAl : ∀ q : Nat, A q → s.heap.size ≤ q := fun q h => by rw [← hAe] at h; exact h
  have hbA : ¬ A b := fun z => Nat.not_le.mpr hbl (hAl b z)
  have hS : va_S A s.heap s.heap [] := va_S.rf
  have hP : va_P D vwCl [] s.heap := fun k q h => by simp at h
  have hD : va_D A [] := ⟨fun i j p q h => by simp at h, fun k q h => by simp at h⟩
  have hl := lv_entry ([.ref b]) (n := 7) (Nat.le_of_ble_eq_true rfl)
  rw [lg_entry_eq]
  generalize (lg_sl ([.ref b]) ++ List.replicate (7 - (lg_sl ([.ref b])).length) Slot.unset).toArray = ls at hl ⊢
  have hl : lv_has ls 7 [(0, .ref b)] := hl
  refine va_new (ci := 5) (fs := [.null, .null, .null, .null, .null]) (C := RX5) (T := TX5) (N := 5) hx hb hts inlX5 tyX5 tyX5_ok hown (hts (Cond.classLink RL 8 RX5) (by decide +kernel)) (hts (Cond.instantiable RX5 5) (by decide +kernel)) (hts (Cond.initialized RX5) (by decide +kernel)) hK hP hD hS hA rfl fsX5 (Nat.le_of_ble_eq_true rfl) (Nat.le_of_ble_eq_true rfl) dL_law_0 (fun q0 H hP hD hS => ?_)
  have hP : va_P D vwCl [(q0, zO 5 [.null, .null, .null, .null, .null])] H := hP
  have hD : va_D A [(q0, zO 5 [.null, .null, .null, .null, .null])] := hD
  refine W.widen (k := 1) (n := 5) (by omega) (by omega) ?_
  refine lv_dup hx hb dL_law_3 rfl ?_
  refine z_call (ci := 5) (fs0 := [.null, .null, .null, .null, .null]) (wr := []) (gs := []) (rest := [.ref q0]) (cells := 1) (slots := 5) hx hb hml hown hts hK (cc_X5 l ) zok_X5 (Or.inl (hts (Cond.methodLink RL 67 yX5_init) (by decide +kernel))) (fun w hw => by cases List.mem_singleton.mp hw; rfl) (fun U hW w hw => by cases List.mem_singleton.mp hw; exact va_Nw.warmM hW hN0) (Nat.le_of_ble_eq_true rfl) (Nat.le_of_ble_eq_true rfl) hP hD hS hA rfl (Nat.le_of_ble_eq_true rfl) hl.1 dL_law_4 (Nat.le_of_ble_eq_true rfl) (Nat.le_of_ble_eq_true rfl) (fun u1 H locs hP hD hS => ?_)
  have hP : va_P D vwCl [(q0, zO 5 [.ref (u1 0), .ref (u1 7), .ref (u1 11), .ref (u1 17), .ref (u1 24)]), ((u1 0), zO 2 [.ref (u1 1), .ref (u1 2), .ref (u1 3), .ref (u1 4), .ref (u1 5), .ref (u1 6), .int 0, .int 0, .int 0]), ((u1 1), zA cI 200), ((u1 2), zA cI 200), ((u1 3), zA cI 200), ((u1 4), zA cZ 100), ((u1 5), zA cI 30), ((u1 6), zA cI 30), ((u1 7), zO 1 [.ref (u1 0), .ref (u1 8), .ref (u1 9), .ref (u1 10), .int 0]), ((u1 8), zA cI 200), ((u1 9), zA cI 200), ((u1 10), zA cI 200), ((u1 11), zO 4 [.ref (u1 0), .ref (u1 12), .ref (u1 13), .ref (u1 14), .ref (u1 15), .ref (u1 16), .int 0, .int 0]), ((u1 12), zA cI 30), ((u1 13), zA cI 30), ((u1 14), zA cI 30), ((u1 15), zA cI 30), ((u1 16), zA cI 30), ((u1 17), zO 0 [.ref (u1 0), .ref (u1 18), .ref (u1 19), .ref (u1 20), .ref (u1 21), .ref (u1 22), .ref (u1 23), .int 0, .int 0]), ((u1 18), zA cI 30), ((u1 19), zA cZ 30), ((u1 20), zA cI 30), ((u1 21), zA cI 5), ((u1 22), zA cZ 30), ((u1 23), zA cI 30), ((u1 24), zO 3 [.ref (u1 0), .ref (u1 7), .ref (u1 11), .ref (u1 25), .ref (u1 26), .ref (u1 27), .ref (u1 28), .int 0, .int 0, .int 0, .int 0]), ((u1 25), zA cZ 30), ((u1 26), zA cZ 100), ((u1 27), zA cZ 200), ((u1 28), zA cI 200)] H := hP
  have hD : va_D A [(q0, zO 5 [.ref (u1 0), .ref (u1 7), .ref (u1 11), .ref (u1 17), .ref (u1 24)]), ((u1 0), zO 2 [.ref (u1 1), .ref (u1 2), .ref (u1 3), .ref (u1 4), .ref (u1 5), .ref (u1 6), .int 0, .int 0, .int 0]), ((u1 1), zA cI 200), ((u1 2), zA cI 200), ((u1 3), zA cI 200), ((u1 4), zA cZ 100), ((u1 5), zA cI 30), ((u1 6), zA cI 30), ((u1 7), zO 1 [.ref (u1 0), .ref (u1 8), .ref (u1 9), .ref (u1 10), .int 0]), ((u1 8), zA cI 200), ((u1 9), zA cI 200), ((u1 10), zA cI 200), ((u1 11), zO 4 [.ref (u1 0), .ref (u1 12), .ref (u1 13), .ref (u1 14), .ref (u1 15), .ref (u1 16), .int 0, .int 0]), ((u1 12), zA cI 30), ((u1 13), zA cI 30), ((u1 14), zA cI 30), ((u1 15), zA cI 30), ((u1 16), zA cI 30), ((u1 17), zO 0 [.ref (u1 0), .ref (u1 18), .ref (u1 19), .ref (u1 20), .ref (u1 21), .ref (u1 22), .ref (u1 23), .int 0, .int 0]), ((u1 18), zA cI 30), ((u1 19), zA cZ 30), ((u1 20), zA cI 30), ((u1 21), zA cI 5), ((u1 22), zA cZ 30), ((u1 23), zA cI 30), ((u1 24), zO 3 [.ref (u1 0), .ref (u1 7), .ref (u1 11), .ref (u1 25), .ref (u1 26), .ref (u1 27), .ref (u1 28), .int 0, .int 0, .int 0, .int 0]), ((u1 25), zA cZ 30), ((u1 26), zA cZ 100), ((u1 27), zA cZ 200), ((u1 28), zA cI 200)] := hD
  refine W.widen (k := 30) (n := 2242) (by omega) (by omega) ?_
  refine lv_astore_n (lv' := [(1, Value.ref q0), (0, Value.ref b)]) hx hb dL_law_7 rfl hl (by decide) rfl (fun ls hl => ?_)
  refine va_new (ci := 6) (fs := [.int 0, .int 0, .int 0, .int 0, .null, .null, .null, .null, .null, .null, .int 0, .null, .int 0, .null, .null, .null, .int 0, .null, .null, .null, .int 0, .null, .null, .null]) (C := RX6) (T := TX6) (N := 24) hx hb hts inlX6 tyX6 tyX6_ok hown (hts (Cond.classLink RL 68 RX6) (by decide +kernel)) (hts (Cond.instantiable RX6 24) (by decide +kernel)) (hts (Cond.initialized RX6) (by decide +kernel)) hK hP hD hS hA rfl fsX6 (Nat.le_of_ble_eq_true rfl) (Nat.le_of_ble_eq_true rfl) dL_law_8 (fun q2 H hP hD hS => ?_)
  have hP : va_P D vwCl [(q0, zO 5 [.ref (u1 0), .ref (u1 7), .ref (u1 11), .ref (u1 17), .ref (u1 24)]), ((u1 0), zO 2 [.ref (u1 1), .ref (u1 2), .ref (u1 3), .ref (u1 4), .ref (u1 5), .ref (u1 6), .int 0, .int 0, .int 0]), ((u1 1), zA cI 200), ((u1 2), zA cI 200), ((u1 3), zA cI 200), ((u1 4), zA cZ 100), ((u1 5), zA cI 30), ((u1 6), zA cI 30), ((u1 7), zO 1 [.ref (u1 0), .ref (u1 8), .ref (u1 9), .ref (u1 10), .int 0]), ((u1 8), zA cI 200), ((u1 9), zA cI 200), ((u1 10), zA cI 200), ((u1 11), zO 4 [.ref (u1 0), .ref (u1 12), .ref (u1 13), .ref (u1 14), .ref (u1 15), .ref (u1 16), .int 0, .int 0]), ((u1 12), zA cI 30), ((u1 13), zA cI 30), ((u1 14), zA cI 30), ((u1 15), zA cI 30), ((u1 16), zA cI 30), ((u1 17), zO 0 [.ref (u1 0), .ref (u1 18), .ref (u1 19), .ref (u1 20), .ref (u1 21), .ref (u1 22), .ref (u1 23), .int 0, .int 0]), ((u1 18), zA cI 30), ((u1 19), zA cZ 30), ((u1 20), zA cI 30), ((u1 21), zA cI 5), ((u1 22), zA cZ 30), ((u1 23), zA cI 30), ((u1 24), zO 3 [.ref (u1 0), .ref (u1 7), .ref (u1 11), .ref (u1 25), .ref (u1 26), .ref (u1 27), .ref (u1 28), .int 0, .int 0, .int 0, .int 0]), ((u1 25), zA cZ 30), ((u1 26), zA cZ 100), ((u1 27), zA cZ 200), ((u1 28), zA cI 200), (q2, zO 6 [.int 0, .int 0, .int 0, .int 0, .null, .null, .null, .null, .null, .null, .int 0, .null, .int 0, .null, .null, .null, .int 0, .null, .null, .null, .int 0, .null, .null, .null])] H := hP
  have hD : va_D A [(q0, zO 5 [.ref (u1 0), .ref (u1 7), .ref (u1 11), .ref (u1 17), .ref (u1 24)]), ((u1 0), zO 2 [.ref (u1 1), .ref (u1 2), .ref (u1 3), .ref (u1 4), .ref (u1 5), .ref (u1 6), .int 0, .int 0, .int 0]), ((u1 1), zA cI 200), ((u1 2), zA cI 200), ((u1 3), zA cI 200), ((u1 4), zA cZ 100), ((u1 5), zA cI 30), ((u1 6), zA cI 30), ((u1 7), zO 1 [.ref (u1 0), .ref (u1 8), .ref (u1 9), .ref (u1 10), .int 0]), ((u1 8), zA cI 200), ((u1 9), zA cI 200), ((u1 10), zA cI 200), ((u1 11), zO 4 [.ref (u1 0), .ref (u1 12), .ref (u1 13), .ref (u1 14), .ref (u1 15), .ref (u1 16), .int 0, .int 0]), ((u1 12), zA cI 30), ((u1 13), zA cI 30), ((u1 14), zA cI 30), ((u1 15), zA cI 30), ((u1 16), zA cI 30), ((u1 17), zO 0 [.ref (u1 0), .ref (u1 18), .ref (u1 19), .ref (u1 20), .ref (u1 21), .ref (u1 22), .ref (u1 23), .int 0, .int 0]), ((u1 18), zA cI 30), ((u1 19), zA cZ 30), ((u1 20), zA cI 30), ((u1 21), zA cI 5), ((u1 22), zA cZ 30), ((u1 23), zA cI 30), ((u1 24), zO 3 [.ref (u1 0), .ref (u1 7), .ref (u1 11), .ref (u1 25), .ref (u1 26), .ref (u1 27), .ref (u1 28), .int 0, .int 0, .int 0, .int 0]), ((u1 25), zA cZ 30), ((u1 26), zA cZ 100), ((u1 27), zA cZ 200), ((u1 28), zA cI 200), (q2, zO 6 [.int 0, .int 0, .int 0, .int 0, .null, .null, .null, .null, .null, .null, .int 0, .null, .int 0, .null, .null, .null, .int 0, .null, .null, .null, .int 0, .null, .null, .null])] := hD
  refine W.widen (k := 31) (n := 2266) (by omega) (by omega) ?_
  refine lv_dup hx hb dL_law_11 rfl ?_
  refine z_call (ci := 6) (fs0 := [.int 0, .int 0, .int 0, .int 0, .null, .null, .null, .null, .null, .null, .int 0, .null, .int 0, .null, .null, .null, .int 0, .null, .null, .null, .int 0, .null, .null, .null]) (wr := [(q0, zO 5 [.ref (u1 0), .ref (u1 7), .ref (u1 11), .ref (u1 17), .ref (u1 24)]), ((u1 0), zO 2 [.ref (u1 1), .ref (u1 2), .ref (u1 3), .ref (u1 4), .ref (u1 5), .ref (u1 6), .int 0, .int 0, .int 0]), ((u1 1), zA cI 200), ((u1 2), zA cI 200), ((u1 3), zA cI 200), ((u1 4), zA cZ 100), ((u1 5), zA cI 30), ((u1 6), zA cI 30), ((u1 7), zO 1 [.ref (u1 0), .ref (u1 8), .ref (u1 9), .ref (u1 10), .int 0]), ((u1 8), zA cI 200), ((u1 9), zA cI 200), ((u1 10), zA cI 200), ((u1 11), zO 4 [.ref (u1 0), .ref (u1 12), .ref (u1 13), .ref (u1 14), .ref (u1 15), .ref (u1 16), .int 0, .int 0]), ((u1 12), zA cI 30), ((u1 13), zA cI 30), ((u1 14), zA cI 30), ((u1 15), zA cI 30), ((u1 16), zA cI 30), ((u1 17), zO 0 [.ref (u1 0), .ref (u1 18), .ref (u1 19), .ref (u1 20), .ref (u1 21), .ref (u1 22), .ref (u1 23), .int 0, .int 0]), ((u1 18), zA cI 30), ((u1 19), zA cZ 30), ((u1 20), zA cI 30), ((u1 21), zA cI 5), ((u1 22), zA cZ 30), ((u1 23), zA cI 30), ((u1 24), zO 3 [.ref (u1 0), .ref (u1 7), .ref (u1 11), .ref (u1 25), .ref (u1 26), .ref (u1 27), .ref (u1 28), .int 0, .int 0, .int 0, .int 0]), ((u1 25), zA cZ 30), ((u1 26), zA cZ 100), ((u1 27), zA cZ 200), ((u1 28), zA cI 200)]) (gs := []) (rest := [.ref q2]) (cells := 31) (slots := 2266) hx hb hml hown hts hK (cc_X6 l ) zok_X6 (Or.inl (hts (Cond.methodLink RL 70 yX6_init) (by decide +kernel))) (fun w hw => by cases hw) (fun U _ w hw => by cases hw) (Nat.le_of_ble_eq_true rfl) (Nat.le_of_ble_eq_true rfl) hP hD hS hA rfl (Nat.le_of_ble_eq_true rfl) hl.1 dL_law_12 (Nat.le_of_ble_eq_true rfl) (Nat.le_of_ble_eq_true rfl) (fun u3 H locs hP hD hS => ?_)
  have hP : va_P D vwCl [(q0, zO 5 [.ref (u1 0), .ref (u1 7), .ref (u1 11), .ref (u1 17), .ref (u1 24)]), ((u1 0), zO 2 [.ref (u1 1), .ref (u1 2), .ref (u1 3), .ref (u1 4), .ref (u1 5), .ref (u1 6), .int 0, .int 0, .int 0]), ((u1 1), zA cI 200), ((u1 2), zA cI 200), ((u1 3), zA cI 200), ((u1 4), zA cZ 100), ((u1 5), zA cI 30), ((u1 6), zA cI 30), ((u1 7), zO 1 [.ref (u1 0), .ref (u1 8), .ref (u1 9), .ref (u1 10), .int 0]), ((u1 8), zA cI 200), ((u1 9), zA cI 200), ((u1 10), zA cI 200), ((u1 11), zO 4 [.ref (u1 0), .ref (u1 12), .ref (u1 13), .ref (u1 14), .ref (u1 15), .ref (u1 16), .int 0, .int 0]), ((u1 12), zA cI 30), ((u1 13), zA cI 30), ((u1 14), zA cI 30), ((u1 15), zA cI 30), ((u1 16), zA cI 30), ((u1 17), zO 0 [.ref (u1 0), .ref (u1 18), .ref (u1 19), .ref (u1 20), .ref (u1 21), .ref (u1 22), .ref (u1 23), .int 0, .int 0]), ((u1 18), zA cI 30), ((u1 19), zA cZ 30), ((u1 20), zA cI 30), ((u1 21), zA cI 5), ((u1 22), zA cZ 30), ((u1 23), zA cI 30), ((u1 24), zO 3 [.ref (u1 0), .ref (u1 7), .ref (u1 11), .ref (u1 25), .ref (u1 26), .ref (u1 27), .ref (u1 28), .int 0, .int 0, .int 0, .int 0]), ((u1 25), zA cZ 30), ((u1 26), zA cZ 100), ((u1 27), zA cZ 200), ((u1 28), zA cI 200), (q2, zO 6 [.int 0, .int 0, .int 0, .int 0, .ref (u3 0), .ref (u3 1), .ref (u3 2), .ref (u3 3), .ref (u3 4), .ref (u3 5), .int 0, .ref (u3 6), .int 0, .ref (u3 7), .ref (u3 8), .ref (u3 9), .int 0, .ref (u3 10), .ref (u3 11), .ref (u3 12), .int 0, .ref (u3 13), .ref (u3 14), .ref (u3 15)]), ((u3 0), zA cI 100), ((u3 1), zA cI 100), ((u3 2), zA cZ 100), ((u3 3), zA cI 900), ((u3 4), zA cI 30), ((u3 5), zA cI 30), ((u3 6), zA cI 200), ((u3 7), zA cI 30), ((u3 8), zA cI 30), ((u3 9), zA cI 30), ((u3 10), zA cI 30), ((u3 11), zA cZ 30), ((u3 12), zA cZ 30), ((u3 13), zA cZ 30), ((u3 14), zA cZ 100), ((u3 15), zA cZ 200)] H := hP
  have hD : va_D A [(q0, zO 5 [.ref (u1 0), .ref (u1 7), .ref (u1 11), .ref (u1 17), .ref (u1 24)]), ((u1 0), zO 2 [.ref (u1 1), .ref (u1 2), .ref (u1 3), .ref (u1 4), .ref (u1 5), .ref (u1 6), .int 0, .int 0, .int 0]), ((u1 1), zA cI 200), ((u1 2), zA cI 200), ((u1 3), zA cI 200), ((u1 4), zA cZ 100), ((u1 5), zA cI 30), ((u1 6), zA cI 30), ((u1 7), zO 1 [.ref (u1 0), .ref (u1 8), .ref (u1 9), .ref (u1 10), .int 0]), ((u1 8), zA cI 200), ((u1 9), zA cI 200), ((u1 10), zA cI 200), ((u1 11), zO 4 [.ref (u1 0), .ref (u1 12), .ref (u1 13), .ref (u1 14), .ref (u1 15), .ref (u1 16), .int 0, .int 0]), ((u1 12), zA cI 30), ((u1 13), zA cI 30), ((u1 14), zA cI 30), ((u1 15), zA cI 30), ((u1 16), zA cI 30), ((u1 17), zO 0 [.ref (u1 0), .ref (u1 18), .ref (u1 19), .ref (u1 20), .ref (u1 21), .ref (u1 22), .ref (u1 23), .int 0, .int 0]), ((u1 18), zA cI 30), ((u1 19), zA cZ 30), ((u1 20), zA cI 30), ((u1 21), zA cI 5), ((u1 22), zA cZ 30), ((u1 23), zA cI 30), ((u1 24), zO 3 [.ref (u1 0), .ref (u1 7), .ref (u1 11), .ref (u1 25), .ref (u1 26), .ref (u1 27), .ref (u1 28), .int 0, .int 0, .int 0, .int 0]), ((u1 25), zA cZ 30), ((u1 26), zA cZ 100), ((u1 27), zA cZ 200), ((u1 28), zA cI 200), (q2, zO 6 [.int 0, .int 0, .int 0, .int 0, .ref (u3 0), .ref (u3 1), .ref (u3 2), .ref (u3 3), .ref (u3 4), .ref (u3 5), .int 0, .ref (u3 6), .int 0, .ref (u3 7), .ref (u3 8), .ref (u3 9), .int 0, .ref (u3 10), .ref (u3 11), .ref (u3 12), .int 0, .ref (u3 13), .ref (u3 14), .ref (u3 15)]), ((u3 0), zA cI 100), ((u3 1), zA cI 100), ((u3 2), zA cZ 100), ((u3 3), zA cI 900), ((u3 4), zA cI 30), ((u3 5), zA cI 30), ((u3 6), zA cI 200), ((u3 7), zA cI 30), ((u3 8), zA cI 30), ((u3 9), zA cI 30), ((u3 10), zA cI 30), ((u3 11), zA cZ 30), ((u3 12), zA cZ 30), ((u3 13), zA cZ 30), ((u3 14), zA cZ 100), ((u3 15), zA cZ 200)] := hD
  refine W.widen (k := 47) (n := 4236) (by omega) (by omega) ?_
  refine lv_astore_n (lv' := [(2, Value.ref q2), (1, Value.ref q0), (0, Value.ref b)]) hx hb dL_law_15 rfl hl (by decide) rfl (fun ls hl => ?_)
  refine lv_iconst (v := 1) hx hb dL_law_16 rfl ?_
  refine z_newa_long (D := D) (cI := cI) (cZ := cZ) (cJ := cJ) (N := 1) hx hb (hts (Cond.arrayClass .long) (by decide +kernel)) hK hP hD hS hA (by decide) (by decide) (by decide) (Nat.le_of_ble_eq_true rfl) (Nat.le_of_ble_eq_true rfl) dL_law_17 (fun q4 H hP hD hS => ?_)
  have hP : va_P D vwCl [(q0, zO 5 [.ref (u1 0), .ref (u1 7), .ref (u1 11), .ref (u1 17), .ref (u1 24)]), ((u1 0), zO 2 [.ref (u1 1), .ref (u1 2), .ref (u1 3), .ref (u1 4), .ref (u1 5), .ref (u1 6), .int 0, .int 0, .int 0]), ((u1 1), zA cI 200), ((u1 2), zA cI 200), ((u1 3), zA cI 200), ((u1 4), zA cZ 100), ((u1 5), zA cI 30), ((u1 6), zA cI 30), ((u1 7), zO 1 [.ref (u1 0), .ref (u1 8), .ref (u1 9), .ref (u1 10), .int 0]), ((u1 8), zA cI 200), ((u1 9), zA cI 200), ((u1 10), zA cI 200), ((u1 11), zO 4 [.ref (u1 0), .ref (u1 12), .ref (u1 13), .ref (u1 14), .ref (u1 15), .ref (u1 16), .int 0, .int 0]), ((u1 12), zA cI 30), ((u1 13), zA cI 30), ((u1 14), zA cI 30), ((u1 15), zA cI 30), ((u1 16), zA cI 30), ((u1 17), zO 0 [.ref (u1 0), .ref (u1 18), .ref (u1 19), .ref (u1 20), .ref (u1 21), .ref (u1 22), .ref (u1 23), .int 0, .int 0]), ((u1 18), zA cI 30), ((u1 19), zA cZ 30), ((u1 20), zA cI 30), ((u1 21), zA cI 5), ((u1 22), zA cZ 30), ((u1 23), zA cI 30), ((u1 24), zO 3 [.ref (u1 0), .ref (u1 7), .ref (u1 11), .ref (u1 25), .ref (u1 26), .ref (u1 27), .ref (u1 28), .int 0, .int 0, .int 0, .int 0]), ((u1 25), zA cZ 30), ((u1 26), zA cZ 100), ((u1 27), zA cZ 200), ((u1 28), zA cI 200), (q2, zO 6 [.int 0, .int 0, .int 0, .int 0, .ref (u3 0), .ref (u3 1), .ref (u3 2), .ref (u3 3), .ref (u3 4), .ref (u3 5), .int 0, .ref (u3 6), .int 0, .ref (u3 7), .ref (u3 8), .ref (u3 9), .int 0, .ref (u3 10), .ref (u3 11), .ref (u3 12), .int 0, .ref (u3 13), .ref (u3 14), .ref (u3 15)]), ((u3 0), zA cI 100), ((u3 1), zA cI 100), ((u3 2), zA cZ 100), ((u3 3), zA cI 900), ((u3 4), zA cI 30), ((u3 5), zA cI 30), ((u3 6), zA cI 200), ((u3 7), zA cI 30), ((u3 8), zA cI 30), ((u3 9), zA cI 30), ((u3 10), zA cI 30), ((u3 11), zA cZ 30), ((u3 12), zA cZ 30), ((u3 13), zA cZ 30), ((u3 14), zA cZ 100), ((u3 15), zA cZ 200), (q4, zJ cJ 1)] H := hP
  have hD : va_D A [(q0, zO 5 [.ref (u1 0), .ref (u1 7), .ref (u1 11), .ref (u1 17), .ref (u1 24)]), ((u1 0), zO 2 [.ref (u1 1), .ref (u1 2), .ref (u1 3), .ref (u1 4), .ref (u1 5), .ref (u1 6), .int 0, .int 0, .int 0]), ((u1 1), zA cI 200), ((u1 2), zA cI 200), ((u1 3), zA cI 200), ((u1 4), zA cZ 100), ((u1 5), zA cI 30), ((u1 6), zA cI 30), ((u1 7), zO 1 [.ref (u1 0), .ref (u1 8), .ref (u1 9), .ref (u1 10), .int 0]), ((u1 8), zA cI 200), ((u1 9), zA cI 200), ((u1 10), zA cI 200), ((u1 11), zO 4 [.ref (u1 0), .ref (u1 12), .ref (u1 13), .ref (u1 14), .ref (u1 15), .ref (u1 16), .int 0, .int 0]), ((u1 12), zA cI 30), ((u1 13), zA cI 30), ((u1 14), zA cI 30), ((u1 15), zA cI 30), ((u1 16), zA cI 30), ((u1 17), zO 0 [.ref (u1 0), .ref (u1 18), .ref (u1 19), .ref (u1 20), .ref (u1 21), .ref (u1 22), .ref (u1 23), .int 0, .int 0]), ((u1 18), zA cI 30), ((u1 19), zA cZ 30), ((u1 20), zA cI 30), ((u1 21), zA cI 5), ((u1 22), zA cZ 30), ((u1 23), zA cI 30), ((u1 24), zO 3 [.ref (u1 0), .ref (u1 7), .ref (u1 11), .ref (u1 25), .ref (u1 26), .ref (u1 27), .ref (u1 28), .int 0, .int 0, .int 0, .int 0]), ((u1 25), zA cZ 30), ((u1 26), zA cZ 100), ((u1 27), zA cZ 200), ((u1 28), zA cI 200), (q2, zO 6 [.int 0, .int 0, .int 0, .int 0, .ref (u3 0), .ref (u3 1), .ref (u3 2), .ref (u3 3), .ref (u3 4), .ref (u3 5), .int 0, .ref (u3 6), .int 0, .ref (u3 7), .ref (u3 8), .ref (u3 9), .int 0, .ref (u3 10), .ref (u3 11), .ref (u3 12), .int 0, .ref (u3 13), .ref (u3 14), .ref (u3 15)]), ((u3 0), zA cI 100), ((u3 1), zA cI 100), ((u3 2), zA cZ 100), ((u3 3), zA cI 900), ((u3 4), zA cI 30), ((u3 5), zA cI 30), ((u3 6), zA cI 200), ((u3 7), zA cI 30), ((u3 8), zA cI 30), ((u3 9), zA cI 30), ((u3 10), zA cI 30), ((u3 11), zA cZ 30), ((u3 12), zA cZ 30), ((u3 13), zA cZ 30), ((u3 14), zA cZ 100), ((u3 15), zA cZ 200), (q4, zJ cJ 1)] := hD
  refine W.widen (k := 48) (n := 4237) (by omega) (by omega) ?_
  refine lv_astore_n (lv' := [(3, Value.ref q4), (2, Value.ref q2), (1, Value.ref q0), (0, Value.ref b)]) hx hb dL_law_19 rfl hl (by decide) rfl (fun ls hl => ?_)
  refine lv_iconst (v := i32 0) hx hb dL_law_20 rfl ?_
  refine lv_istore (lv' := [(4, Value.int (i32 0)), (3, Value.ref q4), (2, Value.ref q2), (1, Value.ref q0), (0, Value.ref b)]) hx hb dL_law_21 hl (by decide) rfl (fun ls hl => ?_)
  let ad : Nat → Nat := fun k => ([q0, u1 0, u1 7, u1 11, u1 17, u1 24, u1 1, u1 2, u1 3, u1 4, u1 5, u1 6, u1 8, u1 9, u1 10, u1 12, u1 13, u1 14, u1 15, u1 16, u1 18, u1 19, u1 20, u1 21, u1 22, u1 23, u1 25, u1 26, u1 27, u1 28, q2, u3 0, u3 1, u3 2, u3 3, u3 4, u3 5, u3 6, u3 7, u3 8, u3 9, u3 10, u3 11, u3 12, u3 13, u3 14, u3 15, q4, b] : List Nat).getD k 0
  have hPw : va_P D vwCl (wC cI cZ cJ ad (fun _ _ => 0)) H := by
    rw [wC_0]
    exact hP.sub [0, 1, 8, 12, 18, 25, 2, 3, 4, 5, 6, 7, 9, 10, 11, 13, 14, 15, 16, 17, 19, 20, 21, 22, 23, 24, 26, 27, 28, 29, 30, 31, 32, 33, 34, 35, 36, 37, 38, 39, 40, 41, 42, 43, 44, 45, 46, 47] rfl
  have hDw : va_D A (wC cI cZ cJ ad (fun _ _ => 0)) := by
    rw [wC_0]
    exact hD.sub [0, 1, 8, 12, 18, 25, 2, 3, 4, 5, 6, 7, 9, 10, 11, 13, 14, 15, 16, 17, 19, 20, 21, 22, 23, 24, 26, 27, 28, 29, 30, 31, 32, 33, 34, 35, 36, 37, 38, 39, 40, 41, 42, 43, 44, 45, 46, 47] (by decide) rfl
  refine lw_loop (X := (p, l, e, room_1, s, m, #[Value.ref b], below, meth, c, D, ad, cI, cZ, cJ, A, lw_Z below #[Value.ref b] s, 3949)) (N := L) (xs := xs) ⟨hx, hb, hown, hts, hK, hA, Nat.le_refl _, Nat.le_refl _, Nat.le_refl _, (by decide), hEV, hml, hNC⟩ ⟨hX, hbl, hbA⟩ hL hst ?_ L 0 (fun _ _ => 0) 48 (Int.le_refl _) (by omega) (by omega) (by omega) ALL_0 H locs ls hPw hDw hS (fun _ _ => inR_0) ?_ (fun v hv => by cases hv) ?_
  · intro i h kc hkc H locs ls a1 a2 a3 a4 a6 a7 a8
    refine lv_iconst (v := 1) hx hb dL_law_1179 rfl ?_
    refine va_forget (fun q hq => hAl _ (a3.2.2 q hq)) ?_
    refine W.widen (k := 1084) (n := 12501) (by omega) (by omega) ?_
    exact lw_ret hx hb hr hlocks dL_law_1180
  · intro q hq
    simp only [L0, List.mem_cons, List.not_mem_nil, or_false] at hq
    rcases hq with rfl | rfl | rfl | rfl | rfl
    · exact inR_0
    all_goals exact trivial
  · rw [hml]
    exact hl
-- ===== YOUR PART ENDS =====
set_option maxHeartbeats 4000000 in
theorem lw_walk (l : Launch) (hst : l.stackTraces = false) (b : Addr) (xs : List Int32) : MetFree l x (headSpec (Jvm.Cond.code x code maxLocals ret :: tables_1) room_1) (lw_P b xs) (fun _ _ _ _ _ => True) lw_Q := by
  refine MetFree.of_bodyS (code := code) (maxLocals := maxLocals) (ret := ret) (by decide) ?_ ?_
  · intro args s m h hn
    obtain ⟨meth, c, h1, h2, h3, h4, h5, h6, -, -⟩ := Cond.code_spec hn (atoms_spec (ws := Jvm.Cond.code x code maxLocals ret :: tables_1) h _ List.mem_cons_self)
    exact ⟨meth, c, h1, h2, h3, h4, h5, h6⟩
  · intro p e s m args below meth c s₁ B hml0 hP _
    obtain ⟨rfl, hx, hbd, hgv⟩ := hP
    obtain ⟨scr, harrAt, hlist, hof, hsmall⟩ := hx
    obtain ⟨hcb, hkn, -, -⟩ := State.arrayAt?_spec harrAt
    have hown : s.vm.findClass R_law = some m.cls := findClass_of_methodNamed B.named
    have hts0 : ∀ c ∈ (Jvm.Cond.code x code maxLocals ret :: tables_1), c.before #[Value.ref b] s = true := atoms_spec (ws := Jvm.Cond.code x code maxLocals ret :: tables_1) B.pre
    have hts : ∀ w ∈ lw_tbl, w.before #[Value.ref b] s = true := k2_hts_sels lw_privs (fun w hw => hts0 w (List.mem_cons_of_mem _ hw)) lw_privs_ok
    have hml : c.maxLocals = 7 := B.maxLocals_eq (hts0 _ List.mem_cons_self)
    have X₀ : Stand p l e room_1 s m #[Value.ref b] below meth c s₁ [] 0 0 := Stand.of_body B
    have hh0 : s₁.heap = s.heap := by rw [B.state]; rfl
    have hsz : scr.slots.size = xs.length := by rw [← Array.length_toList, hlist, List.length_map]
    have hval : ∀ j : Nat, j < xs.length → scr.slots[j]? = some (.int (xs.getD j 0)) := fun j hj => by
      rw [← Array.getElem?_toList, hlist]
      simp [hj]
    have hbl : b < s.heap.size := (Array.getElem?_eq_some_iff.mp hcb).1
    have hX : va_X b xs.length (fun j => xs.getD j 0) s s.heap := ⟨scr, hcb, hof, hkn, hsz, hval⟩
    have K : W p l e room_1 s m #[Value.ref b] below meth c s₁.heap [] 0 0 (lw_Z below #[Value.ref b] s) (entryFrame m ([Value.ref b] : List Value).toArray 7) := by
      rw [hh0]
      exact whole_start l hst hbd ⟨B.exec, B.bytes, B.returns, hml, hown, hts, hX, hbl, B.notSynchronized, hgv⟩
    obtain ⟨t, a1, o, b1, b2, b3⟩ := K s₁ rfl X₀
    exact ⟨t, o, a1, b1, b2, b3⟩
theorem lw_pre_spec {args : Array Value} {s : State} (h : (Jvm.Cond.and given_1 narrow_1).before args s = true) (hr : rest_1_c.before args s = true) : ∃ (b : Addr) (xs : List Int32), lw_P b xs args s := by
  have hs := flat_of_before _ h
  have hq := flat_of_before _ hr
  have hc : (Cond.count 1).before args s = true := hs _ (by decide +kernel)
  have harr : (Cond.arrayOf (.arg 0) .int).before args s = true := hs _ (by decide +kernel)
  have hle : (Cond.le (.length (.arg 0)) (.int 2560)).before args s = true := hs _ (by decide +kernel)
  have hlen : (Cond.isInt (.length (.arg 0))).before args s = true := hq _ (by decide +kernel)
  have hall : (Cond.all (.arg 0) (.isInt (.elem (.arg 0) (.index 0)))).before args s = true := hq _ (by decide +kernel)
  obtain ⟨b, xs, hb, hx⟩ := State.ints_of_pre rfl harr hlen hall
  have hsm : xs.length < 2 ^ 31 := hx.choose_spec.2.2.2
  have hev : (Term.length (.arg 0)).eval args s none [] s = some (.int xs.length.toInt32) := hx.length_eval hb
  have hv := Cond.le_ints hev (show (Term.int 2560).eval args s none [] s = some (.int 2560) from rfl)
  have hd : xs.length.toInt32 ≤ 2560 := by
    simpa [Cond.before, Cond.holds, hv] using hle
  have hN : xs.length ≤ 2560 := (Int32.ofNat_le_ofNat hsm (by decide)).mp (show Int32.ofNat xs.length ≤ Int32.ofNat 2560 from hd)
  exact ⟨b, xs, Cond.one_arg hc (show args[0]? = some (.ref b) from hb), hx, hN, h⟩
theorem lw_comes (l : Launch) (hst : l.stackTraces = false) : Comes l x (Jvm.Cond.code x code maxLocals ret :: tables_1) room_1 (fun tb e args s => Calls_1 tb e args s ∧ rest_1 tb e args s ∧ Pre_1 tb e args s)
    (fun _ _ args s o t => lw_Q args s o t) := by
  intro p e ha hc hk s m args below hf hfit hheap happ hpre
  obtain ⟨b, xs, hP⟩ := lw_pre_spec hpre.2.2 hpre.2.1
  obtain ⟨k, o, h1, h2, h3, hQ⟩ := lw_walk l hst b xs p e ha hc hk s m args below hf ((Spec.applies_iff_loose hf).mp happ).1 hP trivial
  exact ⟨k, o, h1, h2, h3, hQ⟩
theorem lw_frame {s t : State} {o : Outcome} {args : Array Value} (h : Framed s o t [] 1084 12501) :
    Framed s o t (fieldLocs frame_1_writes args s ++ arrayLocs frame_1_arrays args s ++ staticLocs frame_1_statics s) 1084 12501 := h
theorem lw_limb (L : Cond) (hL : ∀ (args : Array Value) (s t : State), L.after args s (.returned (some (.int 1))) t = true) :
    ArmFor flags0 classFile x code maxLocals ret World_1 tables_1 room_1 Calls_1 rest_1 Pre_1
      (fun tb e a s o t => postC L tb e a s o t ∧ Framed s o t (fieldLocs frame_1_writes a s ++ arrayLocs frame_1_arrays a s ++ staticLocs frame_1_statics s) 1084 12501) := by
  intro l hfl _ _ p e ha hc hk s m args below hf hfit hheap happ hpre
  have hst : l.stackTraces = false := by
    unfold Launch.stackTraces
    rw [hfl]
    decide +kernel
  obtain ⟨k, o, h1, h2, h3, rfl, hF⟩ := lw_comes l hst p e ha hc hk s m args below hf hfit hheap happ hpre
  exact ⟨k, _, h1, h2, h3, hL args s _, lw_frame hF⟩
theorem i_vc : Claimed_1_1 ∧ Claimed_1_2 := ⟨lw_limb limb_1_1 (fun args s t => by simp [limb_1_1, Cond.after, Cond.holds, Cond.value]), lw_limb limb_1_2 (fun args s t => Cond.after_iff.mpr (by
  first | (rw [show limb_1_2 = Cond.eq .result (.int 1) from rfl, Cond.eq_ints (x := 1) (y := 1) rfl rfl]; simp; done) | (simp [limb_1_2, Cond.value, Term.eval]; done)))⟩

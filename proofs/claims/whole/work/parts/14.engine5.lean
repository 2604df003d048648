/-! the engine's rows as the walks use them: a stored value gets a name, a changed picture gets a name; fewer locals -/
section EngineS
variable {X : CxT} {cc : ByteArray} {own : String} {f n nL pc k : Nat} {L : List (Nat × Vv)} {st : List Vv} {h : Hp}
theorem s_sub {L' : List (Nat × Vv)} (ks : List Nat) (hl : ks.filterMap (fun j => L[j]?) = L') (kk : Wh X pc L' st h k) : Wh X pc L st h k := by
  obtain ⟨p, l, e, R, s, m, args, below, meth, c, D, ad, cI, cZ, cJ, A, h0, M, post, px, mc, ret⟩ := X
  intro H locs ls a1 a2 a3 a4 a5 a6 a7 a8
  have hsub : ∀ q ∈ L', q ∈ L := by
    intro q hq
    subst hl
    obtain ⟨j, -, hj⟩ := List.mem_filterMap.mp hq
    exact List.mem_of_getElem? hj
  refine kk H locs ls a1 a2 a3 a4 a5 (fun q hq => a6 q (hsub q hq)) a7 ⟨a8.1, a8.2.1, fun q hq => ?_⟩
  obtain ⟨w, hw, rfl⟩ := List.mem_map.mp hq
  exact a8.2.2 _ (List.mem_map.mpr ⟨w, hsub w hw, rfl⟩)
/-- what every state has: the picture in range, what may not change unchanged, the locals in range -/
theorem s_use (kk : RH h → Fr (XM X) (Xh X) h → (∀ q ∈ L, okL q.2) → Wh X pc L st h k) : Wh X pc L st h k := by
  obtain ⟨p, l, e, R, s, m, args, below, meth, c, D, ad, cI, cZ, cJ, A, h0, M, post, px, mc, ret⟩ := X
  intro H locs ls a1 a2 a3 a4 a5 a6 a7 a8
  exact kk a4 a5 a6 H locs ls a1 a2 a3 a4 a5 a6 a7 a8
theorem s_istore_n {q : Fin 4} {x : Int} (C : CX X cc own f n nL) (d : decode cc pc = .ok (.istore_n q, 1)) (hn : (q : Nat) < nL) (kk : ∀ y, y = x → Wh X (pc + 1) (((q : Nat), vi y) :: L.filter (fun w => !(w.1 == (q : Nat)))) st h k) : Wh X pc L (vi x :: st) h k := r_istore_n C d hn rfl (kk x rfl)
theorem s_istore {i : Nat} {x : Int} (C : CX X cc own f n nL) (d : decode cc pc = .ok (.istore i, 2)) (hn : i < nL) (kk : ∀ y, y = x → Wh X (pc + 2) ((i, vi y) :: L.filter (fun w => !(w.1 == i))) st h k) : Wh X pc L (vi x :: st) h k := r_istore C d hn rfl (kk x rfl)
theorem s_iinc {i : Nat} {z x : Int} (j : Nat) (C : CX X cc own f n nL) (d : decode cc pc = .ok (.iinc i z, 3)) (hj : L[j]? = some (i, vi x)) (hn : i < nL) (o : InR (x + z)) (kk : ∀ y, y = x + z → Wh X (pc + 3) ((i, vi y) :: L.filter (fun w => !(w.1 == i))) st h k) : Wh X pc L st h k := r_iinc j C d hj hn o rfl (kk _ rfl)
theorem s_iastore {r N : Nat} {i x : Int} {M : List Nat} (C : CX X cc own f n nL) (d : decode cc pc = .ok (.iastore, 1)) (hy : lay[r]? = some (.inl (0, N))) (hM : XM X = M) (hr : r ∈ M) (o : 0 ≤ i ∧ i < N) (kk : ∀ h1, h1 = hup h r i x → Wh X (pc + 1) L st h1 k) : Wh X pc L (vi x :: vi i :: vr r :: st) h k := r_iastore C d hy hM hr o (kk _ rfl)
theorem s_bastore {r N : Nat} {i x : Int} {M : List Nat} (C : CX X cc own f n nL) (d : decode cc pc = .ok (.bastore, 1)) (hy : lay[r]? = some (.inl (1, N))) (hM : XM X = M) (hr : r ∈ M) (o : 0 ≤ i ∧ i < N) (o1 : x = 0 ∨ x = 1) (kk : ∀ h1, h1 = hup h r i x → Wh X (pc + 1) L st h1 k) : Wh X pc L (vi x :: vi i :: vr r :: st) h k := r_bastore C d hy hM hr o o1 (kk _ rfl)
theorem s_putI {r i idx ci N : Nat} {x : Int} {fs : List (Option Nat)} {Cn : String} {T : u_T} {ty0 : Nat → FieldType} {M : List Nat} (C : CX X cc own f n nL) (d : decode cc pc = .ok (.putfield idx, 3)) (hy : lay[r]? = some (.inr (ci, fs))) (hc : vwCl[ci]? = some (Cn, T, N)) (hi : i < N) (hf : fs[i]? = some none) (hin : ∀ w ∈ u_ws Cn T N, w ∈ wsL_law) (hl : Cond.fieldLink own idx (T i).1 (T i).2.1 (T i).2.2.1 ∈ wsL_law)
    (hty : ∀ k, k < N → parseFieldDescriptor (T k).2.2.1 = some (ty0 k)) (hnm : ∀ a, a < N → ∀ b, b < N → a ≠ b → (T a).2.1 ≠ (T b).2.1) (hfin : (T i).2.2.2 = false) (hint : parseFieldDescriptor (T i).2.2.1 = some .int) (hM : XM X = M) (hr : r ∈ M)
    (kk : ∀ h1, h1 = hup h r i x → Wh X (pc + 3) L st h1 k) : Wh X pc L (vi x :: vr r :: st) h k := r_putI C d hy hc hi hf hin hl hty hnm hfin hint hM hr (kk _ rfl)
theorem v1s (xs : List Int) : ∀ v ∈ xs.map vi, v1 v := by
  intro v hv
  obtain ⟨x, -, rfl⟩ := List.mem_map.mp hv
  exact trivial
theorem fr0 {h h1 : Hp} (a : Fr [] h h1) : h1 = h := funext fun q => a q (fun z => by cases z)
/-- a call of a method that returns an int (or a boolean), and changes cells -/
theorem s_calli {y : MethodName} {ccY : ByteArray} {nLY : Nat} {tyY : FieldType} {fY nY idx r ci N : Nat} {Cn : String} {T : u_T} {fs : List (Option Nat)} (xs : List Int) (rest : List Vv) {MY : List Nat} {postY : Int → Hp → Prop}
    (C : CX X cc own f n nL) (d : decode cc pc = .ok (.invokevirtual idx, 3)) (ok : CallOk y ccY nLY (some tyY) Cn own idx xs.length) (hy : lay[r]? = some (.inr (ci, fs))) (hc : vwCl[ci]? = some (Cn, T, N)) (hf : fY + 1 ≤ f) (hn : 8 + (nLY + 11) + nY ≤ n) (hrest : rest.length ≤ 4) (hst : st = (xs.map vi).reverse ++ vr r :: rest) {M : List Nat} (hXM : XM X = M) (hM : ∀ a ∈ MY, a ∈ M)
    (hC : Ct (Xl X) y ccY nLY (some tyY) fY nY 0 (vr r :: xs.map vi) h MY postY (fun _ => False))
    (kk : ∀ (r' : Int) (h' : Hp), Fr MY h h' → RH h' → InR r' → postY r' h' → Wh X (pc + 3) L (vi r' :: rest) h' 0) : Wh X pc L st h 0 :=
  r_calli (k := 0) (mcY := 0) (av := xs.map vi) (rest := rest) C d hC (by rw [List.length_map]; exact ok) hst hy hc (v1s xs) hf hn hrest (Nat.zero_le _) (by rw [hXM]; exact hM) (fun E hE => absurd hE id) kk
/-- .. and changes none -/
theorem s_calli0 {y : MethodName} {ccY : ByteArray} {nLY : Nat} {tyY : FieldType} {fY nY idx r ci N : Nat} {Cn : String} {T : u_T} {fs : List (Option Nat)} (xs : List Int) (rest : List Vv) {postY : Int → Hp → Prop}
    (C : CX X cc own f n nL) (d : decode cc pc = .ok (.invokevirtual idx, 3)) (ok : CallOk y ccY nLY (some tyY) Cn own idx xs.length) (hy : lay[r]? = some (.inr (ci, fs))) (hc : vwCl[ci]? = some (Cn, T, N)) (hf : fY + 1 ≤ f) (hn : 8 + (nLY + 11) + nY ≤ n) (hrest : rest.length ≤ 4) (hst : st = (xs.map vi).reverse ++ vr r :: rest)
    (hC : Ct (Xl X) y ccY nLY (some tyY) fY nY 0 (vr r :: xs.map vi) h [] postY (fun _ => False))
    (kk : ∀ (r' : Int), InR r' → postY r' h → Wh X (pc + 3) L (vi r' :: rest) h 0) : Wh X pc L st h 0 :=
  r_calli (k := 0) (mcY := 0) (av := xs.map vi) (rest := rest) C d hC (by rw [List.length_map]; exact ok) hst hy hc (v1s xs) hf hn hrest (Nat.zero_le _) (fun _ q => by cases q) (fun E hE => absurd hE id) (fun r' h' g1 _ g3 g4 => by cases fr0 g1; exact kk r' g3 g4)
/-- a call of a void method that changes cells -/
theorem s_callv {y : MethodName} {ccY : ByteArray} {nLY : Nat} {fY nY idx r ci N : Nat} {Cn : String} {T : u_T} {fs : List (Option Nat)} (xs : List Int) (rest : List Vv) {MY : List Nat} {postY : Int → Hp → Prop}
    (C : CX X cc own f n nL) (d : decode cc pc = .ok (.invokevirtual idx, 3)) (ok : CallOk y ccY nLY none Cn own idx xs.length) (hy : lay[r]? = some (.inr (ci, fs))) (hc : vwCl[ci]? = some (Cn, T, N)) (hf : fY + 1 ≤ f) (hn : 8 + (nLY + 11) + nY ≤ n) (hrest : rest.length ≤ 4) (hst : st = (xs.map vi).reverse ++ vr r :: rest) {M : List Nat} (hXM : XM X = M) (hM : ∀ a ∈ MY, a ∈ M)
    (hC : Ct (Xl X) y ccY nLY none fY nY 0 (vr r :: xs.map vi) h MY postY (fun _ => False))
    (kk : ∀ (h' : Hp), Fr MY h h' → RH h' → postY 0 h' → Wh X (pc + 3) L rest h' 0) : Wh X pc L st h 0 :=
  r_callv (k := 0) (mcY := 0) (av := xs.map vi) (rest := rest) C d hC (by rw [List.length_map]; exact ok) hst hy hc (v1s xs) hf hn hrest (Nat.zero_le _) (by rw [hXM]; exact hM) (fun E hE => absurd hE id) kk
/-- a call of a void method that throws E0 where tf holds, and changes nothing -/
theorem s_callx {y : MethodName} {ccY : ByteArray} {nLY : Nat} {fY nY idx r ci N : Nat} {Cn : String} {T : u_T} {fs : List (Option Nat)} (xs : List Int) (rest : List Vv) {postY : Int → Hp → Prop}
    (C : CX X cc own f n nL) (d : decode cc pc = .ok (.invokevirtual idx, 3)) (ok : CallOk y ccY nLY none Cn own idx xs.length) (hy : lay[r]? = some (.inr (ci, fs))) (hc : vwCl[ci]? = some (Cn, T, N)) (hf : fY + 1 ≤ f) (hn : 8 + (nLY + 11) + nY ≤ n) (hrest : rest.length ≤ 4) (hst : st = (xs.map vi).reverse ++ vr r :: rest) {tf : Prop} {E0 : String}
    (hC : ∀ mc, (tf → 1 ≤ mc) → Ct (Xl X) y ccY nLY none fY nY mc (vr r :: xs.map vi) h [] (fun r' h' => ¬ tf ∧ postY r' h') (fun E => tf ∧ E = E0))
    (kx : tf → XX X E0 ∧ h = Xh X ∧ 1 ≤ Xc X)
    (kk : ¬ tf → postY 0 h → Wh X (pc + 3) L rest h 0) : Wh X pc L st h 0 :=
  Classical.byCases (fun ht : tf => r_callv (k := 0) (mcY := 1) (av := xs.map vi) (rest := rest) C d (hC 1 (fun _ => Nat.le_refl 1)) (by rw [List.length_map]; exact ok) hst hy hc (v1s xs) hf hn hrest (kx ht).2.2 (fun _ q => by cases q) (fun E hE => by rw [hE.2]; exact ⟨(kx ht).1, (kx ht).2.1⟩) (fun h' _ _ g => absurd ht g.1))
    (fun ht : ¬ tf => r_callv (k := 0) (mcY := 0) (av := xs.map vi) (rest := rest) C d (hC 0 (fun z => absurd z ht)) (by rw [List.length_map]; exact ok) hst hy hc (v1s xs) hf hn hrest (Nat.zero_le _) (fun _ q => by cases q) (fun E hE => absurd hE.1 ht) (fun h' g1 _ g => by cases fr0 g1; exact kk ht g.2))
/-- what a throw of the class cls wants of the words -/
def ThrowOk (ik ic : Nat) (cls : String) : Prop := Bundle.fit cls = true ∧ Cond.classLink RX5 ik cls ∈ wsL_law ∧ Cond.initialized cls ∈ wsL_law ∧ (∀ w ∈ (vx_atS RX5 ic cls ["java/lang/RuntimeException", "java/lang/Exception"]).filter goodWord, w ∈ wsL_law) ∧ (∀ w ∈ (vx_atS RX5 ic cls ["java/lang/RuntimeException", "java/lang/Exception"]).filter (fun w => !goodWord w), w ∈ EVw) ∧ ((Cond.classLink RX5 ik cls :: Cond.initialized cls :: vx_atS RX5 ic cls ["java/lang/RuntimeException", "java/lang/Exception"]).all vx_ot = true)
theorem EVw_t : EVw.all (fun w => w.onTables) = true := by decide +kernel
theorem fitN : ∀ n ∈ ["java/lang/RuntimeException", "java/lang/Exception"], Bundle.fit n = true := by decide +kernel
set_option maxHeartbeats 4000000 in
theorem s_throw {is ik ic : Nat} {cls : String} (text : String) (C : CX X cc RX5 f n nL) (hl : (Xl X).stackTraces = false) (d0 : decode cc pc = .ok (.new ik, 3)) (d3 : decode cc (pc + 3) = .ok (.dup, 1)) (d4 : decode cc (pc + 4) = .ok (.ldc is, 2)) (d6 : decode cc (pc + 6) = .ok (.invokespecial ic, 3)) (d9 : decode cc (pc + 9) = .ok (.athrow, 1))
    (ok : ThrowOk ik ic cls) (hs : (is, text) ∈ EVs) (hf : 6 ≤ f) (hn : 82 ≤ n) (o : XX X cls ∧ h = Xh X ∧ 1 ≤ Xc X) : Wh X pc L [] h 0 := by
  obtain ⟨p, l, e, R, s, m, args, below, meth, c, D, ad, cI, cZ, cJ, A, h0, M, post, px, mc, ret⟩ := X
  intro H locs ls a1 a2 a3 a4 a5 a6 a7 a8
  obtain ⟨hx, hb, hown, hts, hK, hlocks, hr, htab, hA, hRf, hRl, hRc, hRs, hEV, hml⟩ := C
  obtain ⟨k1, k2, k3, k4, k5, k6⟩ := ok
  obtain ⟨o1, o2, o3⟩ := o
  have o2 : h = h0 := o2
  have o3 : 1 ≤ mc := o3
  have o1 : px cls := o1
  subst o2
  obtain ⟨sa, hsa⟩ := hEV.2.2.2 _ hs
  refine vx_throwS (names := ["java/lang/RuntimeException", "java/lang/Exception"]) (text := text) (sa := sa) (A := A) (mc := mc) (ms := 6 * mc) hx hb hl hown k1 fitN (hts _ k2) (hts _ k3) hsa (vx_hat (fun w hw => hts w (k4 w hw)) k5 (fun w hw => va_Nw.use (List.all_eq_true.mp EVw_t w hw) (hEV.2.2.1 w hw))) (fun w hw => List.all_eq_true.mp k6 w hw) hEV.1 hEV.2.1 a3 a8.1 d0 d3 d4 d6 d9 (fun x hx9 => absurd (htab x hx9) id) (by show 2 + 3 < R.frames; omega) (by show 0 + (13 * (2 + 1) + 43) ≤ R.locals; omega) (by rw [hRc]; omega) (by rw [hRs]; omega) hlocks ?_ a3.2.2 (by omega) (by omega)
  intro t hal hz hkp
  refine ⟨(), trivial, ⟨o1, a1.kept (fun k q hk => hkp q.1 (a1 k q hk).lt), va_K.moved hal hK, a2⟩, Nat.le_trans a3.1 hz, fun q g1 g2 => ?_⟩
  rw [hkp q (Nat.lt_of_lt_of_le g1 a3.1)]
  exact a3.2.1 q g1 g2
/-- Math.max -/
theorem s_max {x y : Int} {idx : Nat} (C : CX X cc own f n nL) (d : decode cc pc = .ok (.invokestatic idx, 3)) (w1 : Cond.methodLink own idx Lib.Math.max.name ∈ wsL_law) (w2 : Cond.static Lib.Math.max.name ∈ wsL_law) (w3 : Cond.initialized "java/lang/Math" ∈ wsL_law) (w4 : Cond.code Lib.Math.max.name Lib.Math.max.code 2 (some .int) ∈ wsL_law) (hst : st.length ≤ 4) (hf : 1 ≤ f) (hn : 21 ≤ n) (kk : Wh X (pc + 3) L (vi (max x y) :: st) h 0) : Wh X pc L (vi y :: vi x :: st) h 0 := by
  obtain ⟨p, l, e, R, s, m, args, below, meth, c, D, ad, cI, cZ, cJ, A, h0, M, post, px, mc, ret⟩ := X
  intro H locs ls a1 a2 a3 a4 a5 a6 a7 a8
  obtain ⟨hx, hb, hown, hts, hK, hlocks, hr, htab, hA, hRf, hRl, hRc, hRs, hEV, hml⟩ := C
  have hy : InR y := okH a7
  have hX : InR x := okH (okT a7)
  have e1 : (if i32 x < i32 y then i32 y else i32 x) = i32 (max x y) := by
    by_cases q : x < y
    · rw [if_pos ((i32_lt hX hy).mpr q), Int.max_eq_right (by omega)]
    · rw [if_neg (fun z => q ((i32_lt hX hy).mp z)), Int.max_eq_left (by omega)]
  have hcat := catSum ad st
  refine va_mmax (x := i32 x) (y := i32 y) hx hb a8.1.symm hown (hts _ w1) (hts _ w2) (hts _ w3) (hts _ w4) (by omega) (by simp only [List.map_map] at hcat ⊢; omega) (Nat.zero_le _) (Nat.zero_le _) d ?_
  rw [e1]
  refine kk H locs ls a1 a2 a3 a4 a5 a6 (okS1 (v := vi (max x y)) ?_ (okT (okT a7))) a8
  rcases Int.le_total x y with q | q
  · rw [Int.max_eq_right q]; exact hy
  · rw [Int.max_eq_left q]; exact hX
set_option maxHeartbeats 4000000 in
/-- a static call that returns an int, and changes nothing -/
theorem s_calls0 {y : MethodName} {ccY : ByteArray} {nLY : Nat} {tyY : FieldType} {fY nY idx : Nat} (xs : List Int) (rest : List Vv) {postY : Int → Hp → Prop}
    (C : CX X cc own f n nL) (d : decode cc pc = .ok (.invokestatic idx, 3)) (o2 : y.cls ≠ "java/lang/invoke/MethodHandle" ∧ y.cls ≠ "java/lang/invoke/VarHandle" ∧ (parseMethodDescriptor y.desc).map (fun d => d.parameters.length) = some xs.length) (w1 : Cond.methodLink own idx y ∈ wsL_law) (w2 : Cond.static y ∈ wsL_law) (w4 : Cond.initialized y.cls ∈ wsL_law) (w5 : Cond.code y ccY nLY (some tyY) ∈ wsL_law)
    (hf : fY + 1 ≤ f) (hn : 8 + (nLY + 11) + nY ≤ n) (hrest : rest.length ≤ 4) (hst : st = (xs.map vi).reverse ++ rest)
    (hC : Ct (Xl X) y ccY nLY (some tyY) fY nY 0 (xs.map vi) h [] postY (fun _ => False))
    (kk : ∀ (r' : Int), InR r' → postY r' h → Wh X (pc + 3) L (vi r' :: rest) h 0) : Wh X pc L st h 0 := by
  obtain ⟨p, l, e, R, s, m, args, below, meth, c, D, ad, cI, cZ, cJ, A, h0, M, post, px, mc, ret⟩ := X
  intro H locs ls a1 a2 a3 a4 a5 a6 a7 a8
  obtain ⟨hx, hb, hown, hts, hK, hlocks, hr, htab, hA, hRf, hRl, hRc, hRs, hEV, hml⟩ := C
  subst hst
  have avok : ∀ v ∈ xs.map vi, okL v := by
    intro v hv
    have g1 := v1s xs v hv
    have g2 := a7 v (List.mem_append_left _ (List.mem_reverse.mpr hv))
    obtain x | x | x := v
    · exact g2
    · exact absurd g1 (by exact id)
    · exact trivial
  have hsub : ∀ q, va_A (wC cI cZ cJ ad h) H.size q → A q := by
    intro q hq
    rcases hq with ⟨j, e1, hj⟩ | hq
    · exact a2.2 j _ hj
    · exact hA q (Nat.le_trans a3.1 hq)
  have hG : GoodIn wsL_law (Cond.code y ccY nLY (some tyY) :: wsL_law) := fun w hw => by
    have h1 : w ∈ wsL_law := (List.mem_cons.mp hw).elim (fun q => by rw [q]; exact w5) id
    exact ⟨h1, good_of_word (goodW w h1)⟩
  have hCW : CallB R s args own idx y ccY nLY (some tyY) (Cond.code y ccY nLY (some tyY) :: wsL_law) { frames := fY, cells := 0, slots := 6 * 0, locals := nY } 0 (6 * 0) (xs.map vi).length ∧ (Cond.static y).before args s = true := by
    refine ⟨⟨rfl, rfl, Nat.le_trans hf hRf, Nat.le_trans hn hRl, pay_in hts hG, List.mem_cons_self, hts _ w5, hts _ w4, ⟨o2.1, o2.2.1⟩, fun sig hs => ?_, hts _ w1⟩, hts _ w2⟩
    have h2 := o2.2.2
    rw [hs] at h2
    rw [List.length_map]
    exact (Option.some.inj h2).symm
  have hPre : PreS s H (va_Pc ((xs.map vi).map (cV ad)) (fun U => U.heap.size = H.size ∧ RH h ∧ (∀ v ∈ xs.map vi, okL v) ∧ bW D cI cZ cJ ad (fun _ => True) h U ∧ EV (va_A (wC cI cZ cJ ad h) H.size) U U.heap)) ((xs.map vi).map (cV ad)) := by
    refine ⟨fun a U g mk q => ?_, fun U hU hW => ⟨rfl, by rw [hU], a4, avok, ⟨by rw [hU]; exact a1, va_K.moved hW.alike hK, a2.weaken (fun _ _ _ _ => trivial)⟩, ?_⟩⟩
    · obtain ⟨q0, q1, q2, q3, ⟨qP, qK, qD⟩, qE⟩ := q
      exact ⟨q0, q1, q2, q3, ⟨qP, va_K.moved (u := U) (U := U.calling g mk a) (Vm.Alike.refl U.vm) qK, qD⟩, EV.warm (s := U) (U := U.calling g mk a) (State.WarmedH.refl U) qE⟩
    · rw [hU]
      have e1 : EV A s H := hEV.kept a3.2.1
      exact EV.warm hW (e1.narrow hsub)
  have hsz : ls.size = c.maxLocals := a8.1
  have hrun := vx_runS (g := F0 m pc ls (((xs.map vi).reverse ++ rest).map (cV ad))) (rest := rest.map (cV ad)) (As := (xs.map vi).map (cV ad)) (cells := 0) (slots := 6 * 0) (e := e) (below := below) (meth := meth) (locs := locs) ⟨hx, hb, hml, hown, hts⟩ (hC D cI cZ cJ ad H.size) hCW hPre rfl (List.length_map ..) (by rw [← hml]; exact hsz)
    (by simp [List.map_append, List.map_reverse]) (by show 2 * 0 + _ ≤ 8; have := catSum ad rest; simp only [List.map_map] at this ⊢; omega) d ⟨Nat.zero_le _, Nat.zero_le _⟩
  refine vx_calli (a := ((xs.map vi).map (cV ad)).toArray) hrun a3 (fun q _ hq => hsub q hq) hsub (fun q _ hq => hsub q hq) ?_ ?_
  · intro E ce q9 u t H1 locs1 ht hal hpx hBX hz hkp hS1 hce hcv hcl
    exact absurd hBX.1 id
  · intro r' u t H1 locs1 ht hal hp hB hz hkp hS1
    obtain ⟨p1, p2, p3, p4, p5⟩ := hp
    obtain ⟨b2, b3, b4⟩ := hB
    have e0 := fr0 p3
    rw [p1]
    rw [e0] at b2 b4 p5
    exact kk u.1 p2 p5 H1 locs1 ls (by rw [← ht]; exact b2) (b4.weaken (fun _ q _ hq => hsub q.1 hq)) hS1 a4 a5 a6 (okS1 (v := vi u.1) p2 (fun w hw => a7 w (List.mem_append_right _ hw))) a8
/-- a switch over a table: the default, or the entry at its place -/
theorem r_tsw {dflt lo hi : Int} {offs : Array Int} {len : Nat} {x : Int} {tgd : Nat} (C : CX X cc own f n nL) (d : decode cc pc = .ok (.tableswitch dflt lo hi offs, len)) (ht : (pc : Int) + dflt = (tgd : Int)) (kd : x < lo ∨ hi < x → Wh X tgd L st h k)
    (ki : ∀ (j : Nat) (off : Int), x = lo + j → offs[j]? = some off → ∃ tgt : Nat, (pc : Int) + off = (tgt : Int) ∧ Wh X tgt L st h k) (hsz : ∀ j : Nat, lo + j ≤ hi → ∃ off, offs[j]? = some off) : Wh X pc L (vi x :: st) h k := by
  obtain ⟨p, l, e, R, s, m, args, below, meth, c, D, ad, cI, cZ, cJ, A, h0, M, post, px, mc, ret⟩ := X
  intro H locs ls a1 a2 a3 a4 a5 a6 a7 a8
  obtain ⟨hx, hb, -⟩ := C
  have hX : InR x := okH a7
  by_cases hq : x < lo ∨ hi < x
  · exact lv_tableOut (x := i32 x) hx hb d (by rw [i32_toInt hX]; exact hq) ht (kd hq H locs ls a1 a2 a3 a4 a5 a6 (okT a7) a8)
  · have h1 : x = lo + ((x - lo).toNat : Nat) := by omega
    obtain ⟨off, ho⟩ := hsz (x - lo).toNat (by omega)
    obtain ⟨tgt, e1, e2⟩ := ki _ off h1 ho
    exact lv_tableIn (x := i32 x) hx hb d (by rw [i32_toInt hX]; omega) (by rw [i32_toInt hX]; omega) (by rw [i32_toInt hX]; exact ho) e1 (e2 H locs ls a1 a2 a3 a4 a5 a6 (okT a7) a8)
theorem r_ldcw {z : Int} {idx : Nat} (C : CX X cc own f n nL) (d : decode cc pc = .ok (.ldc_w idx, 3)) (w : Cond.constant own idx (i32 z) ∈ wsL_law) (o : InR z) (kk : Wh X (pc + 3) L (vi z :: st) h k) : Wh X pc L st h k := by
  obtain ⟨p, l, e, R, s, m, args, below, meth, c, D, ad, cI, cZ, cJ, A, h0, M, post, px, mc, ret⟩ := X
  intro H locs ls a1 a2 a3 a4 a5 a6 a7 a8
  obtain ⟨hx, hb, hown, hts, -⟩ := C
  exact lv_ldcw (v := i32 z) hx hb hown (hts _ w) d (kk H locs ls a1 a2 a3 a4 a5 a6 (okS1 (v := vi z) o a7) a8)
end EngineS

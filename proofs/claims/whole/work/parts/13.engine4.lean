/-! the engine's contracts and calls -/
theorem goodL : wsL_law.all goodWord = true := by decide +kernel
theorem goodW (w : Cond) (hw : w ∈ wsL_law) : goodWord w = true := List.all_eq_true.mp goodL w hw
/-- the contract of a method in the one world: args, picture, changed cells; what is owed at a return, which class may be thrown -/
def Ct (l : Launch) (y : MethodName) (cc : ByteArray) (nL : Nat) (ret : Option FieldType) (f n mc : Nat) (av : List Vv) (h0 : Hp) (M : List Nat) (post : Int → Hp → Prop) (px : String → Prop) : Prop :=
  ∀ (D : va_G) (cI cZ cJ : ClassId) (ad : Nat → Nat) (sz : Nat), vx_Met l y (.code y cc nL ret :: wsL_law) { frames := f, cells := mc, slots := 6 * mc, locals := n }
    (va_Pc (av.map (cV ad)) (fun U => U.heap.size = sz ∧ RH h0 ∧ (∀ v ∈ av, okL v) ∧ bW D cI cZ cJ ad (fun _ => True) h0 U ∧ EV (va_A (wC cI cZ cJ ad h0) sz) U U.heap))
    (QcX D cI cZ cJ ad (va_A (wC cI cZ cJ ad h0) sz) h0 M post ret) (XcX D cI cZ cJ ad (va_A (wC cI cZ cJ ad h0) sz) h0 px) mc (6 * mc) (va_A (wC cI cZ cJ ad h0) sz)
def aL : Nat → List Vv → List (Nat × Vv)
  | _, [] => []
  | i, v :: r => (i, v) :: aL (i + 1) r
theorem aL_args {ad : Nat → Nat} : ∀ (av : List Vv) (i : Nat), (∀ v ∈ av, okL v) → lv_args i (av.map (cV ad)) = (aL i av).map (fun q => (q.1, cV ad q.2)) := by
  intro av
  induction av with
  | nil => intro i _; rfl
  | cons v r ih =>
    intro i hv
    have h1 := hv v List.mem_cons_self
    have hc : ¬ (cV ad v).category = 2 := by
      obtain x | x | x := v
      · exact fun z => by cases z
      · exact absurd h1 (by exact id)
      · exact fun z => by cases z
    simp only [List.map_cons, lv_args, aL, if_neg hc]
    rw [ih (i + 1) (fun w hw => hv w (List.mem_cons_of_mem _ hw))]
theorem lg_len {ad : Nat → Nat} : ∀ (av : List Vv), (∀ v ∈ av, okL v) → (lg_sl (av.map (cV ad))).length = av.length := by
  intro av
  induction av with
  | nil => intro _; rfl
  | cons v r ih =>
    intro hv
    have h1 := hv v List.mem_cons_self
    have hc : ¬ (cV ad v).category = 2 := by
      obtain x | x | x := v
      · exact fun z => by cases z
      · exact absurd h1 (by exact id)
      · exact fun z => by cases z
    have h2 := ih (fun w hw => hv w (List.mem_cons_of_mem _ hw))
    unfold lg_sl at h2 ⊢
    rw [List.map_cons, List.flatMap_cons, if_neg hc, List.length_append, h2]
    simp [Nat.add_comm]
theorem aL_ok : ∀ (av : List Vv) (i : Nat), (∀ v ∈ av, okL v) → ∀ q ∈ aL i av, okL q.2 := by
  intro av
  induction av with
  | nil => intro i _ q hq; cases hq
  | cons v r ih =>
    intro i hv q hq
    rcases List.mem_cons.mp hq with e | e
    · rw [e]; exact hv v List.mem_cons_self
    · exact ih (i + 1) (fun w hw => hv w (List.mem_cons_of_mem _ hw)) q e
theorem EV.narrow {A B : Nat → Prop} {U : State} {H : Heap} (h : EV A U H) (hAB : ∀ q, B q → A q) : EV B U H := ⟨h.1.narrow hAB, h.2.1.narrow hAB, h.2.2⟩
theorem EV.kept {A : Nat → Prop} {U : State} {H H1 : Heap} (h : EV A U H) (hq : ∀ a : Nat, a < H.size → ¬ A a → H1[a]? = H[a]?) : EV A U H1 := ⟨h.1.kept hq, h.2.1.kept hq, h.2.2⟩
set_option maxHeartbeats 4000000 in
/-- a contract out of the walk of its body -/
theorem Ct.of {l : Launch} {y : MethodName} {cc : ByteArray} {nL : Nat} {ret : Option FieldType} {f n mc : Nat} {av : List Vv} {h0 : Hp} {M : List Nat} {post : Int → Hp → Prop} {px : String → Prop} {own : String} (hy : plainName y.cls = true) (hown0 : y.cls = own) (hlen : av.length ≤ nL)
    (body : ∀ X : CxT, CX X cc own f n nL → Xl X = l → XM X = M → Xh X = h0 → XP X = post → XX X = px → Xc X = mc → Xr X = ret → (∀ v ∈ av, okL v) → RH h0 → Wh X 0 (aL 0 av) [] h0 0) : Ct l y cc nL ret f n mc av h0 M post px := by
  intro D cI cZ cJ ad sz
  refine vx_ofW (cc := cc) (maxL := nL) (ret := ret) hy rfl ?_
  intro p e s m args below meth c s₁ B hml htab hv
  obtain ⟨rfl, hsz, hR, hav, ⟨hP, hK, hD0⟩, hEV⟩ := hv
  have hts := atoms_spec (ws := Cond.code y cc nL ret :: wsL_law) B.pre
  have hown : s.vm.findClass own = some m.cls := by rw [← hown0]; exact findClass_of_methodNamed B.named
  subst hsz
  have hD := hD0.self (sz := s.heap.size)
  generalize hAe : va_A (wC cI cZ cJ ad h0) s.heap.size = A at hD hEV ⊢
  have hA : ∀ q : Nat, s.heap.size ≤ q → A q := fun q h => by rw [← hAe]; exact Or.inr h
  have hl := lv_entry (av.map (cV ad)) (n := nL) (by rw [lg_len av hav]; exact hlen)
  rw [aL_args av 0 hav] at hl
  rw [lg_entry_eq]
  refine body (p, l, e, { frames := f, cells := mc, slots := 6 * mc, locals := n }, s, m, (av.map (cV ad)).toArray, below, meth, c, D, ad, cI, cZ, cJ, A, h0, M, post, px, mc, ret) ?_ rfl rfl rfl rfl rfl rfl rfl hav hR s.heap [] _ hP hD va_S.rf hR Fr.rf (aL_ok av 0 hav) (fun v hv => by cases hv) (by rw [hml]; exact hl)
  exact ⟨B.exec, B.bytes, hown, fun w hw => hts w (List.mem_cons_of_mem _ hw), hK, B.notSynchronized, B.returns, htab, hA, Nat.le_refl _, Nat.le_refl _, rfl, rfl, hEV, hml⟩
theorem catSum (ad : Nat → Nat) : ∀ (rest : List Vv), ((rest.map (cV ad)).map (fun v => v.category)).sum ≤ 2 * rest.length := by
  intro rest
  induction rest with
  | nil => exact Nat.le_refl _
  | cons v r ih =>
    have h1 : (cV ad v).category ≤ 2 := by obtain x | x | x := v <;> simp [cV, Value.category]
    simp only [List.map_cons, List.sum_cons, List.length_cons]
    omega
section EngineCalls
variable {X : CxT} {cc : ByteArray} {own : String} {f n nL pc k : Nat} {L : List (Nat × Vv)} {st : List Vv} {h : Hp}
/-- what stands ready for a call: the words, the receiver, the room -/
def CallOk (y : MethodName) (ccY : ByteArray) (nLY : Nat) (retY : Option FieldType) (Cn own : String) (idx na : Nat) : Prop :=
  y.cls = Cn ∧ (y.cls ≠ "java/lang/invoke/MethodHandle" ∧ y.cls ≠ "java/lang/invoke/VarHandle" ∧ (parseMethodDescriptor y.desc).map (fun d => d.parameters.length) = some na) ∧ Cond.methodLink own idx y ∈ wsL_law ∧ Cond.instanceMethod y ∈ wsL_law ∧ Cond.selects Cn y y ∈ wsL_law ∧ Cond.initialized Cn ∈ wsL_law ∧ Cond.code y ccY nLY retY ∈ wsL_law
set_option maxHeartbeats 4000000 in
theorem r_calli {y : MethodName} {ccY : ByteArray} {nLY : Nat} {tyY : FieldType} {fY nY mcY idx r ci N : Nat} {Cn : String} {T : u_T} {fs : List (Option Nat)} {av rest : List Vv} {MY : List Nat} {postY : Int → Hp → Prop} {pxY : String → Prop}
    (C : CX X cc own f n nL) (d : decode cc pc = .ok (.invokevirtual idx, 3)) (hC : Ct (Xl X) y ccY nLY (some tyY) fY nY mcY (vr r :: av) h MY postY pxY) (ok : CallOk y ccY nLY (some tyY) Cn own idx av.length) (hst : st = av.reverse ++ vr r :: rest)
    (hy : lay[r]? = some (.inr (ci, fs))) (hc : vwCl[ci]? = some (Cn, T, N)) (hav : ∀ v ∈ av, v1 v) (hf : fY + 1 ≤ f) (hn : 8 + (nLY + 11) + nY ≤ n) (hrest : rest.length ≤ 4) (hmc : k + mcY ≤ Xc X) (hM : ∀ a ∈ MY, a ∈ XM X)
    (kx : ∀ E, pxY E → XX X E ∧ h = Xh X)
    (kk : ∀ (r' : Int) (h' : Hp), Fr MY h h' → RH h' → InR r' → postY r' h' → Wh X (pc + 3) L (vi r' :: rest) h' (k + mcY)) : Wh X pc L st h k := by
  obtain ⟨p, l, e, R, s, m, args, below, meth, c, D, ad, cI, cZ, cJ, A, h0, M, post, px, mc, ret⟩ := X
  intro H locs ls a1 a2 a3 a4 a5 a6 a7 a8
  obtain ⟨hx, hb, hown, hts, hK, hlocks, hr, htab, hA, hRf, hRl, hRc, hRs, hEV, hml⟩ := C
  obtain ⟨o1, o2, w1, w2, w3, w4, w5⟩ := ok
  subst hst
  have hmc : k + mcY ≤ mc := hmc
  have avok : ∀ v ∈ vr r :: av, okL v := by
    intro v hv
    rcases List.mem_cons.mp hv with e1 | e1
    · rw [e1]; exact trivial
    · have g1 := hav v e1
      have g2 := a7 v (List.mem_append_left _ (List.mem_reverse.mpr e1))
      obtain x | x | x := v
      · exact g2
      · exact absurd g1 (by exact id)
      · exact trivial
  have hsub : ∀ q, va_A (wC cI cZ cJ ad h) H.size q → A q := by
    intro q hq
    rcases hq with ⟨j, e1, hj⟩ | hq
    · exact a2.2 j _ hj
    · exact hA q (Nat.le_trans a3.1 hq)
  have he := wC_at (cI := cI) (cZ := cZ) (cJ := cJ) (ad := ad) (h := h) hy
  rw [eC_o] at he
  have hG : GoodIn wsL_law (Cond.code y ccY nLY (some tyY) :: wsL_law) := fun w hw => by
    have h1 : w ∈ wsL_law := (List.mem_cons.mp hw).elim (fun q => by rw [q]; exact w5) id
    exact ⟨h1, good_of_word (goodW w h1)⟩
  have hCW : CallW R s args own Cn idx y ccY nLY (some tyY) (Cond.code y ccY nLY (some tyY) :: wsL_law) { frames := fY, cells := mcY, slots := 6 * mcY, locals := nY } mcY (6 * mcY) av.length := by
    refine ⟨⟨rfl, rfl, Nat.le_trans hf hRf, Nat.le_trans hn hRl, pay_in hts hG, List.mem_cons_self, hts _ w5, ?_, ⟨o2.1, o2.2.1⟩, fun sig hs => ?_, hts _ w1⟩, hts _ w2, hts _ w3⟩
    · rw [o1]; exact hts _ w4
    · have h2 := o2.2.2
      rw [hs] at h2
      exact (Option.some.inj h2).symm
  have hPre : PreV s H Cn (ad r) (va_Pc ((vr r :: av).map (cV ad)) (fun U => U.heap.size = H.size ∧ RH h ∧ (∀ v ∈ vr r :: av, okL v) ∧ bW D cI cZ cJ ad (fun _ => True) h U ∧ EV (va_A (wC cI cZ cJ ad h) H.size) U U.heap)) (av.map (cV ad)) := by
    refine ⟨fun a U g mk q => ?_, va_recv hK a1 hc he, fun U hU hW => ⟨rfl, by rw [hU], a4, avok, ⟨by rw [hU]; exact a1, va_K.moved hW.alike hK, a2.weaken (fun _ _ _ _ => trivial)⟩, ?_⟩⟩
    · obtain ⟨q0, q1, q2, q3, ⟨qP, qK, qD⟩, qE⟩ := q
      exact ⟨q0, q1, q2, q3, ⟨qP, va_K.moved (u := U) (U := U.calling g mk a) (Vm.Alike.refl U.vm) qK, qD⟩, EV.warm (s := U) (U := U.calling g mk a) (State.WarmedH.refl U) qE⟩
    · rw [hU]
      have e1 : EV A s H := hEV.kept a3.2.1
      exact EV.warm hW (e1.narrow hsub)
  have hsz : ls.size = c.maxLocals := a8.1
  have hk6 : 6 * k + 6 * mcY = 6 * (k + mcY) := by omega
  have hrun := vx_runV (g := F0 m pc ls ((av.reverse ++ vr r :: rest).map (cV ad))) (rest := rest.map (cV ad)) (As := av.map (cV ad)) (cells := k) (slots := 6 * k) (e := e) (below := below) (meth := meth) (locs := locs) ⟨hx, hb, hml, hown, hts⟩ (hC D cI cZ cJ ad H.size) hCW hPre rfl (List.length_map ..) (by rw [← hml]; exact hsz)
    (by simp [List.map_append, List.map_reverse, cV]) (by show 2 * 0 + _ ≤ 8; have := catSum ad rest; simp only [List.map_map] at this ⊢; omega) d ⟨by show k + mcY ≤ R.cells; rw [hRc]; exact hmc, by show 6 * k + 6 * mcY ≤ R.slots; rw [hRs]; omega⟩
  refine vx_calli (a := (Value.ref (ad r) :: av.map (cV ad)).toArray) hrun a3 (fun q _ hq => hsub q hq) hsub (fun q _ hq => hsub q hq) ?_ ?_
  · intro E ce q9 u t H1 locs1 ht hal hpx hBX hz hkp hS1 hce hcv hcl
    obtain ⟨b1, b2, b3, b4⟩ := hBX
    obtain ⟨c1, c2⟩ := kx E b1
    have c2 : h = h0 := c2
    subst c2
    refine vx_out (fun x hx9 => absurd (htab x hx9) id) hlocks hce hcv hcl (fun t2 ht2 hal2 => ⟨(), trivial, ⟨c1, ?_, va_K.moved hal2 hK, b4.weaken (fun _ q _ hq => hsub q.1 hq)⟩, hS1.F ht2⟩) hS1.2.2 hmc (by omega)
    rw [ht2, ← ht]; exact b2
  · intro r' u t H1 locs1 ht hal hp hB hz hkp hS1
    obtain ⟨p1, p2, p3, p4, p5⟩ := hp
    obtain ⟨b2, b3, b4⟩ := hB
    rw [p1, hk6]
    refine kk u.1 u.2 p3 p4 p2 p5 H1 locs1 ls (by rw [← ht]; exact b2) (b4.weaken (fun _ q _ hq => hsub q.1 hq)) hS1 p4 (a5.trans p3 hM) a6 (okS1 (v := vi u.1) p2 (fun w hw => a7 w (List.mem_append_right _ (List.mem_cons_of_mem _ hw)))) a8
set_option maxHeartbeats 4000000 in
theorem r_callv {y : MethodName} {ccY : ByteArray} {nLY : Nat} {fY nY mcY idx r ci N : Nat} {Cn : String} {T : u_T} {fs : List (Option Nat)} {av rest : List Vv} {MY : List Nat} {postY : Int → Hp → Prop} {pxY : String → Prop}
    (C : CX X cc own f n nL) (d : decode cc pc = .ok (.invokevirtual idx, 3)) (hC : Ct (Xl X) y ccY nLY none fY nY mcY (vr r :: av) h MY postY pxY) (ok : CallOk y ccY nLY none Cn own idx av.length) (hst : st = av.reverse ++ vr r :: rest)
    (hy : lay[r]? = some (.inr (ci, fs))) (hc : vwCl[ci]? = some (Cn, T, N)) (hav : ∀ v ∈ av, v1 v) (hf : fY + 1 ≤ f) (hn : 8 + (nLY + 11) + nY ≤ n) (hrest : rest.length ≤ 4) (hmc : k + mcY ≤ Xc X) (hM : ∀ a ∈ MY, a ∈ XM X)
    (kx : ∀ E, pxY E → XX X E ∧ h = Xh X)
    (kk : ∀ (h' : Hp), Fr MY h h' → RH h' → postY 0 h' → Wh X (pc + 3) L rest h' (k + mcY)) : Wh X pc L st h k := by
  obtain ⟨p, l, e, R, s, m, args, below, meth, c, D, ad, cI, cZ, cJ, A, h0, M, post, px, mc, ret⟩ := X
  intro H locs ls a1 a2 a3 a4 a5 a6 a7 a8
  obtain ⟨hx, hb, hown, hts, hK, hlocks, hr, htab, hA, hRf, hRl, hRc, hRs, hEV, hml⟩ := C
  obtain ⟨o1, o2, w1, w2, w3, w4, w5⟩ := ok
  subst hst
  have hmc : k + mcY ≤ mc := hmc
  have avok : ∀ v ∈ vr r :: av, okL v := by
    intro v hv
    rcases List.mem_cons.mp hv with e1 | e1
    · rw [e1]; exact trivial
    · have g1 := hav v e1
      have g2 := a7 v (List.mem_append_left _ (List.mem_reverse.mpr e1))
      obtain x | x | x := v
      · exact g2
      · exact absurd g1 (by exact id)
      · exact trivial
  have hsub : ∀ q, va_A (wC cI cZ cJ ad h) H.size q → A q := by
    intro q hq
    rcases hq with ⟨j, e1, hj⟩ | hq
    · exact a2.2 j _ hj
    · exact hA q (Nat.le_trans a3.1 hq)
  have he := wC_at (cI := cI) (cZ := cZ) (cJ := cJ) (ad := ad) (h := h) hy
  rw [eC_o] at he
  have hG : GoodIn wsL_law (Cond.code y ccY nLY none :: wsL_law) := fun w hw => by
    have h1 : w ∈ wsL_law := (List.mem_cons.mp hw).elim (fun q => by rw [q]; exact w5) id
    exact ⟨h1, good_of_word (goodW w h1)⟩
  have hCW : CallW R s args own Cn idx y ccY nLY none (Cond.code y ccY nLY none :: wsL_law) { frames := fY, cells := mcY, slots := 6 * mcY, locals := nY } mcY (6 * mcY) av.length := by
    refine ⟨⟨rfl, rfl, Nat.le_trans hf hRf, Nat.le_trans hn hRl, pay_in hts hG, List.mem_cons_self, hts _ w5, ?_, ⟨o2.1, o2.2.1⟩, fun sig hs => ?_, hts _ w1⟩, hts _ w2, hts _ w3⟩
    · rw [o1]; exact hts _ w4
    · have h2 := o2.2.2
      rw [hs] at h2
      exact (Option.some.inj h2).symm
  have hPre : PreV s H Cn (ad r) (va_Pc ((vr r :: av).map (cV ad)) (fun U => U.heap.size = H.size ∧ RH h ∧ (∀ v ∈ vr r :: av, okL v) ∧ bW D cI cZ cJ ad (fun _ => True) h U ∧ EV (va_A (wC cI cZ cJ ad h) H.size) U U.heap)) (av.map (cV ad)) := by
    refine ⟨fun a U g mk q => ?_, va_recv hK a1 hc he, fun U hU hW => ⟨rfl, by rw [hU], a4, avok, ⟨by rw [hU]; exact a1, va_K.moved hW.alike hK, a2.weaken (fun _ _ _ _ => trivial)⟩, ?_⟩⟩
    · obtain ⟨q0, q1, q2, q3, ⟨qP, qK, qD⟩, qE⟩ := q
      exact ⟨q0, q1, q2, q3, ⟨qP, va_K.moved (u := U) (U := U.calling g mk a) (Vm.Alike.refl U.vm) qK, qD⟩, EV.warm (s := U) (U := U.calling g mk a) (State.WarmedH.refl U) qE⟩
    · rw [hU]
      have e1 : EV A s H := hEV.kept a3.2.1
      exact EV.warm hW (e1.narrow hsub)
  have hsz : ls.size = c.maxLocals := a8.1
  have hk6 : 6 * k + 6 * mcY = 6 * (k + mcY) := by omega
  have hrun := vx_runV (g := F0 m pc ls ((av.reverse ++ vr r :: rest).map (cV ad))) (rest := rest.map (cV ad)) (As := av.map (cV ad)) (cells := k) (slots := 6 * k) (e := e) (below := below) (meth := meth) (locs := locs) ⟨hx, hb, hml, hown, hts⟩ (hC D cI cZ cJ ad H.size) hCW hPre rfl (List.length_map ..) (by rw [← hml]; exact hsz)
    (by simp [List.map_append, List.map_reverse, cV]) (by show 2 * 0 + _ ≤ 8; have := catSum ad rest; simp only [List.map_map] at this ⊢; omega) d ⟨by show k + mcY ≤ R.cells; rw [hRc]; exact hmc, by show 6 * k + 6 * mcY ≤ R.slots; rw [hRs]; omega⟩
  refine vx_callv (a := (Value.ref (ad r) :: av.map (cV ad)).toArray) hrun a3 (fun q _ hq => hsub q hq) hsub (fun q _ hq => hsub q hq) ?_ ?_
  · intro E ce q9 u t H1 locs1 ht hal hpx hBX hz hkp hS1 hce hcv hcl
    obtain ⟨b1, b2, b3, b4⟩ := hBX
    obtain ⟨c1, c2⟩ := kx E b1
    have c2 : h = h0 := c2
    subst c2
    refine vx_out (fun x hx9 => absurd (htab x hx9) id) hlocks hce hcv hcl (fun t2 ht2 hal2 => ⟨(), trivial, ⟨c1, ?_, va_K.moved hal2 hK, b4.weaken (fun _ q _ hq => hsub q.1 hq)⟩, hS1.F ht2⟩) hS1.2.2 hmc (by omega)
    rw [ht2, ← ht]; exact b2
  · intro u t H1 locs1 ht hal hp hB hz hkp hS1
    obtain ⟨p3, p4, p5⟩ := hp
    obtain ⟨b2, b3, b4⟩ := hB
    rw [hk6]
    refine kk u p3 p4 p5 H1 locs1 ls (by rw [← ht]; exact b2) (b4.weaken (fun _ q _ hq => hsub q.1 hq)) hS1 p4 (a5.trans p3 hM) a6 (fun w hw => a7 w (List.mem_append_right _ (List.mem_cons_of_mem _ hw))) a8
end EngineCalls

/-! objects and arrays as they are made; contracts of the constructors -/
abbrev zA (c : ClassId) (N : Nat) : va_E := .inl (c, N, .inl (fun _ : Nat => i32 0))
abbrev zJ (c : ClassId) (N : Nat) : va_E := .inl (c, N, .inr (.inl (fun _ : Nat => i64 0)))
abbrev zO (ci : Nat) (fs : List Value) : va_E := .inr (ci, fs)
theorem z_join {A : Nat → Prop} {D : va_G} {cl : List vw_C} {wr w1 : va_W} {x : Nat × va_E} {H H1 : Heap} (hP : va_P D cl (wr ++ [x]) H) (hD : va_D A (wr ++ [x])) (hA : ∀ q, H.size ≤ q → A q) (hk : ∀ q : Nat, q < H.size → ¬ va_A [x] H.size q → H1[q]? = H[q]?) (hP1 : va_P D cl w1 H1) (hD1 : va_D (va_A [x] H.size) w1) : va_P D cl (wr ++ w1) H1 ∧ va_D A (wr ++ w1) := by
  have el : ∀ (k : Nat) (q : Nat × va_E), wr[k]? = some q → (wr ++ [x])[k]? = some q := fun k q hq => by rw [List.getElem?_append_left (List.getElem?_eq_some_iff.mp hq).1]; exact hq
  have ex : (wr ++ [x])[wr.length]? = some x := by rw [List.getElem?_append_right (Nat.le_refl _), Nat.sub_self]; rfl
  have out : ∀ (k : Nat) (q : Nat × va_E), wr[k]? = some q → q.1 < H.size ∧ ¬ va_A [x] H.size q.1 := by
    intro k q hq
    have h1 := (hP k q (el k q hq)).lt
    refine ⟨h1, fun z => ?_⟩
    rcases z with ⟨j, e, hj⟩ | z
    · have hj0 : j < 1 := (List.getElem?_eq_some_iff.mp hj).1
      have hj1 : j = 0 := by omega
      subst hj1
      have hx : x = (q.1, e) := Option.some.inj hj
      have h2 := hD.1 k wr.length q x (el k q hq) ex (by rw [hx])
      have h3 := (List.getElem?_eq_some_iff.mp hq).1
      omega
    · omega
  refine ⟨va_P.app (fun k q hq => (hP k q (el k q hq)).kept (hk q.1 (out k q hq).1 (out k q hq).2)) hP1, va_D.app ⟨fun i j p q hi hj e => hD.1 i j p q (el i p hi) (el j q hj) e, fun k q hq => hD.2 k q (el k q hq)⟩ (hD1.weaken (fun _ q _ hq => ?_)) (fun i j p q hi hj e => ?_)⟩
  · rcases hq with ⟨j, e, hj⟩ | hq
    · have hj0 : j < 1 := (List.getElem?_eq_some_iff.mp hj).1
      have hj1 : j = 0 := by omega
      subst hj1
      have hx : x = (q.1, e) := Option.some.inj hj
      have h2 := hD.2 _ _ ex
      rw [hx] at h2
      exact h2
    · exact hA _ hq
  · have h1 := hD1.2 j q hj
    rw [← e] at h1
    exact (out i p hi).2 h1
/-- a constructor's contract: the object's own cell first, then what it makes -/
def CtC (l : Launch) (y : MethodName) (cc : ByteArray) (nL f n mc ms ci : Nat) (fs0 : List Value) (gs : List Nat) (nw : List Cond) (wo : ClassId → ClassId → Nat → (Nat → Nat) → va_W) : Prop :=
  ∀ (D : va_G) (cI cZ cJ : ClassId) (a0 sz : Nat), Met l y (.code y cc nL none :: wsL_law) { frames := f, cells := mc, slots := ms, locals := n }
    (va_Pc (.ref a0 :: gs.map Value.ref) (fun U => U.heap.size = sz ∧ va_P D vwCl [(a0, zO ci fs0)] U.heap ∧ va_K D vwCl (tyL cI cZ cJ) U ∧ va_D (fun _ => True) [(a0, zO ci fs0)] ∧ ∀ w ∈ nw, va_Nw w U))
    (va_Qv (fun _ : Nat → Nat => True) (fun u t => va_P D vwCl (wo cI cZ a0 u) t.heap ∧ va_K D vwCl (tyL cI cZ cJ) t ∧ va_D (va_A [(a0, zO ci fs0)] sz) (wo cI cZ a0 u)) (va_A [(a0, zO ci fs0)] sz)) mc ms (va_A [(a0, zO ci fs0)] sz)
theorem z_defI (N : Nat) (cA : ClassId) : vp_cell cA (N, .inl (fun _ : Nat => i32 0)) = arrV cA N (fun _ => defaultValue .int) := by rw [i32_0]; rfl
theorem z_defZ (N : Nat) (cA : ClassId) : vp_cell cA (N, .inl (fun _ : Nat => i32 0)) = arrV cA N (fun _ => defaultValue .boolean) := by rw [i32_0]; rfl
theorem z_defJ (N : Nat) (cA : ClassId) : vp_cell cA (N, .inr (.inl (fun _ : Nat => i64 0))) = arrV cA N (fun _ => defaultValue .long) := by rw [show i64 0 = 0 from rfl]; rfl
def ZOk (y : MethodName) (cc : ByteArray) (nL na : Nat) : Prop := (y.cls ≠ "java/lang/invoke/MethodHandle" ∧ y.cls ≠ "java/lang/invoke/VarHandle" ∧ (parseMethodDescriptor y.desc).map (fun d => d.parameters.length) = some na) ∧ y.name = "<init>" ∧ Cond.instanceMethod y ∈ wsL_law ∧ Cond.initialized y.cls ∈ wsL_law ∧ Cond.code y cc nL none ∈ wsL_law
section ZRows
variable {p : Program} {l : Launch} {e : Env} {R : Room} {s : State} {m : MethodId} {args : Array Value} {below : List Frame} {meth : Method} {c : Code} {H H0 : Heap} {locs : List Loc} {cells slots : Nat} {Q : State → Prop} {D : va_G} {A : Nat → Prop} {ws : va_W} {pc : Nat} {ls : Array Slot} {rest : List Value} {cc : ByteArray} {cI cZ cJ : ClassId}
theorem z_newa_int {N : Nat} {n : Int32} (hx : p.tables.exec = Jvm.exec) (hb : c.code = cc) (harr : (Cond.arrayClass .int).before args s = true) (hK : va_K D vwCl (tyL cI cZ cJ) s) (hP : va_P D vwCl ws H) (hD : va_D A ws) (hS : va_S A H0 H locs) (hA : ∀ q, H0.size ≤ q → A q)
    (hn : ¬ n < 0) (hN : n.toNatClampNeg = N) (hsm : N ≤ 1000) (hcells : cells + 1 ≤ R.cells) (hslots : slots + N ≤ R.slots) (d : decode cc pc = .ok (.newarray .int, 2))
    (kk : ∀ (q : Nat) (H1 : Heap), va_P D vwCl (ws ++ [(q, zA cI N)]) H1 → va_D A (ws ++ [(q, zA cI N)]) → va_S A H0 H1 locs → W p l e R s m args below meth c H1 locs (cells + 1) (slots + N) Q (F0 m (pc + 2) ls (.ref q :: rest))) : W p l e R s m args below meth c H locs cells slots Q (F0 m pc ls (.int n :: rest)) := by
  refine va_newa (atype := .int) (ty := .int) (cl := vwCl) (tys := tyL cI cZ cJ) (ws := ws) (A := A) (a0 := (N, .inl (fun _ : Nat => i32 0))) (N' := N) hx hb harr rfl hK hP hD hS hA (fun cA => z_defI N cA) hn hN (by show N * 4 ≤ _; omega) hcells hslots d (fun q cA H1 hK1 b1 b2 b3 => ?_)
  have e1 := va_nm_int (hK1.2 3 (cA, .int) rfl).2
  have e2 := va_nm_int (hK.2 0 (cI, .int) rfl).2
  cases Option.some.inj (e1.symm.trans e2)
  exact kk q H1 b1 b2 b3
theorem z_newa_boolean {N : Nat} {n : Int32} (hx : p.tables.exec = Jvm.exec) (hb : c.code = cc) (harr : (Cond.arrayClass .boolean).before args s = true) (hK : va_K D vwCl (tyL cI cZ cJ) s) (hP : va_P D vwCl ws H) (hD : va_D A ws) (hS : va_S A H0 H locs) (hA : ∀ q, H0.size ≤ q → A q)
    (hn : ¬ n < 0) (hN : n.toNatClampNeg = N) (hsm : N ≤ 1000) (hcells : cells + 1 ≤ R.cells) (hslots : slots + N ≤ R.slots) (d : decode cc pc = .ok (.newarray .boolean, 2))
    (kk : ∀ (q : Nat) (H1 : Heap), va_P D vwCl (ws ++ [(q, zA cZ N)]) H1 → va_D A (ws ++ [(q, zA cZ N)]) → va_S A H0 H1 locs → W p l e R s m args below meth c H1 locs (cells + 1) (slots + N) Q (F0 m (pc + 2) ls (.ref q :: rest))) : W p l e R s m args below meth c H locs cells slots Q (F0 m pc ls (.int n :: rest)) := by
  refine va_newa (atype := .boolean) (ty := .boolean) (cl := vwCl) (tys := tyL cI cZ cJ) (ws := ws) (A := A) (a0 := (N, .inl (fun _ : Nat => i32 0))) (N' := N) hx hb harr rfl hK hP hD hS hA (fun cA => z_defZ N cA) hn hN (by show N * 1 ≤ _; omega) hcells hslots d (fun q cA H1 hK1 b1 b2 b3 => ?_)
  have e1 := va_nm_boolean (hK1.2 3 (cA, .boolean) rfl).2
  have e2 := va_nm_boolean (hK.2 1 (cZ, .boolean) rfl).2
  cases Option.some.inj (e1.symm.trans e2)
  exact kk q H1 b1 b2 b3
theorem z_newa_long {N : Nat} {n : Int32} (hx : p.tables.exec = Jvm.exec) (hb : c.code = cc) (harr : (Cond.arrayClass .long).before args s = true) (hK : va_K D vwCl (tyL cI cZ cJ) s) (hP : va_P D vwCl ws H) (hD : va_D A ws) (hS : va_S A H0 H locs) (hA : ∀ q, H0.size ≤ q → A q)
    (hn : ¬ n < 0) (hN : n.toNatClampNeg = N) (hsm : N ≤ 1000) (hcells : cells + 1 ≤ R.cells) (hslots : slots + N ≤ R.slots) (d : decode cc pc = .ok (.newarray .long, 2))
    (kk : ∀ (q : Nat) (H1 : Heap), va_P D vwCl (ws ++ [(q, zJ cJ N)]) H1 → va_D A (ws ++ [(q, zJ cJ N)]) → va_S A H0 H1 locs → W p l e R s m args below meth c H1 locs (cells + 1) (slots + N) Q (F0 m (pc + 2) ls (.ref q :: rest))) : W p l e R s m args below meth c H locs cells slots Q (F0 m pc ls (.int n :: rest)) := by
  refine va_newa (atype := .long) (ty := .long) (cl := vwCl) (tys := tyL cI cZ cJ) (ws := ws) (A := A) (a0 := (N, .inr (.inl (fun _ : Nat => i64 0)))) (N' := N) hx hb harr rfl hK hP hD hS hA (fun cA => z_defJ N cA) hn hN (by show N * 8 ≤ _; omega) hcells hslots d (fun q cA H1 hK1 b1 b2 b3 => ?_)
  have e1 := va_nm_long (hK1.2 3 (cA, .long) rfl).2
  have e2 := va_nm_long (hK.2 2 (cJ, .long) rfl).2
  cases Option.some.inj (e1.symm.trans e2)
  exact kk q H1 b1 b2 b3
set_option maxHeartbeats 4000000 in
theorem z_call {y : MethodName} {ccY : ByteArray} {nLY fY nY mcY msY ci idx nL : Nat} {own : String} {fs0 : List Value} {gs : List Nat} {nw : List Cond} {wo : ClassId → ClassId → Nat → (Nat → Nat) → va_W} {wr : va_W} {a0 : Nat} {st : List Value} (hx : p.tables.exec = Jvm.exec) (hb : c.code = cc) (hml : c.maxLocals = nL) (hown : s.vm.findClass own = some m.cls) (hts : ∀ w ∈ wsL_law, w.before args s = true) (hK : va_K D vwCl (tyL cI cZ cJ) s)
    (hC : CtC l y ccY nLY fY nY mcY msY ci fs0 gs nw wo) (ok : ZOk y ccY nLY gs.length) (hlk : (Cond.methodLink own idx y).before args s = true ∨ ∃ host : String, (Cond.methodLinkNest own idx y host).before args s = true) (hnt : ∀ w ∈ nw, w.onTables = true) (hnw : ∀ U : State, s.WarmedH U.vm → ∀ w ∈ nw, va_Nw w U) (hf : fY + 1 ≤ R.frames) (hn : 8 + (nLY + 11) + nY ≤ R.locals)
    (hP : va_P D vwCl (wr ++ [(a0, zO ci fs0)]) H) (hD : va_D A (wr ++ [(a0, zO ci fs0)])) (hS : va_S A H0 H locs) (hA : ∀ q, H0.size ≤ q → A q) (hst : st = (gs.map Value.ref).reverse ++ .ref a0 :: rest) (hcat : (rest.map fun v => v.category).sum ≤ 8) (hsz : ls.size = nL) (d : decode cc pc = .ok (.invokespecial idx, 3)) (hcl : cells + mcY ≤ R.cells) (hsl : slots + msY ≤ R.slots)
    (kk : ∀ (u : Nat → Nat) (H1 : Heap) (locs1 : List Loc), va_P D vwCl (wr ++ wo cI cZ a0 u) H1 → va_D A (wr ++ wo cI cZ a0 u) → va_S A H0 H1 locs1 → W p l e R s m args below meth c H1 locs1 (cells + mcY) (slots + msY) Q (F0 m (pc + 3) ls rest)) : W p l e R s m args below meth c H locs cells slots Q (F0 m pc ls st) := by
  obtain ⟨o2, o3, w2, w4, w5⟩ := ok
  subst hst
  have ex : (wr ++ [(a0, zO ci fs0)])[wr.length]? = some (a0, zO ci fs0) := by rw [List.getElem?_append_right (Nat.le_refl _), Nat.sub_self]; rfl
  have hP0 : va_P D vwCl [(a0, zO ci fs0)] H := by
    intro k q hq
    have hk : k < 1 := (List.getElem?_eq_some_iff.mp hq).1
    have hk0 : k = 0 := by omega
    subst hk0
    cases Option.some.inj hq
    exact hP _ _ ex
  have hD0 : va_D (fun _ => True) [(a0, zO ci fs0)] := by
    refine ⟨fun i j p q hi hj _ => ?_, fun _ _ _ => trivial⟩
    have h1 : i < 1 := (List.getElem?_eq_some_iff.mp hi).1
    have h2 : j < 1 := (List.getElem?_eq_some_iff.mp hj).1
    omega
  have hAH : ∀ q, H.size ≤ q → A q := fun q hq => hA q (Nat.le_trans hS.1 hq)
  have hsub : ∀ q, va_A [(a0, zO ci fs0)] H.size q → A q := by
    intro q hq
    rcases hq with ⟨j, e, hj⟩ | hq
    · have hj0 : j < 1 := (List.getElem?_eq_some_iff.mp hj).1
      have hj1 : j = 0 := by omega
      subst hj1
      have hx : (a0, zO ci fs0) = (q, e) := Option.some.inj hj
      have h2 := hD.2 _ _ ex
      rw [hx] at h2
      exact h2
    · exact hAH q hq
  have hG : GoodIn wsL_law (Cond.code y ccY nLY none :: wsL_law) := fun w hw => by
    have h1 : w ∈ wsL_law := (List.mem_cons.mp hw).elim (fun q => by rw [q]; exact w5) id
    exact ⟨h1, good_of_word (goodW w h1)⟩
  have hlen : ∀ sig, parseMethodDescriptor y.desc = some sig → gs.length = sig.parameters.length := by
    intro sig hs
    have h2 := o2.2.2
    rw [hs] at h2
    exact (Option.some.inj h2).symm
  have hp : PreS s H (va_Pc (.ref a0 :: gs.map Value.ref) (fun U => U.heap.size = H.size ∧ va_P D vwCl [(a0, zO ci fs0)] U.heap ∧ va_K D vwCl (tyL cI cZ cJ) U ∧ va_D (fun _ => True) [(a0, zO ci fs0)] ∧ ∀ w ∈ nw, va_Nw w U)) (.ref a0 :: gs.map Value.ref) :=
    ⟨fun a U g mk q => by obtain ⟨q0, q1, qP, qK, qD, qN⟩ := q; exact ⟨q0, q1, qP, va_K.moved (u := U) (U := U.calling g mk a) (Vm.Alike.refl U.vm) qK, qD, fun w hw => va_Nw.same (u := U) (U := U.calling g mk a) (hnt w hw) rfl (qN w hw)⟩, fun U hU hW => ⟨rfl, by rw [hU], by rw [hU]; exact hP0, va_K.moved hW.alike hK, hD0, hnw U hW⟩⟩
  have hrun : va_Run p l e R s m args below meth c H locs cells slots mcY msY (F0 m pc ls ((gs.map Value.ref).reverse ++ .ref a0 :: rest)) rest (va_Qv (fun _ : Nat → Nat => True) (fun u t => va_P D vwCl (wo cI cZ a0 u) t.heap ∧ va_K D vwCl (tyL cI cZ cJ) t ∧ va_D (va_A [(a0, zO ci fs0)] H.size) (wo cI cZ a0 u)) (va_A [(a0, zO ci fs0)] H.size) (Value.ref a0 :: gs.map Value.ref).toArray) (va_A [(a0, zO ci fs0)] H.size) := by
    rcases hlk with hlk | ⟨host, hlk⟩
    · exact va_runI (bytes := ccY) (maxL := nLY) (n := gs.length) ⟨hx, hb, hml, hown, hts⟩ (hC D cI cZ cJ a0 H.size) ⟨⟨rfl, rfl, hf, hn, pay_in hts hG, List.mem_cons_self, hts _ w5, hts _ w4, ⟨o2.1, o2.2.1⟩, hlen, hlk⟩, o3, hts _ w2⟩ hp rfl (List.length_map ..) hsz rfl (lv_room hcat) d ⟨hcl, hsl⟩
    · exact va_runIN (host := host) (bytes := ccY) (maxL := nLY) (n := gs.length) ⟨hx, hb, hml, hown, hts⟩ (hC D cI cZ cJ a0 H.size) ⟨⟨⟨rfl, rfl, hf, hn, pay_in hts hG, List.mem_cons_self⟩, hts _ w5, hts _ w4, ⟨o2.1, o2.2.1⟩, hlen, hlk⟩, o3, hts _ w2⟩ hp rfl (List.length_map ..) hsz rfl (lv_room hcat) d ⟨hcl, hsl⟩
  refine va_callv hrun hS (fun q _ h => hsub q h) hsub (fun u t H1 locs1 ht hvm hw hB hz1 hk1 hS1 => ?_)
  obtain ⟨hP1, hK1, hD1⟩ := hB
  rw [ht] at hP1
  obtain ⟨g1, g2⟩ := z_join hP hD hAH hk1 hP1 hD1
  exact kk u H1 locs1 g1 g2 hS1
end ZRows
theorem fsX0 : ∀ j, j < 9 → defaultValue (tyX0 j) = vp_V [.null, .null, .null, .null, .null, .null, .null, .int 0, .int 0] j := fun j hj => by rcases (show j = 0 ∨ j = 1 ∨ j = 2 ∨ j = 3 ∨ j = 4 ∨ j = 5 ∨ j = 6 ∨ j = 7 ∨ j = 8 by omega) with rfl | rfl | rfl | rfl | rfl | rfl | rfl | rfl | rfl <;> rfl
theorem fsX1 : ∀ j, j < 5 → defaultValue (tyX1 j) = vp_V [.null, .null, .null, .null, .int 0] j := fun j hj => by rcases (show j = 0 ∨ j = 1 ∨ j = 2 ∨ j = 3 ∨ j = 4 by omega) with rfl | rfl | rfl | rfl | rfl <;> rfl
theorem fsX2 : ∀ j, j < 9 → defaultValue (tyX2 j) = vp_V [.null, .null, .null, .null, .null, .null, .int 0, .int 0, .int 0] j := fun j hj => by rcases (show j = 0 ∨ j = 1 ∨ j = 2 ∨ j = 3 ∨ j = 4 ∨ j = 5 ∨ j = 6 ∨ j = 7 ∨ j = 8 by omega) with rfl | rfl | rfl | rfl | rfl | rfl | rfl | rfl | rfl <;> rfl
theorem fsX3 : ∀ j, j < 11 → defaultValue (tyX3 j) = vp_V [.null, .null, .null, .null, .null, .null, .null, .int 0, .int 0, .int 0, .int 0] j := fun j hj => by rcases (show j = 0 ∨ j = 1 ∨ j = 2 ∨ j = 3 ∨ j = 4 ∨ j = 5 ∨ j = 6 ∨ j = 7 ∨ j = 8 ∨ j = 9 ∨ j = 10 by omega) with rfl | rfl | rfl | rfl | rfl | rfl | rfl | rfl | rfl | rfl | rfl <;> rfl
theorem fsX4 : ∀ j, j < 8 → defaultValue (tyX4 j) = vp_V [.null, .null, .null, .null, .null, .null, .int 0, .int 0] j := fun j hj => by rcases (show j = 0 ∨ j = 1 ∨ j = 2 ∨ j = 3 ∨ j = 4 ∨ j = 5 ∨ j = 6 ∨ j = 7 by omega) with rfl | rfl | rfl | rfl | rfl | rfl | rfl | rfl <;> rfl
theorem fsX5 : ∀ j, j < 5 → defaultValue (tyX5 j) = vp_V [.null, .null, .null, .null, .null] j := fun j hj => by rcases (show j = 0 ∨ j = 1 ∨ j = 2 ∨ j = 3 ∨ j = 4 by omega) with rfl | rfl | rfl | rfl | rfl <;> rfl
theorem fsX6 : ∀ j, j < 24 → defaultValue (tyX6 j) = vp_V [.int 0, .int 0, .int 0, .int 0, .null, .null, .null, .null, .null, .null, .int 0, .null, .int 0, .null, .null, .null, .int 0, .null, .null, .null, .int 0, .null, .null, .null] j := fun j hj => by rcases (show j = 0 ∨ j = 1 ∨ j = 2 ∨ j = 3 ∨ j = 4 ∨ j = 5 ∨ j = 6 ∨ j = 7 ∨ j = 8 ∨ j = 9 ∨ j = 10 ∨ j = 11 ∨ j = 12 ∨ j = 13 ∨ j = 14 ∨ j = 15 ∨ j = 16 ∨ j = 17 ∨ j = 18 ∨ j = 19 ∨ j = 20 ∨ j = 21 ∨ j = 22 ∨ j = 23 by omega) with rfl | rfl | rfl | rfl | rfl | rfl | rfl | rfl | rfl | rfl | rfl | rfl | rfl | rfl | rfl | rfl | rfl | rfl | rfl | rfl | rfl | rfl | rfl | rfl <;> rfl
theorem zok_X2 : ZOk yX2_init cX2_init 1 0 := ⟨⟨by decide +kernel, by decide +kernel, by decide +kernel⟩, rfl, by decide +kernel, by decide +kernel, by decide +kernel⟩
set_option maxHeartbeats 8000000 in
set_option maxRecDepth 100000 in
theorem cc_X2 (l : Launch) : CtC l yX2_init cX2_init 1 1 12 6 760 2 [.null, .null, .null, .null, .null, .null, .int 0, .int 0, .int 0] [] [] (fun cI cZ a0 u => [(a0, zO 2 [.ref (u 0), .ref (u 1), .ref (u 2), .ref (u 3), .ref (u 4), .ref (u 5), .int 0, .int 0, .int 0]), ((u 0), zA cI 200), ((u 1), zA cI 200), ((u 2), zA cI 200), ((u 3), zA cZ 100), ((u 4), zA cI 30), ((u 5), zA cI 30)]) := by
  intro D cI cZ cJ a0 sz
  refine Met.ofW (cc := cX2_init) (maxL := 1) (ret := none) (by decide) rfl ?_
  intro p e s m args below meth c s₁ B hml hv
  obtain ⟨rfl, hsz, hP, hK, hD0, hN⟩ := hv
  have hx := B.exec
  have hb := B.bytes
  have hr := B.returns
  have htsC := atoms_spec (ws := Cond.code yX2_init cX2_init 1 none :: wsL_law) B.pre
  have hts : ∀ w ∈ wsL_law, w.before _ s = true := fun w hw => htsC w (List.mem_cons_of_mem _ hw)
  have hown : s.vm.findClass RX2 = some m.cls := findClass_of_methodNamed B.named
  have hlocks := B.notSynchronized
  have hin : meth.name = "<init>" := (name_of_methodNamed B.named B.method).1
  subst hsz
  have hD := hD0.self (sz := s.heap.size)
  generalize hAe : va_A [(a0, zO 2 [.null, .null, .null, .null, .null, .null, .int 0, .int 0, .int 0])] s.heap.size = A at hD ⊢
  have hA : ∀ q : Nat, s.heap.size ≤ q → A q := fun q h => by rw [← hAe]; exact Or.inr h
  have hS : va_S A s.heap s.heap [] := va_S.rf
  have hP : va_P D vwCl [(a0, zO 2 [.null, .null, .null, .null, .null, .null, .int 0, .int 0, .int 0])] s.heap := hP
  have hl := lv_entry ([.ref a0]) (n := 1) (Nat.le_of_ble_eq_true rfl)
  show W p l e _ s m ([.ref a0] : List Value).toArray below meth c s.heap [] 0 0 _ (entryFrame m ([.ref a0] : List Value).toArray 1)
  rw [lg_entry_eq]
  generalize (lg_sl ([.ref a0]) ++ List.replicate (1 - (lg_sl ([.ref a0])).length) Slot.unset).toArray = ls at hl ⊢
  have hl : lv_has ls 1 [(0, .ref a0)] := hl
  refine lv_aload_n hx hb dX2_init_0 rfl (lv_at hl 0 rfl) ?_
  refine W.objInit hx hb hown (hts (Cond.methodLink RX2 3 objectInit) (by decide +kernel)) (hts (Cond.instanceMethod objectInit) (by decide +kernel)) (hts (Cond.code objectInit ⟨#[0xb1]⟩ 1 none) (by decide +kernel)) rfl (by rw [hml]; exact hl.1) rfl dX2_init_1 (Nat.le_of_ble_eq_true rfl) (Nat.le_of_ble_eq_true rfl) ?_
  refine W.eq (g2 := F0 m 4 ls []) rfl ?_
  refine lv_aload_n hx hb dX2_init_4 rfl (lv_at hl 0 rfl) ?_
  refine lv_sipush (v := 200) hx hb dX2_init_5 rfl ?_
  refine z_newa_int (D := D) (cI := cI) (cZ := cZ) (cJ := cJ) (N := 200) hx hb (hts (Cond.arrayClass .int) (by decide +kernel)) hK hP hD hS hA (by decide) (by decide) (by decide) (Nat.le_of_ble_eq_true rfl) (Nat.le_of_ble_eq_true rfl) dX2_init_8 (fun q0 H hP hD hS => ?_)
  have hP : va_P D vwCl [(a0, zO 2 [.null, .null, .null, .null, .null, .null, .int 0, .int 0, .int 0]), (q0, zA cI 200)] H := hP
  have hD : va_D A [(a0, zO 2 [.null, .null, .null, .null, .null, .null, .int 0, .int 0, .int 0]), (q0, zA cI 200)] := hD
  refine W.widen (k := 1) (n := 200) (by omega) (by omega) ?_
  refine va_putF (D := D) (ci := 2) (v := .ref q0) (ty := tyX2 0) (C := RX2) (T := TX2) (N := 9) hx hb hts inlX2 tyX2 tyX2_ok nmX2 hown hK hP hD hS 0 rfl rfl 0 (by decide) (hts (Cond.fieldLink RX2 9 "PlaneColours$Graph" "start" "[I") (by decide +kernel)) (fun _ h9 => h9) rfl hin rfl (by decide +kernel) rfl rfl (Nat.le_of_ble_eq_true rfl) dX2_init_10 (fun H locs hP hD hS => ?_)
  have hP : va_P D vwCl [(a0, zO 2 [.ref q0, .null, .null, .null, .null, .null, .int 0, .int 0, .int 0]), (q0, zA cI 200)] H := hP
  have hD : va_D A [(a0, zO 2 [.ref q0, .null, .null, .null, .null, .null, .int 0, .int 0, .int 0]), (q0, zA cI 200)] := hD
  refine lv_aload_n hx hb dX2_init_13 rfl (lv_at hl 0 rfl) ?_
  refine lv_sipush (v := 200) hx hb dX2_init_14 rfl ?_
  refine z_newa_int (D := D) (cI := cI) (cZ := cZ) (cJ := cJ) (N := 200) hx hb (hts (Cond.arrayClass .int) (by decide +kernel)) hK hP hD hS hA (by decide) (by decide) (by decide) (Nat.le_of_ble_eq_true rfl) (Nat.le_of_ble_eq_true rfl) dX2_init_17 (fun q1 H hP hD hS => ?_)
  have hP : va_P D vwCl [(a0, zO 2 [.ref q0, .null, .null, .null, .null, .null, .int 0, .int 0, .int 0]), (q0, zA cI 200), (q1, zA cI 200)] H := hP
  have hD : va_D A [(a0, zO 2 [.ref q0, .null, .null, .null, .null, .null, .int 0, .int 0, .int 0]), (q0, zA cI 200), (q1, zA cI 200)] := hD
  refine W.widen (k := 2) (n := 400) (by omega) (by omega) ?_
  refine va_putF (D := D) (ci := 2) (v := .ref q1) (ty := tyX2 1) (C := RX2) (T := TX2) (N := 9) hx hb hts inlX2 tyX2 tyX2_ok nmX2 hown hK hP hD hS 0 rfl rfl 1 (by decide) (hts (Cond.fieldLink RX2 15 "PlaneColours$Graph" "next" "[I") (by decide +kernel)) (fun _ h9 => h9) rfl hin rfl (by decide +kernel) rfl rfl (Nat.le_of_ble_eq_true rfl) dX2_init_19 (fun H locs hP hD hS => ?_)
  have hP : va_P D vwCl [(a0, zO 2 [.ref q0, .ref q1, .null, .null, .null, .null, .int 0, .int 0, .int 0]), (q0, zA cI 200), (q1, zA cI 200)] H := hP
  have hD : va_D A [(a0, zO 2 [.ref q0, .ref q1, .null, .null, .null, .null, .int 0, .int 0, .int 0]), (q0, zA cI 200), (q1, zA cI 200)] := hD
  refine lv_aload_n hx hb dX2_init_22 rfl (lv_at hl 0 rfl) ?_
  refine lv_sipush (v := 200) hx hb dX2_init_23 rfl ?_
  refine z_newa_int (D := D) (cI := cI) (cZ := cZ) (cJ := cJ) (N := 200) hx hb (hts (Cond.arrayClass .int) (by decide +kernel)) hK hP hD hS hA (by decide) (by decide) (by decide) (Nat.le_of_ble_eq_true rfl) (Nat.le_of_ble_eq_true rfl) dX2_init_26 (fun q2 H hP hD hS => ?_)
  have hP : va_P D vwCl [(a0, zO 2 [.ref q0, .ref q1, .null, .null, .null, .null, .int 0, .int 0, .int 0]), (q0, zA cI 200), (q1, zA cI 200), (q2, zA cI 200)] H := hP
  have hD : va_D A [(a0, zO 2 [.ref q0, .ref q1, .null, .null, .null, .null, .int 0, .int 0, .int 0]), (q0, zA cI 200), (q1, zA cI 200), (q2, zA cI 200)] := hD
  refine W.widen (k := 3) (n := 600) (by omega) (by omega) ?_
  refine va_putF (D := D) (ci := 2) (v := .ref q2) (ty := tyX2 2) (C := RX2) (T := TX2) (N := 9) hx hb hts inlX2 tyX2 tyX2_ok nmX2 hown hK hP hD hS 0 rfl rfl 2 (by decide) (hts (Cond.fieldLink RX2 18 "PlaneColours$Graph" "previous" "[I") (by decide +kernel)) (fun _ h9 => h9) rfl hin rfl (by decide +kernel) rfl rfl (Nat.le_of_ble_eq_true rfl) dX2_init_28 (fun H locs hP hD hS => ?_)
  have hP : va_P D vwCl [(a0, zO 2 [.ref q0, .ref q1, .ref q2, .null, .null, .null, .int 0, .int 0, .int 0]), (q0, zA cI 200), (q1, zA cI 200), (q2, zA cI 200)] H := hP
  have hD : va_D A [(a0, zO 2 [.ref q0, .ref q1, .ref q2, .null, .null, .null, .int 0, .int 0, .int 0]), (q0, zA cI 200), (q1, zA cI 200), (q2, zA cI 200)] := hD
  refine lv_aload_n hx hb dX2_init_31 rfl (lv_at hl 0 rfl) ?_
  refine lv_bipush (v := 100) hx hb dX2_init_32 rfl ?_
  refine z_newa_boolean (D := D) (cI := cI) (cZ := cZ) (cJ := cJ) (N := 100) hx hb (hts (Cond.arrayClass .boolean) (by decide +kernel)) hK hP hD hS hA (by decide) (by decide) (by decide) (Nat.le_of_ble_eq_true rfl) (Nat.le_of_ble_eq_true rfl) dX2_init_34 (fun q3 H hP hD hS => ?_)
  have hP : va_P D vwCl [(a0, zO 2 [.ref q0, .ref q1, .ref q2, .null, .null, .null, .int 0, .int 0, .int 0]), (q0, zA cI 200), (q1, zA cI 200), (q2, zA cI 200), (q3, zA cZ 100)] H := hP
  have hD : va_D A [(a0, zO 2 [.ref q0, .ref q1, .ref q2, .null, .null, .null, .int 0, .int 0, .int 0]), (q0, zA cI 200), (q1, zA cI 200), (q2, zA cI 200), (q3, zA cZ 100)] := hD
  refine W.widen (k := 4) (n := 700) (by omega) (by omega) ?_
  refine va_putF (D := D) (ci := 2) (v := .ref q3) (ty := tyX2 3) (C := RX2) (T := TX2) (N := 9) hx hb hts inlX2 tyX2 tyX2_ok nmX2 hown hK hP hD hS 0 rfl rfl 3 (by decide) (hts (Cond.fieldLink RX2 21 "PlaneColours$Graph" "isHere" "[Z") (by decide +kernel)) (fun _ h9 => h9) rfl hin rfl (by decide +kernel) rfl rfl (Nat.le_of_ble_eq_true rfl) dX2_init_36 (fun H locs hP hD hS => ?_)
  have hP : va_P D vwCl [(a0, zO 2 [.ref q0, .ref q1, .ref q2, .ref q3, .null, .null, .int 0, .int 0, .int 0]), (q0, zA cI 200), (q1, zA cI 200), (q2, zA cI 200), (q3, zA cZ 100)] H := hP
  have hD : va_D A [(a0, zO 2 [.ref q0, .ref q1, .ref q2, .ref q3, .null, .null, .int 0, .int 0, .int 0]), (q0, zA cI 200), (q1, zA cI 200), (q2, zA cI 200), (q3, zA cZ 100)] := hD
  refine lv_aload_n hx hb dX2_init_39 rfl (lv_at hl 0 rfl) ?_
  refine lv_bipush (v := 30) hx hb dX2_init_40 rfl ?_
  refine z_newa_int (D := D) (cI := cI) (cZ := cZ) (cJ := cJ) (N := 30) hx hb (hts (Cond.arrayClass .int) (by decide +kernel)) hK hP hD hS hA (by decide) (by decide) (by decide) (Nat.le_of_ble_eq_true rfl) (Nat.le_of_ble_eq_true rfl) dX2_init_42 (fun q4 H hP hD hS => ?_)
  have hP : va_P D vwCl [(a0, zO 2 [.ref q0, .ref q1, .ref q2, .ref q3, .null, .null, .int 0, .int 0, .int 0]), (q0, zA cI 200), (q1, zA cI 200), (q2, zA cI 200), (q3, zA cZ 100), (q4, zA cI 30)] H := hP
  have hD : va_D A [(a0, zO 2 [.ref q0, .ref q1, .ref q2, .ref q3, .null, .null, .int 0, .int 0, .int 0]), (q0, zA cI 200), (q1, zA cI 200), (q2, zA cI 200), (q3, zA cZ 100), (q4, zA cI 30)] := hD
  refine W.widen (k := 5) (n := 730) (by omega) (by omega) ?_
  refine va_putF (D := D) (ci := 2) (v := .ref q4) (ty := tyX2 4) (C := RX2) (T := TX2) (N := 9) hx hb hts inlX2 tyX2 tyX2_ok nmX2 hown hK hP hD hS 0 rfl rfl 4 (by decide) (hts (Cond.fieldLink RX2 25 "PlaneColours$Graph" "firstSide" "[I") (by decide +kernel)) (fun _ h9 => h9) rfl hin rfl (by decide +kernel) rfl rfl (Nat.le_of_ble_eq_true rfl) dX2_init_44 (fun H locs hP hD hS => ?_)
  have hP : va_P D vwCl [(a0, zO 2 [.ref q0, .ref q1, .ref q2, .ref q3, .ref q4, .null, .int 0, .int 0, .int 0]), (q0, zA cI 200), (q1, zA cI 200), (q2, zA cI 200), (q3, zA cZ 100), (q4, zA cI 30)] H := hP
  have hD : va_D A [(a0, zO 2 [.ref q0, .ref q1, .ref q2, .ref q3, .ref q4, .null, .int 0, .int 0, .int 0]), (q0, zA cI 200), (q1, zA cI 200), (q2, zA cI 200), (q3, zA cZ 100), (q4, zA cI 30)] := hD
  refine lv_aload_n hx hb dX2_init_47 rfl (lv_at hl 0 rfl) ?_
  refine lv_bipush (v := 30) hx hb dX2_init_48 rfl ?_
  refine z_newa_int (D := D) (cI := cI) (cZ := cZ) (cJ := cJ) (N := 30) hx hb (hts (Cond.arrayClass .int) (by decide +kernel)) hK hP hD hS hA (by decide) (by decide) (by decide) (Nat.le_of_ble_eq_true rfl) (Nat.le_of_ble_eq_true rfl) dX2_init_50 (fun q5 H hP hD hS => ?_)
  have hP : va_P D vwCl [(a0, zO 2 [.ref q0, .ref q1, .ref q2, .ref q3, .ref q4, .null, .int 0, .int 0, .int 0]), (q0, zA cI 200), (q1, zA cI 200), (q2, zA cI 200), (q3, zA cZ 100), (q4, zA cI 30), (q5, zA cI 30)] H := hP
  have hD : va_D A [(a0, zO 2 [.ref q0, .ref q1, .ref q2, .ref q3, .ref q4, .null, .int 0, .int 0, .int 0]), (q0, zA cI 200), (q1, zA cI 200), (q2, zA cI 200), (q3, zA cZ 100), (q4, zA cI 30), (q5, zA cI 30)] := hD
  refine W.widen (k := 6) (n := 760) (by omega) (by omega) ?_
  refine va_putF (D := D) (ci := 2) (v := .ref q5) (ty := tyX2 5) (C := RX2) (T := TX2) (N := 9) hx hb hts inlX2 tyX2 tyX2_ok nmX2 hown hK hP hD hS 0 rfl rfl 5 (by decide) (hts (Cond.fieldLink RX2 28 "PlaneColours$Graph" "degrees" "[I") (by decide +kernel)) (fun _ h9 => h9) rfl hin rfl (by decide +kernel) rfl rfl (Nat.le_of_ble_eq_true rfl) dX2_init_52 (fun H locs hP hD hS => ?_)
  have hP : va_P D vwCl [(a0, zO 2 [.ref q0, .ref q1, .ref q2, .ref q3, .ref q4, .ref q5, .int 0, .int 0, .int 0]), (q0, zA cI 200), (q1, zA cI 200), (q2, zA cI 200), (q3, zA cZ 100), (q4, zA cI 30), (q5, zA cI 30)] H := hP
  have hD : va_D A [(a0, zO 2 [.ref q0, .ref q1, .ref q2, .ref q3, .ref q4, .ref q5, .int 0, .int 0, .int 0]), (q0, zA cI 200), (q1, zA cI 200), (q2, zA cI 200), (q3, zA cZ 100), (q4, zA cI 30), (q5, zA cI 30)] := hD
  refine lv_aload_n hx hb dX2_init_55 rfl (lv_at hl 0 rfl) ?_
  refine lv_iconst (v := 0) hx hb dX2_init_56 rfl ?_
  refine va_put (D := D) (ci := 2) (v := .int 0) (ty := tyX2 6) (C := RX2) (T := TX2) (N := 9) hx hb hts inlX2 tyX2 tyX2_ok nmX2 hown hK hP hD hS 0 rfl rfl 6 (by decide) (hts (Cond.fieldLink RX2 31 "PlaneColours$Graph" "vertices" "I") (by decide +kernel)) (fun _ h9 => h9) rfl (by decide +kernel) rfl rfl (Nat.le_of_ble_eq_true rfl) dX2_init_57 (fun H locs hP hD hS => ?_)
  have hP : va_P D vwCl [(a0, zO 2 [.ref q0, .ref q1, .ref q2, .ref q3, .ref q4, .ref q5, .int 0, .int 0, .int 0]), (q0, zA cI 200), (q1, zA cI 200), (q2, zA cI 200), (q3, zA cZ 100), (q4, zA cI 30), (q5, zA cI 30)] H := hP
  have hD : va_D A [(a0, zO 2 [.ref q0, .ref q1, .ref q2, .ref q3, .ref q4, .ref q5, .int 0, .int 0, .int 0]), (q0, zA cI 200), (q1, zA cI 200), (q2, zA cI 200), (q3, zA cZ 100), (q4, zA cI 30), (q5, zA cI 30)] := hD
  refine lv_aload_n hx hb dX2_init_60 rfl (lv_at hl 0 rfl) ?_
  refine lv_iconst (v := 0) hx hb dX2_init_61 rfl ?_
  refine va_put (D := D) (ci := 2) (v := .int 0) (ty := tyX2 7) (C := RX2) (T := TX2) (N := 9) hx hb hts inlX2 tyX2 tyX2_ok nmX2 hown hK hP hD hS 0 rfl rfl 7 (by decide) (hts (Cond.fieldLink RX2 35 "PlaneColours$Graph" "made" "I") (by decide +kernel)) (fun _ h9 => h9) rfl (by decide +kernel) rfl rfl (Nat.le_of_ble_eq_true rfl) dX2_init_62 (fun H locs hP hD hS => ?_)
  have hP : va_P D vwCl [(a0, zO 2 [.ref q0, .ref q1, .ref q2, .ref q3, .ref q4, .ref q5, .int 0, .int 0, .int 0]), (q0, zA cI 200), (q1, zA cI 200), (q2, zA cI 200), (q3, zA cZ 100), (q4, zA cI 30), (q5, zA cI 30)] H := hP
  have hD : va_D A [(a0, zO 2 [.ref q0, .ref q1, .ref q2, .ref q3, .ref q4, .ref q5, .int 0, .int 0, .int 0]), (q0, zA cI 200), (q1, zA cI 200), (q2, zA cI 200), (q3, zA cZ 100), (q4, zA cI 30), (q5, zA cI 30)] := hD
  refine lv_aload_n hx hb dX2_init_65 rfl (lv_at hl 0 rfl) ?_
  refine lv_iconst (v := 0) hx hb dX2_init_66 rfl ?_
  refine va_put (D := D) (ci := 2) (v := .int 0) (ty := tyX2 8) (C := RX2) (T := TX2) (N := 9) hx hb hts inlX2 tyX2 tyX2_ok nmX2 hown hK hP hD hS 0 rfl rfl 8 (by decide) (hts (Cond.fieldLink RX2 38 "PlaneColours$Graph" "left" "I") (by decide +kernel)) (fun _ h9 => h9) rfl (by decide +kernel) rfl rfl (Nat.le_of_ble_eq_true rfl) dX2_init_67 (fun H locs hP hD hS => ?_)
  have hP : va_P D vwCl [(a0, zO 2 [.ref q0, .ref q1, .ref q2, .ref q3, .ref q4, .ref q5, .int 0, .int 0, .int 0]), (q0, zA cI 200), (q1, zA cI 200), (q2, zA cI 200), (q3, zA cZ 100), (q4, zA cI 30), (q5, zA cI 30)] H := hP
  have hD : va_D A [(a0, zO 2 [.ref q0, .ref q1, .ref q2, .ref q3, .ref q4, .ref q5, .int 0, .int 0, .int 0]), (q0, zA cI 200), (q1, zA cI 200), (q2, zA cI 200), (q3, zA cZ 100), (q4, zA cI 30), (q5, zA cI 30)] := hD
  exact W.vret hx hb hr (fun t ht hW => ⟨⟨(fun k => ([q0, q1, q2, q3, q4, q5] : List Nat).getD k 0), rfl, trivial, by rw [ht]; exact hP, va_K.moved hW.alike hK, hD⟩, hS.F ht⟩) hS.2.2 dX2_init_70 hlocks
theorem zok_X1 : ZOk yX1_init cX1_init 2 1 := ⟨⟨by decide +kernel, by decide +kernel, by decide +kernel⟩, rfl, by decide +kernel, by decide +kernel, by decide +kernel⟩
set_option maxHeartbeats 8000000 in
set_option maxRecDepth 100000 in
theorem cc_X1 (l : Launch) (g1 : Nat) : CtC l yX1_init cX1_init 2 1 12 3 600 1 [.null, .null, .null, .null, .int 0] [g1] [] (fun cI cZ a0 u => [(a0, zO 1 [.ref g1, .ref (u 0), .ref (u 1), .ref (u 2), .int 0]), ((u 0), zA cI 200), ((u 1), zA cI 200), ((u 2), zA cI 200)]) := by
  intro D cI cZ cJ a0 sz
  refine Met.ofW (cc := cX1_init) (maxL := 2) (ret := none) (by decide) rfl ?_
  intro p e s m args below meth c s₁ B hml hv
  obtain ⟨rfl, hsz, hP, hK, hD0, hN⟩ := hv
  have hx := B.exec
  have hb := B.bytes
  have hr := B.returns
  have htsC := atoms_spec (ws := Cond.code yX1_init cX1_init 2 none :: wsL_law) B.pre
  have hts : ∀ w ∈ wsL_law, w.before _ s = true := fun w hw => htsC w (List.mem_cons_of_mem _ hw)
  have hown : s.vm.findClass RX1 = some m.cls := findClass_of_methodNamed B.named
  have hlocks := B.notSynchronized
  have hin : meth.name = "<init>" := (name_of_methodNamed B.named B.method).1
  subst hsz
  have hD := hD0.self (sz := s.heap.size)
  generalize hAe : va_A [(a0, zO 1 [.null, .null, .null, .null, .int 0])] s.heap.size = A at hD ⊢
  have hA : ∀ q : Nat, s.heap.size ≤ q → A q := fun q h => by rw [← hAe]; exact Or.inr h
  have hS : va_S A s.heap s.heap [] := va_S.rf
  have hP : va_P D vwCl [(a0, zO 1 [.null, .null, .null, .null, .int 0])] s.heap := hP
  have hl := lv_entry ([.ref a0, .ref g1]) (n := 2) (Nat.le_of_ble_eq_true rfl)
  show W p l e _ s m ([.ref a0, .ref g1] : List Value).toArray below meth c s.heap [] 0 0 _ (entryFrame m ([.ref a0, .ref g1] : List Value).toArray 2)
  rw [lg_entry_eq]
  generalize (lg_sl ([.ref a0, .ref g1]) ++ List.replicate (2 - (lg_sl ([.ref a0, .ref g1])).length) Slot.unset).toArray = ls at hl ⊢
  have hl : lv_has ls 2 [(0, .ref a0), (1, .ref g1)] := hl
  refine lv_aload_n hx hb dX1_init_0 rfl (lv_at hl 0 rfl) ?_
  refine W.objInit hx hb hown (hts (Cond.methodLink RX1 3 objectInit) (by decide +kernel)) (hts (Cond.instanceMethod objectInit) (by decide +kernel)) (hts (Cond.code objectInit ⟨#[0xb1]⟩ 1 none) (by decide +kernel)) rfl (by rw [hml]; exact hl.1) rfl dX1_init_1 (Nat.le_of_ble_eq_true rfl) (Nat.le_of_ble_eq_true rfl) ?_
  refine W.eq (g2 := F0 m 4 ls []) rfl ?_
  refine lv_aload_n hx hb dX1_init_4 rfl (lv_at hl 0 rfl) ?_
  refine lv_sipush (v := 200) hx hb dX1_init_5 rfl ?_
  refine z_newa_int (D := D) (cI := cI) (cZ := cZ) (cJ := cJ) (N := 200) hx hb (hts (Cond.arrayClass .int) (by decide +kernel)) hK hP hD hS hA (by decide) (by decide) (by decide) (Nat.le_of_ble_eq_true rfl) (Nat.le_of_ble_eq_true rfl) dX1_init_8 (fun q0 H hP hD hS => ?_)
  have hP : va_P D vwCl [(a0, zO 1 [.null, .null, .null, .null, .int 0]), (q0, zA cI 200)] H := hP
  have hD : va_D A [(a0, zO 1 [.null, .null, .null, .null, .int 0]), (q0, zA cI 200)] := hD
  refine W.widen (k := 1) (n := 200) (by omega) (by omega) ?_
  refine va_putF (D := D) (ci := 1) (v := .ref q0) (ty := tyX1 1) (C := RX1) (T := TX1) (N := 5) hx hb hts inlX1 tyX1 tyX1_ok nmX1 hown hK hP hD hS 0 rfl rfl 1 (by decide) (hts (Cond.fieldLink RX1 9 "PlaneColours$FaceRows" "faceOfSide" "[I") (by decide +kernel)) (fun _ h9 => h9) rfl hin rfl (by decide +kernel) rfl rfl (Nat.le_of_ble_eq_true rfl) dX1_init_10 (fun H locs hP hD hS => ?_)
  have hP : va_P D vwCl [(a0, zO 1 [.null, .ref q0, .null, .null, .int 0]), (q0, zA cI 200)] H := hP
  have hD : va_D A [(a0, zO 1 [.null, .ref q0, .null, .null, .int 0]), (q0, zA cI 200)] := hD
  refine lv_aload_n hx hb dX1_init_13 rfl (lv_at hl 0 rfl) ?_
  refine lv_sipush (v := 200) hx hb dX1_init_14 rfl ?_
  refine z_newa_int (D := D) (cI := cI) (cZ := cZ) (cJ := cJ) (N := 200) hx hb (hts (Cond.arrayClass .int) (by decide +kernel)) hK hP hD hS hA (by decide) (by decide) (by decide) (Nat.le_of_ble_eq_true rfl) (Nat.le_of_ble_eq_true rfl) dX1_init_17 (fun q1 H hP hD hS => ?_)
  have hP : va_P D vwCl [(a0, zO 1 [.null, .ref q0, .null, .null, .int 0]), (q0, zA cI 200), (q1, zA cI 200)] H := hP
  have hD : va_D A [(a0, zO 1 [.null, .ref q0, .null, .null, .int 0]), (q0, zA cI 200), (q1, zA cI 200)] := hD
  refine W.widen (k := 2) (n := 400) (by omega) (by omega) ?_
  refine va_putF (D := D) (ci := 1) (v := .ref q1) (ty := tyX1 2) (C := RX1) (T := TX1) (N := 5) hx hb hts inlX1 tyX1 tyX1_ok nmX1 hown hK hP hD hS 0 rfl rfl 2 (by decide) (hts (Cond.fieldLink RX1 15 "PlaneColours$FaceRows" "leastSide" "[I") (by decide +kernel)) (fun _ h9 => h9) rfl hin rfl (by decide +kernel) rfl rfl (Nat.le_of_ble_eq_true rfl) dX1_init_19 (fun H locs hP hD hS => ?_)
  have hP : va_P D vwCl [(a0, zO 1 [.null, .ref q0, .ref q1, .null, .int 0]), (q0, zA cI 200), (q1, zA cI 200)] H := hP
  have hD : va_D A [(a0, zO 1 [.null, .ref q0, .ref q1, .null, .int 0]), (q0, zA cI 200), (q1, zA cI 200)] := hD
  refine lv_aload_n hx hb dX1_init_22 rfl (lv_at hl 0 rfl) ?_
  refine lv_sipush (v := 200) hx hb dX1_init_23 rfl ?_
  refine z_newa_int (D := D) (cI := cI) (cZ := cZ) (cJ := cJ) (N := 200) hx hb (hts (Cond.arrayClass .int) (by decide +kernel)) hK hP hD hS hA (by decide) (by decide) (by decide) (Nat.le_of_ble_eq_true rfl) (Nat.le_of_ble_eq_true rfl) dX1_init_26 (fun q2 H hP hD hS => ?_)
  have hP : va_P D vwCl [(a0, zO 1 [.null, .ref q0, .ref q1, .null, .int 0]), (q0, zA cI 200), (q1, zA cI 200), (q2, zA cI 200)] H := hP
  have hD : va_D A [(a0, zO 1 [.null, .ref q0, .ref q1, .null, .int 0]), (q0, zA cI 200), (q1, zA cI 200), (q2, zA cI 200)] := hD
  refine W.widen (k := 3) (n := 600) (by omega) (by omega) ?_
  refine va_putF (D := D) (ci := 1) (v := .ref q2) (ty := tyX1 3) (C := RX1) (T := TX1) (N := 5) hx hb hts inlX1 tyX1 tyX1_ok nmX1 hown hK hP hD hS 0 rfl rfl 3 (by decide) (hts (Cond.fieldLink RX1 18 "PlaneColours$FaceRows" "lengths" "[I") (by decide +kernel)) (fun _ h9 => h9) rfl hin rfl (by decide +kernel) rfl rfl (Nat.le_of_ble_eq_true rfl) dX1_init_28 (fun H locs hP hD hS => ?_)
  have hP : va_P D vwCl [(a0, zO 1 [.null, .ref q0, .ref q1, .ref q2, .int 0]), (q0, zA cI 200), (q1, zA cI 200), (q2, zA cI 200)] H := hP
  have hD : va_D A [(a0, zO 1 [.null, .ref q0, .ref q1, .ref q2, .int 0]), (q0, zA cI 200), (q1, zA cI 200), (q2, zA cI 200)] := hD
  refine lv_aload_n hx hb dX1_init_31 rfl (lv_at hl 0 rfl) ?_
  refine lv_iconst (v := 0) hx hb dX1_init_32 rfl ?_
  refine va_put (D := D) (ci := 1) (v := .int 0) (ty := tyX1 4) (C := RX1) (T := TX1) (N := 5) hx hb hts inlX1 tyX1 tyX1_ok nmX1 hown hK hP hD hS 0 rfl rfl 4 (by decide) (hts (Cond.fieldLink RX1 21 "PlaneColours$FaceRows" "count" "I") (by decide +kernel)) (fun _ h9 => h9) rfl (by decide +kernel) rfl rfl (Nat.le_of_ble_eq_true rfl) dX1_init_33 (fun H locs hP hD hS => ?_)
  have hP : va_P D vwCl [(a0, zO 1 [.null, .ref q0, .ref q1, .ref q2, .int 0]), (q0, zA cI 200), (q1, zA cI 200), (q2, zA cI 200)] H := hP
  have hD : va_D A [(a0, zO 1 [.null, .ref q0, .ref q1, .ref q2, .int 0]), (q0, zA cI 200), (q1, zA cI 200), (q2, zA cI 200)] := hD
  refine lv_aload_n hx hb dX1_init_36 rfl (lv_at hl 0 rfl) ?_
  refine lv_aload_n hx hb dX1_init_37 rfl (lv_at hl 1 rfl) ?_
  refine va_putF (D := D) (ci := 1) (v := .ref g1) (ty := tyX1 0) (C := RX1) (T := TX1) (N := 5) hx hb hts inlX1 tyX1 tyX1_ok nmX1 hown hK hP hD hS 0 rfl rfl 0 (by decide) (hts (Cond.fieldLink RX1 25 "PlaneColours$FaceRows" "graph" "LPlaneColours$Graph;") (by decide +kernel)) (fun _ h9 => h9) rfl hin rfl (by decide +kernel) rfl rfl (Nat.le_of_ble_eq_true rfl) dX1_init_38 (fun H locs hP hD hS => ?_)
  have hP : va_P D vwCl [(a0, zO 1 [.ref g1, .ref q0, .ref q1, .ref q2, .int 0]), (q0, zA cI 200), (q1, zA cI 200), (q2, zA cI 200)] H := hP
  have hD : va_D A [(a0, zO 1 [.ref g1, .ref q0, .ref q1, .ref q2, .int 0]), (q0, zA cI 200), (q1, zA cI 200), (q2, zA cI 200)] := hD
  exact W.vret hx hb hr (fun t ht hW => ⟨⟨(fun k => ([q0, q1, q2] : List Nat).getD k 0), rfl, trivial, by rw [ht]; exact hP, va_K.moved hW.alike hK, hD⟩, hS.F ht⟩) hS.2.2 dX1_init_41 hlocks
theorem zok_X4 : ZOk yX4_init cX4_init 2 1 := ⟨⟨by decide +kernel, by decide +kernel, by decide +kernel⟩, rfl, by decide +kernel, by decide +kernel, by decide +kernel⟩
set_option maxHeartbeats 8000000 in
set_option maxRecDepth 100000 in
theorem cc_X4 (l : Launch) (g1 : Nat) : CtC l yX4_init cX4_init 2 1 12 5 150 4 [.null, .null, .null, .null, .null, .null, .int 0, .int 0] [g1] [] (fun cI cZ a0 u => [(a0, zO 4 [.ref g1, .ref (u 0), .ref (u 1), .ref (u 2), .ref (u 3), .ref (u 4), .int 0, .int 0]), ((u 0), zA cI 30), ((u 1), zA cI 30), ((u 2), zA cI 30), ((u 3), zA cI 30), ((u 4), zA cI 30)]) := by
  intro D cI cZ cJ a0 sz
  refine Met.ofW (cc := cX4_init) (maxL := 2) (ret := none) (by decide) rfl ?_
  intro p e s m args below meth c s₁ B hml hv
  obtain ⟨rfl, hsz, hP, hK, hD0, hN⟩ := hv
  have hx := B.exec
  have hb := B.bytes
  have hr := B.returns
  have htsC := atoms_spec (ws := Cond.code yX4_init cX4_init 2 none :: wsL_law) B.pre
  have hts : ∀ w ∈ wsL_law, w.before _ s = true := fun w hw => htsC w (List.mem_cons_of_mem _ hw)
  have hown : s.vm.findClass RX4 = some m.cls := findClass_of_methodNamed B.named
  have hlocks := B.notSynchronized
  have hin : meth.name = "<init>" := (name_of_methodNamed B.named B.method).1
  subst hsz
  have hD := hD0.self (sz := s.heap.size)
  generalize hAe : va_A [(a0, zO 4 [.null, .null, .null, .null, .null, .null, .int 0, .int 0])] s.heap.size = A at hD ⊢
  have hA : ∀ q : Nat, s.heap.size ≤ q → A q := fun q h => by rw [← hAe]; exact Or.inr h
  have hS : va_S A s.heap s.heap [] := va_S.rf
  have hP : va_P D vwCl [(a0, zO 4 [.null, .null, .null, .null, .null, .null, .int 0, .int 0])] s.heap := hP
  have hl := lv_entry ([.ref a0, .ref g1]) (n := 2) (Nat.le_of_ble_eq_true rfl)
  show W p l e _ s m ([.ref a0, .ref g1] : List Value).toArray below meth c s.heap [] 0 0 _ (entryFrame m ([.ref a0, .ref g1] : List Value).toArray 2)
  rw [lg_entry_eq]
  generalize (lg_sl ([.ref a0, .ref g1]) ++ List.replicate (2 - (lg_sl ([.ref a0, .ref g1])).length) Slot.unset).toArray = ls at hl ⊢
  have hl : lv_has ls 2 [(0, .ref a0), (1, .ref g1)] := hl
  refine lv_aload_n hx hb dX4_init_0 rfl (lv_at hl 0 rfl) ?_
  refine W.objInit hx hb hown (hts (Cond.methodLink RX4 3 objectInit) (by decide +kernel)) (hts (Cond.instanceMethod objectInit) (by decide +kernel)) (hts (Cond.code objectInit ⟨#[0xb1]⟩ 1 none) (by decide +kernel)) rfl (by rw [hml]; exact hl.1) rfl dX4_init_1 (Nat.le_of_ble_eq_true rfl) (Nat.le_of_ble_eq_true rfl) ?_
  refine W.eq (g2 := F0 m 4 ls []) rfl ?_
  refine lv_aload_n hx hb dX4_init_4 rfl (lv_at hl 0 rfl) ?_
  refine lv_bipush (v := 30) hx hb dX4_init_5 rfl ?_
  refine z_newa_int (D := D) (cI := cI) (cZ := cZ) (cJ := cJ) (N := 30) hx hb (hts (Cond.arrayClass .int) (by decide +kernel)) hK hP hD hS hA (by decide) (by decide) (by decide) (Nat.le_of_ble_eq_true rfl) (Nat.le_of_ble_eq_true rfl) dX4_init_7 (fun q0 H hP hD hS => ?_)
  have hP : va_P D vwCl [(a0, zO 4 [.null, .null, .null, .null, .null, .null, .int 0, .int 0]), (q0, zA cI 30)] H := hP
  have hD : va_D A [(a0, zO 4 [.null, .null, .null, .null, .null, .null, .int 0, .int 0]), (q0, zA cI 30)] := hD
  refine W.widen (k := 1) (n := 30) (by omega) (by omega) ?_
  refine va_putF (D := D) (ci := 4) (v := .ref q0) (ty := tyX4 1) (C := RX4) (T := TX4) (N := 8) hx hb hts inlX4 tyX4 tyX4_ok nmX4 hown hK hP hD hS 0 rfl rfl 1 (by decide) (hts (Cond.fieldLink RX4 9 "PlaneColours$Tree" "vertexAbove" "[I") (by decide +kernel)) (fun _ h9 => h9) rfl hin rfl (by decide +kernel) rfl rfl (Nat.le_of_ble_eq_true rfl) dX4_init_9 (fun H locs hP hD hS => ?_)
  have hP : va_P D vwCl [(a0, zO 4 [.null, .ref q0, .null, .null, .null, .null, .int 0, .int 0]), (q0, zA cI 30)] H := hP
  have hD : va_D A [(a0, zO 4 [.null, .ref q0, .null, .null, .null, .null, .int 0, .int 0]), (q0, zA cI 30)] := hD
  refine lv_aload_n hx hb dX4_init_12 rfl (lv_at hl 0 rfl) ?_
  refine lv_bipush (v := 30) hx hb dX4_init_13 rfl ?_
  refine z_newa_int (D := D) (cI := cI) (cZ := cZ) (cJ := cJ) (N := 30) hx hb (hts (Cond.arrayClass .int) (by decide +kernel)) hK hP hD hS hA (by decide) (by decide) (by decide) (Nat.le_of_ble_eq_true rfl) (Nat.le_of_ble_eq_true rfl) dX4_init_15 (fun q1 H hP hD hS => ?_)
  have hP : va_P D vwCl [(a0, zO 4 [.null, .ref q0, .null, .null, .null, .null, .int 0, .int 0]), (q0, zA cI 30), (q1, zA cI 30)] H := hP
  have hD : va_D A [(a0, zO 4 [.null, .ref q0, .null, .null, .null, .null, .int 0, .int 0]), (q0, zA cI 30), (q1, zA cI 30)] := hD
  refine W.widen (k := 2) (n := 60) (by omega) (by omega) ?_
  refine va_putF (D := D) (ci := 4) (v := .ref q1) (ty := tyX4 2) (C := RX4) (T := TX4) (N := 8) hx hb hts inlX4 tyX4 tyX4_ok nmX4 hown hK hP hD hS 0 rfl rfl 2 (by decide) (hts (Cond.fieldLink RX4 15 "PlaneColours$Tree" "edgeAbove" "[I") (by decide +kernel)) (fun _ h9 => h9) rfl hin rfl (by decide +kernel) rfl rfl (Nat.le_of_ble_eq_true rfl) dX4_init_17 (fun H locs hP hD hS => ?_)
  have hP : va_P D vwCl [(a0, zO 4 [.null, .ref q0, .ref q1, .null, .null, .null, .int 0, .int 0]), (q0, zA cI 30), (q1, zA cI 30)] H := hP
  have hD : va_D A [(a0, zO 4 [.null, .ref q0, .ref q1, .null, .null, .null, .int 0, .int 0]), (q0, zA cI 30), (q1, zA cI 30)] := hD
  refine lv_aload_n hx hb dX4_init_20 rfl (lv_at hl 0 rfl) ?_
  refine lv_bipush (v := 30) hx hb dX4_init_21 rfl ?_
  refine z_newa_int (D := D) (cI := cI) (cZ := cZ) (cJ := cJ) (N := 30) hx hb (hts (Cond.arrayClass .int) (by decide +kernel)) hK hP hD hS hA (by decide) (by decide) (by decide) (Nat.le_of_ble_eq_true rfl) (Nat.le_of_ble_eq_true rfl) dX4_init_23 (fun q2 H hP hD hS => ?_)
  have hP : va_P D vwCl [(a0, zO 4 [.null, .ref q0, .ref q1, .null, .null, .null, .int 0, .int 0]), (q0, zA cI 30), (q1, zA cI 30), (q2, zA cI 30)] H := hP
  have hD : va_D A [(a0, zO 4 [.null, .ref q0, .ref q1, .null, .null, .null, .int 0, .int 0]), (q0, zA cI 30), (q1, zA cI 30), (q2, zA cI 30)] := hD
  refine W.widen (k := 3) (n := 90) (by omega) (by omega) ?_
  refine va_putF (D := D) (ci := 4) (v := .ref q2) (ty := tyX4 3) (C := RX4) (T := TX4) (N := 8) hx hb hts inlX4 tyX4 tyX4_ok nmX4 hown hK hP hD hS 0 rfl rfl 3 (by decide) (hts (Cond.fieldLink RX4 18 "PlaneColours$Tree" "level" "[I") (by decide +kernel)) (fun _ h9 => h9) rfl hin rfl (by decide +kernel) rfl rfl (Nat.le_of_ble_eq_true rfl) dX4_init_25 (fun H locs hP hD hS => ?_)
  have hP : va_P D vwCl [(a0, zO 4 [.null, .ref q0, .ref q1, .ref q2, .null, .null, .int 0, .int 0]), (q0, zA cI 30), (q1, zA cI 30), (q2, zA cI 30)] H := hP
  have hD : va_D A [(a0, zO 4 [.null, .ref q0, .ref q1, .ref q2, .null, .null, .int 0, .int 0]), (q0, zA cI 30), (q1, zA cI 30), (q2, zA cI 30)] := hD
  refine lv_aload_n hx hb dX4_init_28 rfl (lv_at hl 0 rfl) ?_
  refine lv_bipush (v := 30) hx hb dX4_init_29 rfl ?_
  refine z_newa_int (D := D) (cI := cI) (cZ := cZ) (cJ := cJ) (N := 30) hx hb (hts (Cond.arrayClass .int) (by decide +kernel)) hK hP hD hS hA (by decide) (by decide) (by decide) (Nat.le_of_ble_eq_true rfl) (Nat.le_of_ble_eq_true rfl) dX4_init_31 (fun q3 H hP hD hS => ?_)
  have hP : va_P D vwCl [(a0, zO 4 [.null, .ref q0, .ref q1, .ref q2, .null, .null, .int 0, .int 0]), (q0, zA cI 30), (q1, zA cI 30), (q2, zA cI 30), (q3, zA cI 30)] H := hP
  have hD : va_D A [(a0, zO 4 [.null, .ref q0, .ref q1, .ref q2, .null, .null, .int 0, .int 0]), (q0, zA cI 30), (q1, zA cI 30), (q2, zA cI 30), (q3, zA cI 30)] := hD
  refine W.widen (k := 4) (n := 120) (by omega) (by omega) ?_
  refine va_putF (D := D) (ci := 4) (v := .ref q3) (ty := tyX4 4) (C := RX4) (T := TX4) (N := 8) hx hb hts inlX4 tyX4 tyX4_ok nmX4 hown hK hP hD hS 0 rfl rfl 4 (by decide) (hts (Cond.fieldLink RX4 21 "PlaneColours$Tree" "partOf" "[I") (by decide +kernel)) (fun _ h9 => h9) rfl hin rfl (by decide +kernel) rfl rfl (Nat.le_of_ble_eq_true rfl) dX4_init_33 (fun H locs hP hD hS => ?_)
  have hP : va_P D vwCl [(a0, zO 4 [.null, .ref q0, .ref q1, .ref q2, .ref q3, .null, .int 0, .int 0]), (q0, zA cI 30), (q1, zA cI 30), (q2, zA cI 30), (q3, zA cI 30)] H := hP
  have hD : va_D A [(a0, zO 4 [.null, .ref q0, .ref q1, .ref q2, .ref q3, .null, .int 0, .int 0]), (q0, zA cI 30), (q1, zA cI 30), (q2, zA cI 30), (q3, zA cI 30)] := hD
  refine lv_aload_n hx hb dX4_init_36 rfl (lv_at hl 0 rfl) ?_
  refine lv_bipush (v := 30) hx hb dX4_init_37 rfl ?_
  refine z_newa_int (D := D) (cI := cI) (cZ := cZ) (cJ := cJ) (N := 30) hx hb (hts (Cond.arrayClass .int) (by decide +kernel)) hK hP hD hS hA (by decide) (by decide) (by decide) (Nat.le_of_ble_eq_true rfl) (Nat.le_of_ble_eq_true rfl) dX4_init_39 (fun q4 H hP hD hS => ?_)
  have hP : va_P D vwCl [(a0, zO 4 [.null, .ref q0, .ref q1, .ref q2, .ref q3, .null, .int 0, .int 0]), (q0, zA cI 30), (q1, zA cI 30), (q2, zA cI 30), (q3, zA cI 30), (q4, zA cI 30)] H := hP
  have hD : va_D A [(a0, zO 4 [.null, .ref q0, .ref q1, .ref q2, .ref q3, .null, .int 0, .int 0]), (q0, zA cI 30), (q1, zA cI 30), (q2, zA cI 30), (q3, zA cI 30), (q4, zA cI 30)] := hD
  refine W.widen (k := 5) (n := 150) (by omega) (by omega) ?_
  refine va_putF (D := D) (ci := 4) (v := .ref q4) (ty := tyX4 5) (C := RX4) (T := TX4) (N := 8) hx hb hts inlX4 tyX4 tyX4_ok nmX4 hown hK hP hD hS 0 rfl rfl 5 (by decide) (hts (Cond.fieldLink RX4 24 "PlaneColours$Tree" "queue" "[I") (by decide +kernel)) (fun _ h9 => h9) rfl hin rfl (by decide +kernel) rfl rfl (Nat.le_of_ble_eq_true rfl) dX4_init_41 (fun H locs hP hD hS => ?_)
  have hP : va_P D vwCl [(a0, zO 4 [.null, .ref q0, .ref q1, .ref q2, .ref q3, .ref q4, .int 0, .int 0]), (q0, zA cI 30), (q1, zA cI 30), (q2, zA cI 30), (q3, zA cI 30), (q4, zA cI 30)] H := hP
  have hD : va_D A [(a0, zO 4 [.null, .ref q0, .ref q1, .ref q2, .ref q3, .ref q4, .int 0, .int 0]), (q0, zA cI 30), (q1, zA cI 30), (q2, zA cI 30), (q3, zA cI 30), (q4, zA cI 30)] := hD
  refine lv_aload_n hx hb dX4_init_44 rfl (lv_at hl 0 rfl) ?_
  refine lv_iconst (v := 0) hx hb dX4_init_45 rfl ?_
  refine va_put (D := D) (ci := 4) (v := .int 0) (ty := tyX4 6) (C := RX4) (T := TX4) (N := 8) hx hb hts inlX4 tyX4 tyX4_ok nmX4 hown hK hP hD hS 0 rfl rfl 6 (by decide) (hts (Cond.fieldLink RX4 27 "PlaneColours$Tree" "reached" "I") (by decide +kernel)) (fun _ h9 => h9) rfl (by decide +kernel) rfl rfl (Nat.le_of_ble_eq_true rfl) dX4_init_46 (fun H locs hP hD hS => ?_)
  have hP : va_P D vwCl [(a0, zO 4 [.null, .ref q0, .ref q1, .ref q2, .ref q3, .ref q4, .int 0, .int 0]), (q0, zA cI 30), (q1, zA cI 30), (q2, zA cI 30), (q3, zA cI 30), (q4, zA cI 30)] H := hP
  have hD : va_D A [(a0, zO 4 [.null, .ref q0, .ref q1, .ref q2, .ref q3, .ref q4, .int 0, .int 0]), (q0, zA cI 30), (q1, zA cI 30), (q2, zA cI 30), (q3, zA cI 30), (q4, zA cI 30)] := hD
  refine lv_aload_n hx hb dX4_init_49 rfl (lv_at hl 0 rfl) ?_
  refine lv_iconst (v := 0) hx hb dX4_init_50 rfl ?_
  refine va_put (D := D) (ci := 4) (v := .int 0) (ty := tyX4 7) (C := RX4) (T := TX4) (N := 8) hx hb hts inlX4 tyX4 tyX4_ok nmX4 hown hK hP hD hS 0 rfl rfl 7 (by decide) (hts (Cond.fieldLink RX4 31 "PlaneColours$Tree" "count" "I") (by decide +kernel)) (fun _ h9 => h9) rfl (by decide +kernel) rfl rfl (Nat.le_of_ble_eq_true rfl) dX4_init_51 (fun H locs hP hD hS => ?_)
  have hP : va_P D vwCl [(a0, zO 4 [.null, .ref q0, .ref q1, .ref q2, .ref q3, .ref q4, .int 0, .int 0]), (q0, zA cI 30), (q1, zA cI 30), (q2, zA cI 30), (q3, zA cI 30), (q4, zA cI 30)] H := hP
  have hD : va_D A [(a0, zO 4 [.null, .ref q0, .ref q1, .ref q2, .ref q3, .ref q4, .int 0, .int 0]), (q0, zA cI 30), (q1, zA cI 30), (q2, zA cI 30), (q3, zA cI 30), (q4, zA cI 30)] := hD
  refine lv_aload_n hx hb dX4_init_54 rfl (lv_at hl 0 rfl) ?_
  refine lv_aload_n hx hb dX4_init_55 rfl (lv_at hl 1 rfl) ?_
  refine va_putF (D := D) (ci := 4) (v := .ref g1) (ty := tyX4 0) (C := RX4) (T := TX4) (N := 8) hx hb hts inlX4 tyX4 tyX4_ok nmX4 hown hK hP hD hS 0 rfl rfl 0 (by decide) (hts (Cond.fieldLink RX4 34 "PlaneColours$Tree" "graph" "LPlaneColours$Graph;") (by decide +kernel)) (fun _ h9 => h9) rfl hin rfl (by decide +kernel) rfl rfl (Nat.le_of_ble_eq_true rfl) dX4_init_56 (fun H locs hP hD hS => ?_)
  have hP : va_P D vwCl [(a0, zO 4 [.ref g1, .ref q0, .ref q1, .ref q2, .ref q3, .ref q4, .int 0, .int 0]), (q0, zA cI 30), (q1, zA cI 30), (q2, zA cI 30), (q3, zA cI 30), (q4, zA cI 30)] H := hP
  have hD : va_D A [(a0, zO 4 [.ref g1, .ref q0, .ref q1, .ref q2, .ref q3, .ref q4, .int 0, .int 0]), (q0, zA cI 30), (q1, zA cI 30), (q2, zA cI 30), (q3, zA cI 30), (q4, zA cI 30)] := hD
  exact W.vret hx hb hr (fun t ht hW => ⟨⟨(fun k => ([q0, q1, q2, q3, q4] : List Nat).getD k 0), rfl, trivial, by rw [ht]; exact hP, va_K.moved hW.alike hK, hD⟩, hS.F ht⟩) hS.2.2 dX4_init_59 hlocks
theorem zok_X0 : ZOk yX0_init cX0_init 2 1 := ⟨⟨by decide +kernel, by decide +kernel, by decide +kernel⟩, rfl, by decide +kernel, by decide +kernel, by decide +kernel⟩
set_option maxHeartbeats 8000000 in
set_option maxRecDepth 100000 in
theorem cc_X0 (l : Launch) (g1 : Nat) : CtC l yX0_init cX0_init 2 1 12 6 155 0 [.null, .null, .null, .null, .null, .null, .null, .int 0, .int 0] [g1] [] (fun cI cZ a0 u => [(a0, zO 0 [.ref g1, .ref (u 0), .ref (u 1), .ref (u 2), .ref (u 3), .ref (u 4), .ref (u 5), .int 0, .int 0]), ((u 0), zA cI 30), ((u 1), zA cZ 30), ((u 2), zA cI 30), ((u 3), zA cI 5), ((u 4), zA cZ 30), ((u 5), zA cI 30)]) := by
  intro D cI cZ cJ a0 sz
  refine Met.ofW (cc := cX0_init) (maxL := 2) (ret := none) (by decide) rfl ?_
  intro p e s m args below meth c s₁ B hml hv
  obtain ⟨rfl, hsz, hP, hK, hD0, hN⟩ := hv
  have hx := B.exec
  have hb := B.bytes
  have hr := B.returns
  have htsC := atoms_spec (ws := Cond.code yX0_init cX0_init 2 none :: wsL_law) B.pre
  have hts : ∀ w ∈ wsL_law, w.before _ s = true := fun w hw => htsC w (List.mem_cons_of_mem _ hw)
  have hown : s.vm.findClass RX0 = some m.cls := findClass_of_methodNamed B.named
  have hlocks := B.notSynchronized
  have hin : meth.name = "<init>" := (name_of_methodNamed B.named B.method).1
  subst hsz
  have hD := hD0.self (sz := s.heap.size)
  generalize hAe : va_A [(a0, zO 0 [.null, .null, .null, .null, .null, .null, .null, .int 0, .int 0])] s.heap.size = A at hD ⊢
  have hA : ∀ q : Nat, s.heap.size ≤ q → A q := fun q h => by rw [← hAe]; exact Or.inr h
  have hS : va_S A s.heap s.heap [] := va_S.rf
  have hP : va_P D vwCl [(a0, zO 0 [.null, .null, .null, .null, .null, .null, .null, .int 0, .int 0])] s.heap := hP
  have hl := lv_entry ([.ref a0, .ref g1]) (n := 2) (Nat.le_of_ble_eq_true rfl)
  show W p l e _ s m ([.ref a0, .ref g1] : List Value).toArray below meth c s.heap [] 0 0 _ (entryFrame m ([.ref a0, .ref g1] : List Value).toArray 2)
  rw [lg_entry_eq]
  generalize (lg_sl ([.ref a0, .ref g1]) ++ List.replicate (2 - (lg_sl ([.ref a0, .ref g1])).length) Slot.unset).toArray = ls at hl ⊢
  have hl : lv_has ls 2 [(0, .ref a0), (1, .ref g1)] := hl
  refine lv_aload_n hx hb dX0_init_0 rfl (lv_at hl 0 rfl) ?_
  refine W.objInit hx hb hown (hts (Cond.methodLink RX0 3 objectInit) (by decide +kernel)) (hts (Cond.instanceMethod objectInit) (by decide +kernel)) (hts (Cond.code objectInit ⟨#[0xb1]⟩ 1 none) (by decide +kernel)) rfl (by rw [hml]; exact hl.1) rfl dX0_init_1 (Nat.le_of_ble_eq_true rfl) (Nat.le_of_ble_eq_true rfl) ?_
  refine W.eq (g2 := F0 m 4 ls []) rfl ?_
  refine lv_aload_n hx hb dX0_init_4 rfl (lv_at hl 0 rfl) ?_
  refine lv_bipush (v := 30) hx hb dX0_init_5 rfl ?_
  refine z_newa_int (D := D) (cI := cI) (cZ := cZ) (cJ := cJ) (N := 30) hx hb (hts (Cond.arrayClass .int) (by decide +kernel)) hK hP hD hS hA (by decide) (by decide) (by decide) (Nat.le_of_ble_eq_true rfl) (Nat.le_of_ble_eq_true rfl) dX0_init_7 (fun q0 H hP hD hS => ?_)
  have hP : va_P D vwCl [(a0, zO 0 [.null, .null, .null, .null, .null, .null, .null, .int 0, .int 0]), (q0, zA cI 30)] H := hP
  have hD : va_D A [(a0, zO 0 [.null, .null, .null, .null, .null, .null, .null, .int 0, .int 0]), (q0, zA cI 30)] := hD
  refine W.widen (k := 1) (n := 30) (by omega) (by omega) ?_
  refine va_putF (D := D) (ci := 0) (v := .ref q0) (ty := tyX0 1) (C := RX0) (T := TX0) (N := 9) hx hb hts inlX0 tyX0 tyX0_ok nmX0 hown hK hP hD hS 0 rfl rfl 1 (by decide) (hts (Cond.fieldLink RX0 9 "PlaneColours$Colouring" "colourOfVertex" "[I") (by decide +kernel)) (fun _ h9 => h9) rfl hin rfl (by decide +kernel) rfl rfl (Nat.le_of_ble_eq_true rfl) dX0_init_9 (fun H locs hP hD hS => ?_)
  have hP : va_P D vwCl [(a0, zO 0 [.null, .ref q0, .null, .null, .null, .null, .null, .int 0, .int 0]), (q0, zA cI 30)] H := hP
  have hD : va_D A [(a0, zO 0 [.null, .ref q0, .null, .null, .null, .null, .null, .int 0, .int 0]), (q0, zA cI 30)] := hD
  refine lv_aload_n hx hb dX0_init_12 rfl (lv_at hl 0 rfl) ?_
  refine lv_bipush (v := 30) hx hb dX0_init_13 rfl ?_
  refine z_newa_boolean (D := D) (cI := cI) (cZ := cZ) (cJ := cJ) (N := 30) hx hb (hts (Cond.arrayClass .boolean) (by decide +kernel)) hK hP hD hS hA (by decide) (by decide) (by decide) (Nat.le_of_ble_eq_true rfl) (Nat.le_of_ble_eq_true rfl) dX0_init_15 (fun q1 H hP hD hS => ?_)
  have hP : va_P D vwCl [(a0, zO 0 [.null, .ref q0, .null, .null, .null, .null, .null, .int 0, .int 0]), (q0, zA cI 30), (q1, zA cZ 30)] H := hP
  have hD : va_D A [(a0, zO 0 [.null, .ref q0, .null, .null, .null, .null, .null, .int 0, .int 0]), (q0, zA cI 30), (q1, zA cZ 30)] := hD
  refine W.widen (k := 2) (n := 60) (by omega) (by omega) ?_
  refine va_putF (D := D) (ci := 0) (v := .ref q1) (ty := tyX0 2) (C := RX0) (T := TX0) (N := 9) hx hb hts inlX0 tyX0 tyX0_ok nmX0 hown hK hP hD hS 0 rfl rfl 2 (by decide) (hts (Cond.fieldLink RX0 15 "PlaneColours$Colouring" "isTaken" "[Z") (by decide +kernel)) (fun _ h9 => h9) rfl hin rfl (by decide +kernel) rfl rfl (Nat.le_of_ble_eq_true rfl) dX0_init_17 (fun H locs hP hD hS => ?_)
  have hP : va_P D vwCl [(a0, zO 0 [.null, .ref q0, .ref q1, .null, .null, .null, .null, .int 0, .int 0]), (q0, zA cI 30), (q1, zA cZ 30)] H := hP
  have hD : va_D A [(a0, zO 0 [.null, .ref q0, .ref q1, .null, .null, .null, .null, .int 0, .int 0]), (q0, zA cI 30), (q1, zA cZ 30)] := hD
  refine lv_aload_n hx hb dX0_init_20 rfl (lv_at hl 0 rfl) ?_
  refine lv_bipush (v := 30) hx hb dX0_init_21 rfl ?_
  refine z_newa_int (D := D) (cI := cI) (cZ := cZ) (cJ := cJ) (N := 30) hx hb (hts (Cond.arrayClass .int) (by decide +kernel)) hK hP hD hS hA (by decide) (by decide) (by decide) (Nat.le_of_ble_eq_true rfl) (Nat.le_of_ble_eq_true rfl) dX0_init_23 (fun q2 H hP hD hS => ?_)
  have hP : va_P D vwCl [(a0, zO 0 [.null, .ref q0, .ref q1, .null, .null, .null, .null, .int 0, .int 0]), (q0, zA cI 30), (q1, zA cZ 30), (q2, zA cI 30)] H := hP
  have hD : va_D A [(a0, zO 0 [.null, .ref q0, .ref q1, .null, .null, .null, .null, .int 0, .int 0]), (q0, zA cI 30), (q1, zA cZ 30), (q2, zA cI 30)] := hD
  refine W.widen (k := 3) (n := 90) (by omega) (by omega) ?_
  refine va_putF (D := D) (ci := 0) (v := .ref q2) (ty := tyX0 3) (C := RX0) (T := TX0) (N := 9) hx hb hts inlX0 tyX0 tyX0_ok nmX0 hown hK hP hD hS 0 rfl rfl 3 (by decide) (hts (Cond.fieldLink RX0 19 "PlaneColours$Colouring" "order" "[I") (by decide +kernel)) (fun _ h9 => h9) rfl hin rfl (by decide +kernel) rfl rfl (Nat.le_of_ble_eq_true rfl) dX0_init_25 (fun H locs hP hD hS => ?_)
  have hP : va_P D vwCl [(a0, zO 0 [.null, .ref q0, .ref q1, .ref q2, .null, .null, .null, .int 0, .int 0]), (q0, zA cI 30), (q1, zA cZ 30), (q2, zA cI 30)] H := hP
  have hD : va_D A [(a0, zO 0 [.null, .ref q0, .ref q1, .ref q2, .null, .null, .null, .int 0, .int 0]), (q0, zA cI 30), (q1, zA cZ 30), (q2, zA cI 30)] := hD
  refine lv_aload_n hx hb dX0_init_28 rfl (lv_at hl 0 rfl) ?_
  refine lv_iconst (v := 5) hx hb dX0_init_29 rfl ?_
  refine z_newa_int (D := D) (cI := cI) (cZ := cZ) (cJ := cJ) (N := 5) hx hb (hts (Cond.arrayClass .int) (by decide +kernel)) hK hP hD hS hA (by decide) (by decide) (by decide) (Nat.le_of_ble_eq_true rfl) (Nat.le_of_ble_eq_true rfl) dX0_init_30 (fun q3 H hP hD hS => ?_)
  have hP : va_P D vwCl [(a0, zO 0 [.null, .ref q0, .ref q1, .ref q2, .null, .null, .null, .int 0, .int 0]), (q0, zA cI 30), (q1, zA cZ 30), (q2, zA cI 30), (q3, zA cI 5)] H := hP
  have hD : va_D A [(a0, zO 0 [.null, .ref q0, .ref q1, .ref q2, .null, .null, .null, .int 0, .int 0]), (q0, zA cI 30), (q1, zA cZ 30), (q2, zA cI 30), (q3, zA cI 5)] := hD
  refine W.widen (k := 4) (n := 95) (by omega) (by omega) ?_
  refine va_putF (D := D) (ci := 0) (v := .ref q3) (ty := tyX0 4) (C := RX0) (T := TX0) (N := 9) hx hb hts inlX0 tyX0 tyX0_ok nmX0 hown hK hP hD hS 0 rfl rfl 4 (by decide) (hts (Cond.fieldLink RX0 22 "PlaneColours$Colouring" "fiveRound" "[I") (by decide +kernel)) (fun _ h9 => h9) rfl hin rfl (by decide +kernel) rfl rfl (Nat.le_of_ble_eq_true rfl) dX0_init_32 (fun H locs hP hD hS => ?_)
  have hP : va_P D vwCl [(a0, zO 0 [.null, .ref q0, .ref q1, .ref q2, .ref q3, .null, .null, .int 0, .int 0]), (q0, zA cI 30), (q1, zA cZ 30), (q2, zA cI 30), (q3, zA cI 5)] H := hP
  have hD : va_D A [(a0, zO 0 [.null, .ref q0, .ref q1, .ref q2, .ref q3, .null, .null, .int 0, .int 0]), (q0, zA cI 30), (q1, zA cZ 30), (q2, zA cI 30), (q3, zA cI 5)] := hD
  refine lv_aload_n hx hb dX0_init_35 rfl (lv_at hl 0 rfl) ?_
  refine lv_bipush (v := 30) hx hb dX0_init_36 rfl ?_
  refine z_newa_boolean (D := D) (cI := cI) (cZ := cZ) (cJ := cJ) (N := 30) hx hb (hts (Cond.arrayClass .boolean) (by decide +kernel)) hK hP hD hS hA (by decide) (by decide) (by decide) (Nat.le_of_ble_eq_true rfl) (Nat.le_of_ble_eq_true rfl) dX0_init_38 (fun q4 H hP hD hS => ?_)
  have hP : va_P D vwCl [(a0, zO 0 [.null, .ref q0, .ref q1, .ref q2, .ref q3, .null, .null, .int 0, .int 0]), (q0, zA cI 30), (q1, zA cZ 30), (q2, zA cI 30), (q3, zA cI 5), (q4, zA cZ 30)] H := hP
  have hD : va_D A [(a0, zO 0 [.null, .ref q0, .ref q1, .ref q2, .ref q3, .null, .null, .int 0, .int 0]), (q0, zA cI 30), (q1, zA cZ 30), (q2, zA cI 30), (q3, zA cI 5), (q4, zA cZ 30)] := hD
  refine W.widen (k := 5) (n := 125) (by omega) (by omega) ?_
  refine va_putF (D := D) (ci := 0) (v := .ref q4) (ty := tyX0 5) (C := RX0) (T := TX0) (N := 9) hx hb hts inlX0 tyX0 tyX0_ok nmX0 hown hK hP hD hS 0 rfl rfl 5 (by decide) (hts (Cond.fieldLink RX0 25 "PlaneColours$Colouring" "isInChain" "[Z") (by decide +kernel)) (fun _ h9 => h9) rfl hin rfl (by decide +kernel) rfl rfl (Nat.le_of_ble_eq_true rfl) dX0_init_40 (fun H locs hP hD hS => ?_)
  have hP : va_P D vwCl [(a0, zO 0 [.null, .ref q0, .ref q1, .ref q2, .ref q3, .ref q4, .null, .int 0, .int 0]), (q0, zA cI 30), (q1, zA cZ 30), (q2, zA cI 30), (q3, zA cI 5), (q4, zA cZ 30)] H := hP
  have hD : va_D A [(a0, zO 0 [.null, .ref q0, .ref q1, .ref q2, .ref q3, .ref q4, .null, .int 0, .int 0]), (q0, zA cI 30), (q1, zA cZ 30), (q2, zA cI 30), (q3, zA cI 5), (q4, zA cZ 30)] := hD
  refine lv_aload_n hx hb dX0_init_43 rfl (lv_at hl 0 rfl) ?_
  refine lv_bipush (v := 30) hx hb dX0_init_44 rfl ?_
  refine z_newa_int (D := D) (cI := cI) (cZ := cZ) (cJ := cJ) (N := 30) hx hb (hts (Cond.arrayClass .int) (by decide +kernel)) hK hP hD hS hA (by decide) (by decide) (by decide) (Nat.le_of_ble_eq_true rfl) (Nat.le_of_ble_eq_true rfl) dX0_init_46 (fun q5 H hP hD hS => ?_)
  have hP : va_P D vwCl [(a0, zO 0 [.null, .ref q0, .ref q1, .ref q2, .ref q3, .ref q4, .null, .int 0, .int 0]), (q0, zA cI 30), (q1, zA cZ 30), (q2, zA cI 30), (q3, zA cI 5), (q4, zA cZ 30), (q5, zA cI 30)] H := hP
  have hD : va_D A [(a0, zO 0 [.null, .ref q0, .ref q1, .ref q2, .ref q3, .ref q4, .null, .int 0, .int 0]), (q0, zA cI 30), (q1, zA cZ 30), (q2, zA cI 30), (q3, zA cI 5), (q4, zA cZ 30), (q5, zA cI 30)] := hD
  refine W.widen (k := 6) (n := 155) (by omega) (by omega) ?_
  refine va_putF (D := D) (ci := 0) (v := .ref q5) (ty := tyX0 6) (C := RX0) (T := TX0) (N := 9) hx hb hts inlX0 tyX0 tyX0_ok nmX0 hown hK hP hD hS 0 rfl rfl 6 (by decide) (hts (Cond.fieldLink RX0 28 "PlaneColours$Colouring" "chain" "[I") (by decide +kernel)) (fun _ h9 => h9) rfl hin rfl (by decide +kernel) rfl rfl (Nat.le_of_ble_eq_true rfl) dX0_init_48 (fun H locs hP hD hS => ?_)
  have hP : va_P D vwCl [(a0, zO 0 [.null, .ref q0, .ref q1, .ref q2, .ref q3, .ref q4, .ref q5, .int 0, .int 0]), (q0, zA cI 30), (q1, zA cZ 30), (q2, zA cI 30), (q3, zA cI 5), (q4, zA cZ 30), (q5, zA cI 30)] H := hP
  have hD : va_D A [(a0, zO 0 [.null, .ref q0, .ref q1, .ref q2, .ref q3, .ref q4, .ref q5, .int 0, .int 0]), (q0, zA cI 30), (q1, zA cZ 30), (q2, zA cI 30), (q3, zA cI 5), (q4, zA cZ 30), (q5, zA cI 30)] := hD
  refine lv_aload_n hx hb dX0_init_51 rfl (lv_at hl 0 rfl) ?_
  refine lv_iconst (v := 0) hx hb dX0_init_52 rfl ?_
  refine va_put (D := D) (ci := 0) (v := .int 0) (ty := tyX0 7) (C := RX0) (T := TX0) (N := 9) hx hb hts inlX0 tyX0 tyX0_ok nmX0 hown hK hP hD hS 0 rfl rfl 7 (by decide) (hts (Cond.fieldLink RX0 31 "PlaneColours$Colouring" "chainSize" "I") (by decide +kernel)) (fun _ h9 => h9) rfl (by decide +kernel) rfl rfl (Nat.le_of_ble_eq_true rfl) dX0_init_53 (fun H locs hP hD hS => ?_)
  have hP : va_P D vwCl [(a0, zO 0 [.null, .ref q0, .ref q1, .ref q2, .ref q3, .ref q4, .ref q5, .int 0, .int 0]), (q0, zA cI 30), (q1, zA cZ 30), (q2, zA cI 30), (q3, zA cI 5), (q4, zA cZ 30), (q5, zA cI 30)] H := hP
  have hD : va_D A [(a0, zO 0 [.null, .ref q0, .ref q1, .ref q2, .ref q3, .ref q4, .ref q5, .int 0, .int 0]), (q0, zA cI 30), (q1, zA cZ 30), (q2, zA cI 30), (q3, zA cI 5), (q4, zA cZ 30), (q5, zA cI 30)] := hD
  refine lv_aload_n hx hb dX0_init_56 rfl (lv_at hl 0 rfl) ?_
  refine lv_iconst (v := 0) hx hb dX0_init_57 rfl ?_
  refine va_put (D := D) (ci := 0) (v := .int 0) (ty := tyX0 8) (C := RX0) (T := TX0) (N := 9) hx hb hts inlX0 tyX0 tyX0_ok nmX0 hown hK hP hD hS 0 rfl rfl 8 (by decide) (hts (Cond.fieldLink RX0 35 "PlaneColours$Colouring" "chainsChanged" "I") (by decide +kernel)) (fun _ h9 => h9) rfl (by decide +kernel) rfl rfl (Nat.le_of_ble_eq_true rfl) dX0_init_58 (fun H locs hP hD hS => ?_)
  have hP : va_P D vwCl [(a0, zO 0 [.null, .ref q0, .ref q1, .ref q2, .ref q3, .ref q4, .ref q5, .int 0, .int 0]), (q0, zA cI 30), (q1, zA cZ 30), (q2, zA cI 30), (q3, zA cI 5), (q4, zA cZ 30), (q5, zA cI 30)] H := hP
  have hD : va_D A [(a0, zO 0 [.null, .ref q0, .ref q1, .ref q2, .ref q3, .ref q4, .ref q5, .int 0, .int 0]), (q0, zA cI 30), (q1, zA cZ 30), (q2, zA cI 30), (q3, zA cI 5), (q4, zA cZ 30), (q5, zA cI 30)] := hD
  refine lv_aload_n hx hb dX0_init_61 rfl (lv_at hl 0 rfl) ?_
  refine lv_aload_n hx hb dX0_init_62 rfl (lv_at hl 1 rfl) ?_
  refine va_putF (D := D) (ci := 0) (v := .ref g1) (ty := tyX0 0) (C := RX0) (T := TX0) (N := 9) hx hb hts inlX0 tyX0 tyX0_ok nmX0 hown hK hP hD hS 0 rfl rfl 0 (by decide) (hts (Cond.fieldLink RX0 38 "PlaneColours$Colouring" "graph" "LPlaneColours$Graph;") (by decide +kernel)) (fun _ h9 => h9) rfl hin rfl (by decide +kernel) rfl rfl (Nat.le_of_ble_eq_true rfl) dX0_init_63 (fun H locs hP hD hS => ?_)
  have hP : va_P D vwCl [(a0, zO 0 [.ref g1, .ref q0, .ref q1, .ref q2, .ref q3, .ref q4, .ref q5, .int 0, .int 0]), (q0, zA cI 30), (q1, zA cZ 30), (q2, zA cI 30), (q3, zA cI 5), (q4, zA cZ 30), (q5, zA cI 30)] H := hP
  have hD : va_D A [(a0, zO 0 [.ref g1, .ref q0, .ref q1, .ref q2, .ref q3, .ref q4, .ref q5, .int 0, .int 0]), (q0, zA cI 30), (q1, zA cZ 30), (q2, zA cI 30), (q3, zA cI 5), (q4, zA cZ 30), (q5, zA cI 30)] := hD
  exact W.vret hx hb hr (fun t ht hW => ⟨⟨(fun k => ([q0, q1, q2, q3, q4, q5] : List Nat).getD k 0), rfl, trivial, by rw [ht]; exact hP, va_K.moved hW.alike hK, hD⟩, hS.F ht⟩) hS.2.2 dX0_init_66 hlocks
theorem zok_X3 : ZOk yX3_init cX3_init 4 3 := ⟨⟨by decide +kernel, by decide +kernel, by decide +kernel⟩, rfl, by decide +kernel, by decide +kernel, by decide +kernel⟩
set_option maxHeartbeats 8000000 in
set_option maxRecDepth 100000 in
theorem cc_X3 (l : Launch) (g1 : Nat) (g2 : Nat) (g3 : Nat) : CtC l yX3_init cX3_init 4 1 12 4 530 3 [.null, .null, .null, .null, .null, .null, .null, .int 0, .int 0, .int 0, .int 0] [g1, g2, g3] [] (fun cI cZ a0 u => [(a0, zO 3 [.ref g1, .ref g2, .ref g3, .ref (u 0), .ref (u 1), .ref (u 2), .ref (u 3), .int 0, .int 0, .int 0, .int 0]), ((u 0), zA cZ 30), ((u 1), zA cZ 100), ((u 2), zA cZ 200), ((u 3), zA cI 200)]) := by
  intro D cI cZ cJ a0 sz
  refine Met.ofW (cc := cX3_init) (maxL := 4) (ret := none) (by decide) rfl ?_
  intro p e s m args below meth c s₁ B hml hv
  obtain ⟨rfl, hsz, hP, hK, hD0, hN⟩ := hv
  have hx := B.exec
  have hb := B.bytes
  have hr := B.returns
  have htsC := atoms_spec (ws := Cond.code yX3_init cX3_init 4 none :: wsL_law) B.pre
  have hts : ∀ w ∈ wsL_law, w.before _ s = true := fun w hw => htsC w (List.mem_cons_of_mem _ hw)
  have hown : s.vm.findClass RX3 = some m.cls := findClass_of_methodNamed B.named
  have hlocks := B.notSynchronized
  have hin : meth.name = "<init>" := (name_of_methodNamed B.named B.method).1
  subst hsz
  have hD := hD0.self (sz := s.heap.size)
  generalize hAe : va_A [(a0, zO 3 [.null, .null, .null, .null, .null, .null, .null, .int 0, .int 0, .int 0, .int 0])] s.heap.size = A at hD ⊢
  have hA : ∀ q : Nat, s.heap.size ≤ q → A q := fun q h => by rw [← hAe]; exact Or.inr h
  have hS : va_S A s.heap s.heap [] := va_S.rf
  have hP : va_P D vwCl [(a0, zO 3 [.null, .null, .null, .null, .null, .null, .null, .int 0, .int 0, .int 0, .int 0])] s.heap := hP
  have hl := lv_entry ([.ref a0, .ref g1, .ref g2, .ref g3]) (n := 4) (Nat.le_of_ble_eq_true rfl)
  show W p l e _ s m ([.ref a0, .ref g1, .ref g2, .ref g3] : List Value).toArray below meth c s.heap [] 0 0 _ (entryFrame m ([.ref a0, .ref g1, .ref g2, .ref g3] : List Value).toArray 4)
  rw [lg_entry_eq]
  generalize (lg_sl ([.ref a0, .ref g1, .ref g2, .ref g3]) ++ List.replicate (4 - (lg_sl ([.ref a0, .ref g1, .ref g2, .ref g3])).length) Slot.unset).toArray = ls at hl ⊢
  have hl : lv_has ls 4 [(0, .ref a0), (1, .ref g1), (2, .ref g2), (3, .ref g3)] := hl
  refine lv_aload_n hx hb dX3_init_0 rfl (lv_at hl 0 rfl) ?_
  refine W.objInit hx hb hown (hts (Cond.methodLink RX3 3 objectInit) (by decide +kernel)) (hts (Cond.instanceMethod objectInit) (by decide +kernel)) (hts (Cond.code objectInit ⟨#[0xb1]⟩ 1 none) (by decide +kernel)) rfl (by rw [hml]; exact hl.1) rfl dX3_init_1 (Nat.le_of_ble_eq_true rfl) (Nat.le_of_ble_eq_true rfl) ?_
  refine W.eq (g2 := F0 m 4 ls []) rfl ?_
  refine lv_aload_n hx hb dX3_init_4 rfl (lv_at hl 0 rfl) ?_
  refine lv_bipush (v := 30) hx hb dX3_init_5 rfl ?_
  refine z_newa_boolean (D := D) (cI := cI) (cZ := cZ) (cJ := cJ) (N := 30) hx hb (hts (Cond.arrayClass .boolean) (by decide +kernel)) hK hP hD hS hA (by decide) (by decide) (by decide) (Nat.le_of_ble_eq_true rfl) (Nat.le_of_ble_eq_true rfl) dX3_init_7 (fun q0 H hP hD hS => ?_)
  have hP : va_P D vwCl [(a0, zO 3 [.null, .null, .null, .null, .null, .null, .null, .int 0, .int 0, .int 0, .int 0]), (q0, zA cZ 30)] H := hP
  have hD : va_D A [(a0, zO 3 [.null, .null, .null, .null, .null, .null, .null, .int 0, .int 0, .int 0, .int 0]), (q0, zA cZ 30)] := hD
  refine W.widen (k := 1) (n := 30) (by omega) (by omega) ?_
  refine va_putF (D := D) (ci := 3) (v := .ref q0) (ty := tyX3 3) (C := RX3) (T := TX3) (N := 11) hx hb hts inlX3 tyX3 tyX3_ok nmX3 hown hK hP hD hS 0 rfl rfl 3 (by decide) (hts (Cond.fieldLink RX3 9 "PlaneColours$Parting" "isOnCycle" "[Z") (by decide +kernel)) (fun _ h9 => h9) rfl hin rfl (by decide +kernel) rfl rfl (Nat.le_of_ble_eq_true rfl) dX3_init_9 (fun H locs hP hD hS => ?_)
  have hP : va_P D vwCl [(a0, zO 3 [.null, .null, .null, .ref q0, .null, .null, .null, .int 0, .int 0, .int 0, .int 0]), (q0, zA cZ 30)] H := hP
  have hD : va_D A [(a0, zO 3 [.null, .null, .null, .ref q0, .null, .null, .null, .int 0, .int 0, .int 0, .int 0]), (q0, zA cZ 30)] := hD
  refine lv_aload_n hx hb dX3_init_12 rfl (lv_at hl 0 rfl) ?_
  refine lv_bipush (v := 100) hx hb dX3_init_13 rfl ?_
  refine z_newa_boolean (D := D) (cI := cI) (cZ := cZ) (cJ := cJ) (N := 100) hx hb (hts (Cond.arrayClass .boolean) (by decide +kernel)) hK hP hD hS hA (by decide) (by decide) (by decide) (Nat.le_of_ble_eq_true rfl) (Nat.le_of_ble_eq_true rfl) dX3_init_15 (fun q1 H hP hD hS => ?_)
  have hP : va_P D vwCl [(a0, zO 3 [.null, .null, .null, .ref q0, .null, .null, .null, .int 0, .int 0, .int 0, .int 0]), (q0, zA cZ 30), (q1, zA cZ 100)] H := hP
  have hD : va_D A [(a0, zO 3 [.null, .null, .null, .ref q0, .null, .null, .null, .int 0, .int 0, .int 0, .int 0]), (q0, zA cZ 30), (q1, zA cZ 100)] := hD
  refine W.widen (k := 2) (n := 130) (by omega) (by omega) ?_
  refine va_putF (D := D) (ci := 3) (v := .ref q1) (ty := tyX3 4) (C := RX3) (T := TX3) (N := 11) hx hb hts inlX3 tyX3 tyX3_ok nmX3 hown hK hP hD hS 0 rfl rfl 4 (by decide) (hts (Cond.fieldLink RX3 15 "PlaneColours$Parting" "isCycleEdge" "[Z") (by decide +kernel)) (fun _ h9 => h9) rfl hin rfl (by decide +kernel) rfl rfl (Nat.le_of_ble_eq_true rfl) dX3_init_17 (fun H locs hP hD hS => ?_)
  have hP : va_P D vwCl [(a0, zO 3 [.null, .null, .null, .ref q0, .ref q1, .null, .null, .int 0, .int 0, .int 0, .int 0]), (q0, zA cZ 30), (q1, zA cZ 100)] H := hP
  have hD : va_D A [(a0, zO 3 [.null, .null, .null, .ref q0, .ref q1, .null, .null, .int 0, .int 0, .int 0, .int 0]), (q0, zA cZ 30), (q1, zA cZ 100)] := hD
  refine lv_aload_n hx hb dX3_init_20 rfl (lv_at hl 0 rfl) ?_
  refine lv_sipush (v := 200) hx hb dX3_init_21 rfl ?_
  refine z_newa_boolean (D := D) (cI := cI) (cZ := cZ) (cJ := cJ) (N := 200) hx hb (hts (Cond.arrayClass .boolean) (by decide +kernel)) hK hP hD hS hA (by decide) (by decide) (by decide) (Nat.le_of_ble_eq_true rfl) (Nat.le_of_ble_eq_true rfl) dX3_init_24 (fun q2 H hP hD hS => ?_)
  have hP : va_P D vwCl [(a0, zO 3 [.null, .null, .null, .ref q0, .ref q1, .null, .null, .int 0, .int 0, .int 0, .int 0]), (q0, zA cZ 30), (q1, zA cZ 100), (q2, zA cZ 200)] H := hP
  have hD : va_D A [(a0, zO 3 [.null, .null, .null, .ref q0, .ref q1, .null, .null, .int 0, .int 0, .int 0, .int 0]), (q0, zA cZ 30), (q1, zA cZ 100), (q2, zA cZ 200)] := hD
  refine W.widen (k := 3) (n := 330) (by omega) (by omega) ?_
  refine va_putF (D := D) (ci := 3) (v := .ref q2) (ty := tyX3 5) (C := RX3) (T := TX3) (N := 11) hx hb hts inlX3 tyX3 tyX3_ok nmX3 hown hK hP hD hS 0 rfl rfl 5 (by decide) (hts (Cond.fieldLink RX3 18 "PlaneColours$Parting" "isFaceInside" "[Z") (by decide +kernel)) (fun _ h9 => h9) rfl hin rfl (by decide +kernel) rfl rfl (Nat.le_of_ble_eq_true rfl) dX3_init_26 (fun H locs hP hD hS => ?_)
  have hP : va_P D vwCl [(a0, zO 3 [.null, .null, .null, .ref q0, .ref q1, .ref q2, .null, .int 0, .int 0, .int 0, .int 0]), (q0, zA cZ 30), (q1, zA cZ 100), (q2, zA cZ 200)] H := hP
  have hD : va_D A [(a0, zO 3 [.null, .null, .null, .ref q0, .ref q1, .ref q2, .null, .int 0, .int 0, .int 0, .int 0]), (q0, zA cZ 30), (q1, zA cZ 100), (q2, zA cZ 200)] := hD
  refine lv_aload_n hx hb dX3_init_29 rfl (lv_at hl 0 rfl) ?_
  refine lv_sipush (v := 200) hx hb dX3_init_30 rfl ?_
  refine z_newa_int (D := D) (cI := cI) (cZ := cZ) (cJ := cJ) (N := 200) hx hb (hts (Cond.arrayClass .int) (by decide +kernel)) hK hP hD hS hA (by decide) (by decide) (by decide) (Nat.le_of_ble_eq_true rfl) (Nat.le_of_ble_eq_true rfl) dX3_init_33 (fun q3 H hP hD hS => ?_)
  have hP : va_P D vwCl [(a0, zO 3 [.null, .null, .null, .ref q0, .ref q1, .ref q2, .null, .int 0, .int 0, .int 0, .int 0]), (q0, zA cZ 30), (q1, zA cZ 100), (q2, zA cZ 200), (q3, zA cI 200)] H := hP
  have hD : va_D A [(a0, zO 3 [.null, .null, .null, .ref q0, .ref q1, .ref q2, .null, .int 0, .int 0, .int 0, .int 0]), (q0, zA cZ 30), (q1, zA cZ 100), (q2, zA cZ 200), (q3, zA cI 200)] := hD
  refine W.widen (k := 4) (n := 530) (by omega) (by omega) ?_
  refine va_putF (D := D) (ci := 3) (v := .ref q3) (ty := tyX3 6) (C := RX3) (T := TX3) (N := 11) hx hb hts inlX3 tyX3 tyX3_ok nmX3 hown hK hP hD hS 0 rfl rfl 6 (by decide) (hts (Cond.fieldLink RX3 21 "PlaneColours$Parting" "queue" "[I") (by decide +kernel)) (fun _ h9 => h9) rfl hin rfl (by decide +kernel) rfl rfl (Nat.le_of_ble_eq_true rfl) dX3_init_35 (fun H locs hP hD hS => ?_)
  have hP : va_P D vwCl [(a0, zO 3 [.null, .null, .null, .ref q0, .ref q1, .ref q2, .ref q3, .int 0, .int 0, .int 0, .int 0]), (q0, zA cZ 30), (q1, zA cZ 100), (q2, zA cZ 200), (q3, zA cI 200)] H := hP
  have hD : va_D A [(a0, zO 3 [.null, .null, .null, .ref q0, .ref q1, .ref q2, .ref q3, .int 0, .int 0, .int 0, .int 0]), (q0, zA cZ 30), (q1, zA cZ 100), (q2, zA cZ 200), (q3, zA cI 200)] := hD
  refine lv_aload_n hx hb dX3_init_38 rfl (lv_at hl 0 rfl) ?_
  refine lv_iconst (v := 0) hx hb dX3_init_39 rfl ?_
  refine va_put (D := D) (ci := 3) (v := .int 0) (ty := tyX3 7) (C := RX3) (T := TX3) (N := 11) hx hb hts inlX3 tyX3 tyX3_ok nmX3 hown hK hP hD hS 0 rfl rfl 7 (by decide) (hts (Cond.fieldLink RX3 25 "PlaneColours$Parting" "queued" "I") (by decide +kernel)) (fun _ h9 => h9) rfl (by decide +kernel) rfl rfl (Nat.le_of_ble_eq_true rfl) dX3_init_40 (fun H locs hP hD hS => ?_)
  have hP : va_P D vwCl [(a0, zO 3 [.null, .null, .null, .ref q0, .ref q1, .ref q2, .ref q3, .int 0, .int 0, .int 0, .int 0]), (q0, zA cZ 30), (q1, zA cZ 100), (q2, zA cZ 200), (q3, zA cI 200)] H := hP
  have hD : va_D A [(a0, zO 3 [.null, .null, .null, .ref q0, .ref q1, .ref q2, .ref q3, .int 0, .int 0, .int 0, .int 0]), (q0, zA cZ 30), (q1, zA cZ 100), (q2, zA cZ 200), (q3, zA cI 200)] := hD
  refine lv_aload_n hx hb dX3_init_43 rfl (lv_at hl 0 rfl) ?_
  refine lv_iconst (v := 0) hx hb dX3_init_44 rfl ?_
  refine va_put (D := D) (ci := 3) (v := .int 0) (ty := tyX3 8) (C := RX3) (T := TX3) (N := 11) hx hb hts inlX3 tyX3 tyX3_ok nmX3 hown hK hP hD hS 0 rfl rfl 8 (by decide) (hts (Cond.fieldLink RX3 29 "PlaneColours$Parting" "cycleLength" "I") (by decide +kernel)) (fun _ h9 => h9) rfl (by decide +kernel) rfl rfl (Nat.le_of_ble_eq_true rfl) dX3_init_45 (fun H locs hP hD hS => ?_)
  have hP : va_P D vwCl [(a0, zO 3 [.null, .null, .null, .ref q0, .ref q1, .ref q2, .ref q3, .int 0, .int 0, .int 0, .int 0]), (q0, zA cZ 30), (q1, zA cZ 100), (q2, zA cZ 200), (q3, zA cI 200)] H := hP
  have hD : va_D A [(a0, zO 3 [.null, .null, .null, .ref q0, .ref q1, .ref q2, .ref q3, .int 0, .int 0, .int 0, .int 0]), (q0, zA cZ 30), (q1, zA cZ 100), (q2, zA cZ 200), (q3, zA cI 200)] := hD
  refine lv_aload_n hx hb dX3_init_48 rfl (lv_at hl 0 rfl) ?_
  refine lv_iconst (v := 0) hx hb dX3_init_49 rfl ?_
  refine va_put (D := D) (ci := 3) (v := .int 0) (ty := tyX3 9) (C := RX3) (T := TX3) (N := 11) hx hb hts inlX3 tyX3 tyX3_ok nmX3 hown hK hP hD hS 0 rfl rfl 9 (by decide) (hts (Cond.fieldLink RX3 32 "PlaneColours$Parting" "inside" "I") (by decide +kernel)) (fun _ h9 => h9) rfl (by decide +kernel) rfl rfl (Nat.le_of_ble_eq_true rfl) dX3_init_50 (fun H locs hP hD hS => ?_)
  have hP : va_P D vwCl [(a0, zO 3 [.null, .null, .null, .ref q0, .ref q1, .ref q2, .ref q3, .int 0, .int 0, .int 0, .int 0]), (q0, zA cZ 30), (q1, zA cZ 100), (q2, zA cZ 200), (q3, zA cI 200)] H := hP
  have hD : va_D A [(a0, zO 3 [.null, .null, .null, .ref q0, .ref q1, .ref q2, .ref q3, .int 0, .int 0, .int 0, .int 0]), (q0, zA cZ 30), (q1, zA cZ 100), (q2, zA cZ 200), (q3, zA cI 200)] := hD
  refine lv_aload_n hx hb dX3_init_53 rfl (lv_at hl 0 rfl) ?_
  refine lv_iconst (v := 0) hx hb dX3_init_54 rfl ?_
  refine va_put (D := D) (ci := 3) (v := .int 0) (ty := tyX3 10) (C := RX3) (T := TX3) (N := 11) hx hb hts inlX3 tyX3 tyX3_ok nmX3 hown hK hP hD hS 0 rfl rfl 10 (by decide) (hts (Cond.fieldLink RX3 35 "PlaneColours$Parting" "outside" "I") (by decide +kernel)) (fun _ h9 => h9) rfl (by decide +kernel) rfl rfl (Nat.le_of_ble_eq_true rfl) dX3_init_55 (fun H locs hP hD hS => ?_)
  have hP : va_P D vwCl [(a0, zO 3 [.null, .null, .null, .ref q0, .ref q1, .ref q2, .ref q3, .int 0, .int 0, .int 0, .int 0]), (q0, zA cZ 30), (q1, zA cZ 100), (q2, zA cZ 200), (q3, zA cI 200)] H := hP
  have hD : va_D A [(a0, zO 3 [.null, .null, .null, .ref q0, .ref q1, .ref q2, .ref q3, .int 0, .int 0, .int 0, .int 0]), (q0, zA cZ 30), (q1, zA cZ 100), (q2, zA cZ 200), (q3, zA cI 200)] := hD
  refine lv_aload_n hx hb dX3_init_58 rfl (lv_at hl 0 rfl) ?_
  refine lv_aload_n hx hb dX3_init_59 rfl (lv_at hl 1 rfl) ?_
  refine va_putF (D := D) (ci := 3) (v := .ref g1) (ty := tyX3 0) (C := RX3) (T := TX3) (N := 11) hx hb hts inlX3 tyX3 tyX3_ok nmX3 hown hK hP hD hS 0 rfl rfl 0 (by decide) (hts (Cond.fieldLink RX3 38 "PlaneColours$Parting" "graph" "LPlaneColours$Graph;") (by decide +kernel)) (fun _ h9 => h9) rfl hin rfl (by decide +kernel) rfl rfl (Nat.le_of_ble_eq_true rfl) dX3_init_60 (fun H locs hP hD hS => ?_)
  have hP : va_P D vwCl [(a0, zO 3 [.ref g1, .null, .null, .ref q0, .ref q1, .ref q2, .ref q3, .int 0, .int 0, .int 0, .int 0]), (q0, zA cZ 30), (q1, zA cZ 100), (q2, zA cZ 200), (q3, zA cI 200)] H := hP
  have hD : va_D A [(a0, zO 3 [.ref g1, .null, .null, .ref q0, .ref q1, .ref q2, .ref q3, .int 0, .int 0, .int 0, .int 0]), (q0, zA cZ 30), (q1, zA cZ 100), (q2, zA cZ 200), (q3, zA cI 200)] := hD
  refine lv_aload_n hx hb dX3_init_63 rfl (lv_at hl 0 rfl) ?_
  refine lv_aload_n hx hb dX3_init_64 rfl (lv_at hl 2 rfl) ?_
  refine va_putF (D := D) (ci := 3) (v := .ref g2) (ty := tyX3 1) (C := RX3) (T := TX3) (N := 11) hx hb hts inlX3 tyX3 tyX3_ok nmX3 hown hK hP hD hS 0 rfl rfl 1 (by decide) (hts (Cond.fieldLink RX3 42 "PlaneColours$Parting" "faceRows" "LPlaneColours$FaceRows;") (by decide +kernel)) (fun _ h9 => h9) rfl hin rfl (by decide +kernel) rfl rfl (Nat.le_of_ble_eq_true rfl) dX3_init_65 (fun H locs hP hD hS => ?_)
  have hP : va_P D vwCl [(a0, zO 3 [.ref g1, .ref g2, .null, .ref q0, .ref q1, .ref q2, .ref q3, .int 0, .int 0, .int 0, .int 0]), (q0, zA cZ 30), (q1, zA cZ 100), (q2, zA cZ 200), (q3, zA cI 200)] H := hP
  have hD : va_D A [(a0, zO 3 [.ref g1, .ref g2, .null, .ref q0, .ref q1, .ref q2, .ref q3, .int 0, .int 0, .int 0, .int 0]), (q0, zA cZ 30), (q1, zA cZ 100), (q2, zA cZ 200), (q3, zA cI 200)] := hD
  refine lv_aload_n hx hb dX3_init_68 rfl (lv_at hl 0 rfl) ?_
  refine lv_aload_n hx hb dX3_init_69 rfl (lv_at hl 3 rfl) ?_
  refine va_putF (D := D) (ci := 3) (v := .ref g3) (ty := tyX3 2) (C := RX3) (T := TX3) (N := 11) hx hb hts inlX3 tyX3 tyX3_ok nmX3 hown hK hP hD hS 0 rfl rfl 2 (by decide) (hts (Cond.fieldLink RX3 46 "PlaneColours$Parting" "tree" "LPlaneColours$Tree;") (by decide +kernel)) (fun _ h9 => h9) rfl hin rfl (by decide +kernel) rfl rfl (Nat.le_of_ble_eq_true rfl) dX3_init_70 (fun H locs hP hD hS => ?_)
  have hP : va_P D vwCl [(a0, zO 3 [.ref g1, .ref g2, .ref g3, .ref q0, .ref q1, .ref q2, .ref q3, .int 0, .int 0, .int 0, .int 0]), (q0, zA cZ 30), (q1, zA cZ 100), (q2, zA cZ 200), (q3, zA cI 200)] H := hP
  have hD : va_D A [(a0, zO 3 [.ref g1, .ref g2, .ref g3, .ref q0, .ref q1, .ref q2, .ref q3, .int 0, .int 0, .int 0, .int 0]), (q0, zA cZ 30), (q1, zA cZ 100), (q2, zA cZ 200), (q3, zA cI 200)] := hD
  exact W.vret hx hb hr (fun t ht hW => ⟨⟨(fun k => ([q0, q1, q2, q3] : List Nat).getD k 0), rfl, trivial, by rw [ht]; exact hP, va_K.moved hW.alike hK, hD⟩, hS.F ht⟩) hS.2.2 dX3_init_73 hlocks
theorem zok_X6 : ZOk yX6_init cX6_init 1 0 := ⟨⟨by decide +kernel, by decide +kernel, by decide +kernel⟩, rfl, by decide +kernel, by decide +kernel, by decide +kernel⟩
set_option maxHeartbeats 8000000 in
set_option maxRecDepth 100000 in
theorem cc_X6 (l : Launch) : CtC l yX6_init cX6_init 1 1 12 16 1970 6 [.int 0, .int 0, .int 0, .int 0, .null, .null, .null, .null, .null, .null, .int 0, .null, .int 0, .null, .null, .null, .int 0, .null, .null, .null, .int 0, .null, .null, .null] [] [] (fun cI cZ a0 u => [(a0, zO 6 [.int 0, .int 0, .int 0, .int 0, .ref (u 0), .ref (u 1), .ref (u 2), .ref (u 3), .ref (u 4), .ref (u 5), .int 0, .ref (u 6), .int 0, .ref (u 7), .ref (u 8), .ref (u 9), .int 0, .ref (u 10), .ref (u 11), .ref (u 12), .int 0, .ref (u 13), .ref (u 14), .ref (u 15)]), ((u 0), zA cI 100), ((u 1), zA cI 100), ((u 2), zA cZ 100), ((u 3), zA cI 900), ((u 4), zA cI 30), ((u 5), zA cI 30), ((u 6), zA cI 200), ((u 7), zA cI 30), ((u 8), zA cI 30), ((u 9), zA cI 30), ((u 10), zA cI 30), ((u 11), zA cZ 30), ((u 12), zA cZ 30), ((u 13), zA cZ 30), ((u 14), zA cZ 100), ((u 15), zA cZ 200)]) := by
  intro D cI cZ cJ a0 sz
  refine Met.ofW (cc := cX6_init) (maxL := 1) (ret := none) (by decide) rfl ?_
  intro p e s m args below meth c s₁ B hml hv
  obtain ⟨rfl, hsz, hP, hK, hD0, hN⟩ := hv
  have hx := B.exec
  have hb := B.bytes
  have hr := B.returns
  have htsC := atoms_spec (ws := Cond.code yX6_init cX6_init 1 none :: wsL_law) B.pre
  have hts : ∀ w ∈ wsL_law, w.before _ s = true := fun w hw => htsC w (List.mem_cons_of_mem _ hw)
  have hown : s.vm.findClass RX6 = some m.cls := findClass_of_methodNamed B.named
  have hlocks := B.notSynchronized
  have hin : meth.name = "<init>" := (name_of_methodNamed B.named B.method).1
  subst hsz
  have hD := hD0.self (sz := s.heap.size)
  generalize hAe : va_A [(a0, zO 6 [.int 0, .int 0, .int 0, .int 0, .null, .null, .null, .null, .null, .null, .int 0, .null, .int 0, .null, .null, .null, .int 0, .null, .null, .null, .int 0, .null, .null, .null])] s.heap.size = A at hD ⊢
  have hA : ∀ q : Nat, s.heap.size ≤ q → A q := fun q h => by rw [← hAe]; exact Or.inr h
  have hS : va_S A s.heap s.heap [] := va_S.rf
  have hP : va_P D vwCl [(a0, zO 6 [.int 0, .int 0, .int 0, .int 0, .null, .null, .null, .null, .null, .null, .int 0, .null, .int 0, .null, .null, .null, .int 0, .null, .null, .null, .int 0, .null, .null, .null])] s.heap := hP
  have hl := lv_entry ([.ref a0]) (n := 1) (Nat.le_of_ble_eq_true rfl)
  show W p l e _ s m ([.ref a0] : List Value).toArray below meth c s.heap [] 0 0 _ (entryFrame m ([.ref a0] : List Value).toArray 1)
  rw [lg_entry_eq]
  generalize (lg_sl ([.ref a0]) ++ List.replicate (1 - (lg_sl ([.ref a0])).length) Slot.unset).toArray = ls at hl ⊢
  have hl : lv_has ls 1 [(0, .ref a0)] := hl
  refine lv_aload_n hx hb dX6_init_0 rfl (lv_at hl 0 rfl) ?_
  refine W.objInit hx hb hown (hts (Cond.methodLink RX6 1 objectInit) (by decide +kernel)) (hts (Cond.instanceMethod objectInit) (by decide +kernel)) (hts (Cond.code objectInit ⟨#[0xb1]⟩ 1 none) (by decide +kernel)) rfl (by rw [hml]; exact hl.1) rfl dX6_init_1 (Nat.le_of_ble_eq_true rfl) (Nat.le_of_ble_eq_true rfl) ?_
  refine W.eq (g2 := F0 m 4 ls []) rfl ?_
  refine lv_aload_n hx hb dX6_init_4 rfl (lv_at hl 0 rfl) ?_
  refine lv_bipush (v := 100) hx hb dX6_init_5 rfl ?_
  refine z_newa_int (D := D) (cI := cI) (cZ := cZ) (cJ := cJ) (N := 100) hx hb (hts (Cond.arrayClass .int) (by decide +kernel)) hK hP hD hS hA (by decide) (by decide) (by decide) (Nat.le_of_ble_eq_true rfl) (Nat.le_of_ble_eq_true rfl) dX6_init_7 (fun q0 H hP hD hS => ?_)
  have hP : va_P D vwCl [(a0, zO 6 [.int 0, .int 0, .int 0, .int 0, .null, .null, .null, .null, .null, .null, .int 0, .null, .int 0, .null, .null, .null, .int 0, .null, .null, .null, .int 0, .null, .null, .null]), (q0, zA cI 100)] H := hP
  have hD : va_D A [(a0, zO 6 [.int 0, .int 0, .int 0, .int 0, .null, .null, .null, .null, .null, .null, .int 0, .null, .int 0, .null, .null, .null, .int 0, .null, .null, .null, .int 0, .null, .null, .null]), (q0, zA cI 100)] := hD
  refine W.widen (k := 1) (n := 100) (by omega) (by omega) ?_
  refine va_putF (D := D) (ci := 6) (v := .ref q0) (ty := tyX6 4) (C := RX6) (T := TX6) (N := 24) hx hb hts inlX6 tyX6 tyX6_ok nmX6 hown hK hP hD hS 0 rfl rfl 4 (by decide) (hts (Cond.fieldLink RX6 7 "PlaneColoursModel" "firsts" "[I") (by decide +kernel)) (fun _ h9 => h9) rfl hin rfl (by decide +kernel) rfl rfl (Nat.le_of_ble_eq_true rfl) dX6_init_9 (fun H locs hP hD hS => ?_)
  have hP : va_P D vwCl [(a0, zO 6 [.int 0, .int 0, .int 0, .int 0, .ref q0, .null, .null, .null, .null, .null, .int 0, .null, .int 0, .null, .null, .null, .int 0, .null, .null, .null, .int 0, .null, .null, .null]), (q0, zA cI 100)] H := hP
  have hD : va_D A [(a0, zO 6 [.int 0, .int 0, .int 0, .int 0, .ref q0, .null, .null, .null, .null, .null, .int 0, .null, .int 0, .null, .null, .null, .int 0, .null, .null, .null, .int 0, .null, .null, .null]), (q0, zA cI 100)] := hD
  refine lv_aload_n hx hb dX6_init_12 rfl (lv_at hl 0 rfl) ?_
  refine lv_bipush (v := 100) hx hb dX6_init_13 rfl ?_
  refine z_newa_int (D := D) (cI := cI) (cZ := cZ) (cJ := cJ) (N := 100) hx hb (hts (Cond.arrayClass .int) (by decide +kernel)) hK hP hD hS hA (by decide) (by decide) (by decide) (Nat.le_of_ble_eq_true rfl) (Nat.le_of_ble_eq_true rfl) dX6_init_15 (fun q1 H hP hD hS => ?_)
  have hP : va_P D vwCl [(a0, zO 6 [.int 0, .int 0, .int 0, .int 0, .ref q0, .null, .null, .null, .null, .null, .int 0, .null, .int 0, .null, .null, .null, .int 0, .null, .null, .null, .int 0, .null, .null, .null]), (q0, zA cI 100), (q1, zA cI 100)] H := hP
  have hD : va_D A [(a0, zO 6 [.int 0, .int 0, .int 0, .int 0, .ref q0, .null, .null, .null, .null, .null, .int 0, .null, .int 0, .null, .null, .null, .int 0, .null, .null, .null, .int 0, .null, .null, .null]), (q0, zA cI 100), (q1, zA cI 100)] := hD
  refine W.widen (k := 2) (n := 200) (by omega) (by omega) ?_
  refine va_putF (D := D) (ci := 6) (v := .ref q1) (ty := tyX6 5) (C := RX6) (T := TX6) (N := 24) hx hb hts inlX6 tyX6 tyX6_ok nmX6 hown hK hP hD hS 0 rfl rfl 5 (by decide) (hts (Cond.fieldLink RX6 13 "PlaneColoursModel" "seconds" "[I") (by decide +kernel)) (fun _ h9 => h9) rfl hin rfl (by decide +kernel) rfl rfl (Nat.le_of_ble_eq_true rfl) dX6_init_17 (fun H locs hP hD hS => ?_)
  have hP : va_P D vwCl [(a0, zO 6 [.int 0, .int 0, .int 0, .int 0, .ref q0, .ref q1, .null, .null, .null, .null, .int 0, .null, .int 0, .null, .null, .null, .int 0, .null, .null, .null, .int 0, .null, .null, .null]), (q0, zA cI 100), (q1, zA cI 100)] H := hP
  have hD : va_D A [(a0, zO 6 [.int 0, .int 0, .int 0, .int 0, .ref q0, .ref q1, .null, .null, .null, .null, .int 0, .null, .int 0, .null, .null, .null, .int 0, .null, .null, .null, .int 0, .null, .null, .null]), (q0, zA cI 100), (q1, zA cI 100)] := hD
  refine lv_aload_n hx hb dX6_init_20 rfl (lv_at hl 0 rfl) ?_
  refine lv_bipush (v := 100) hx hb dX6_init_21 rfl ?_
  refine z_newa_boolean (D := D) (cI := cI) (cZ := cZ) (cJ := cJ) (N := 100) hx hb (hts (Cond.arrayClass .boolean) (by decide +kernel)) hK hP hD hS hA (by decide) (by decide) (by decide) (Nat.le_of_ble_eq_true rfl) (Nat.le_of_ble_eq_true rfl) dX6_init_23 (fun q2 H hP hD hS => ?_)
  have hP : va_P D vwCl [(a0, zO 6 [.int 0, .int 0, .int 0, .int 0, .ref q0, .ref q1, .null, .null, .null, .null, .int 0, .null, .int 0, .null, .null, .null, .int 0, .null, .null, .null, .int 0, .null, .null, .null]), (q0, zA cI 100), (q1, zA cI 100), (q2, zA cZ 100)] H := hP
  have hD : va_D A [(a0, zO 6 [.int 0, .int 0, .int 0, .int 0, .ref q0, .ref q1, .null, .null, .null, .null, .int 0, .null, .int 0, .null, .null, .null, .int 0, .null, .null, .null, .int 0, .null, .null, .null]), (q0, zA cI 100), (q1, zA cI 100), (q2, zA cZ 100)] := hD
  refine W.widen (k := 3) (n := 300) (by omega) (by omega) ?_
  refine va_putF (D := D) (ci := 6) (v := .ref q2) (ty := tyX6 6) (C := RX6) (T := TX6) (N := 24) hx hb hts inlX6 tyX6 tyX6_ok nmX6 hown hK hP hD hS 0 rfl rfl 6 (by decide) (hts (Cond.fieldLink RX6 16 "PlaneColoursModel" "gone" "[Z") (by decide +kernel)) (fun _ h9 => h9) rfl hin rfl (by decide +kernel) rfl rfl (Nat.le_of_ble_eq_true rfl) dX6_init_25 (fun H locs hP hD hS => ?_)
  have hP : va_P D vwCl [(a0, zO 6 [.int 0, .int 0, .int 0, .int 0, .ref q0, .ref q1, .ref q2, .null, .null, .null, .int 0, .null, .int 0, .null, .null, .null, .int 0, .null, .null, .null, .int 0, .null, .null, .null]), (q0, zA cI 100), (q1, zA cI 100), (q2, zA cZ 100)] H := hP
  have hD : va_D A [(a0, zO 6 [.int 0, .int 0, .int 0, .int 0, .ref q0, .ref q1, .ref q2, .null, .null, .null, .int 0, .null, .int 0, .null, .null, .null, .int 0, .null, .null, .null, .int 0, .null, .null, .null]), (q0, zA cI 100), (q1, zA cI 100), (q2, zA cZ 100)] := hD
  refine lv_aload_n hx hb dX6_init_28 rfl (lv_at hl 0 rfl) ?_
  refine lv_sipush (v := 900) hx hb dX6_init_29 rfl ?_
  refine z_newa_int (D := D) (cI := cI) (cZ := cZ) (cJ := cJ) (N := 900) hx hb (hts (Cond.arrayClass .int) (by decide +kernel)) hK hP hD hS hA (by decide) (by decide) (by decide) (Nat.le_of_ble_eq_true rfl) (Nat.le_of_ble_eq_true rfl) dX6_init_32 (fun q3 H hP hD hS => ?_)
  have hP : va_P D vwCl [(a0, zO 6 [.int 0, .int 0, .int 0, .int 0, .ref q0, .ref q1, .ref q2, .null, .null, .null, .int 0, .null, .int 0, .null, .null, .null, .int 0, .null, .null, .null, .int 0, .null, .null, .null]), (q0, zA cI 100), (q1, zA cI 100), (q2, zA cZ 100), (q3, zA cI 900)] H := hP
  have hD : va_D A [(a0, zO 6 [.int 0, .int 0, .int 0, .int 0, .ref q0, .ref q1, .ref q2, .null, .null, .null, .int 0, .null, .int 0, .null, .null, .null, .int 0, .null, .null, .null, .int 0, .null, .null, .null]), (q0, zA cI 100), (q1, zA cI 100), (q2, zA cZ 100), (q3, zA cI 900)] := hD
  refine W.widen (k := 4) (n := 1200) (by omega) (by omega) ?_
  refine va_putF (D := D) (ci := 6) (v := .ref q3) (ty := tyX6 7) (C := RX6) (T := TX6) (N := 24) hx hb hts inlX6 tyX6 tyX6_ok nmX6 hown hK hP hD hS 0 rfl rfl 7 (by decide) (hts (Cond.fieldLink RX6 20 "PlaneColoursModel" "rounds" "[I") (by decide +kernel)) (fun _ h9 => h9) rfl hin rfl (by decide +kernel) rfl rfl (Nat.le_of_ble_eq_true rfl) dX6_init_34 (fun H locs hP hD hS => ?_)
  have hP : va_P D vwCl [(a0, zO 6 [.int 0, .int 0, .int 0, .int 0, .ref q0, .ref q1, .ref q2, .ref q3, .null, .null, .int 0, .null, .int 0, .null, .null, .null, .int 0, .null, .null, .null, .int 0, .null, .null, .null]), (q0, zA cI 100), (q1, zA cI 100), (q2, zA cZ 100), (q3, zA cI 900)] H := hP
  have hD : va_D A [(a0, zO 6 [.int 0, .int 0, .int 0, .int 0, .ref q0, .ref q1, .ref q2, .ref q3, .null, .null, .int 0, .null, .int 0, .null, .null, .null, .int 0, .null, .null, .null, .int 0, .null, .null, .null]), (q0, zA cI 100), (q1, zA cI 100), (q2, zA cZ 100), (q3, zA cI 900)] := hD
  refine lv_aload_n hx hb dX6_init_37 rfl (lv_at hl 0 rfl) ?_
  refine lv_bipush (v := 30) hx hb dX6_init_38 rfl ?_
  refine z_newa_int (D := D) (cI := cI) (cZ := cZ) (cJ := cJ) (N := 30) hx hb (hts (Cond.arrayClass .int) (by decide +kernel)) hK hP hD hS hA (by decide) (by decide) (by decide) (Nat.le_of_ble_eq_true rfl) (Nat.le_of_ble_eq_true rfl) dX6_init_40 (fun q4 H hP hD hS => ?_)
  have hP : va_P D vwCl [(a0, zO 6 [.int 0, .int 0, .int 0, .int 0, .ref q0, .ref q1, .ref q2, .ref q3, .null, .null, .int 0, .null, .int 0, .null, .null, .null, .int 0, .null, .null, .null, .int 0, .null, .null, .null]), (q0, zA cI 100), (q1, zA cI 100), (q2, zA cZ 100), (q3, zA cI 900), (q4, zA cI 30)] H := hP
  have hD : va_D A [(a0, zO 6 [.int 0, .int 0, .int 0, .int 0, .ref q0, .ref q1, .ref q2, .ref q3, .null, .null, .int 0, .null, .int 0, .null, .null, .null, .int 0, .null, .null, .null, .int 0, .null, .null, .null]), (q0, zA cI 100), (q1, zA cI 100), (q2, zA cZ 100), (q3, zA cI 900), (q4, zA cI 30)] := hD
  refine W.widen (k := 5) (n := 1230) (by omega) (by omega) ?_
  refine va_putF (D := D) (ci := 6) (v := .ref q4) (ty := tyX6 8) (C := RX6) (T := TX6) (N := 24) hx hb hts inlX6 tyX6 tyX6_ok nmX6 hown hK hP hD hS 0 rfl rfl 8 (by decide) (hts (Cond.fieldLink RX6 23 "PlaneColoursModel" "degrees" "[I") (by decide +kernel)) (fun _ h9 => h9) rfl hin rfl (by decide +kernel) rfl rfl (Nat.le_of_ble_eq_true rfl) dX6_init_42 (fun H locs hP hD hS => ?_)
  have hP : va_P D vwCl [(a0, zO 6 [.int 0, .int 0, .int 0, .int 0, .ref q0, .ref q1, .ref q2, .ref q3, .ref q4, .null, .int 0, .null, .int 0, .null, .null, .null, .int 0, .null, .null, .null, .int 0, .null, .null, .null]), (q0, zA cI 100), (q1, zA cI 100), (q2, zA cZ 100), (q3, zA cI 900), (q4, zA cI 30)] H := hP
  have hD : va_D A [(a0, zO 6 [.int 0, .int 0, .int 0, .int 0, .ref q0, .ref q1, .ref q2, .ref q3, .ref q4, .null, .int 0, .null, .int 0, .null, .null, .null, .int 0, .null, .null, .null, .int 0, .null, .null, .null]), (q0, zA cI 100), (q1, zA cI 100), (q2, zA cZ 100), (q3, zA cI 900), (q4, zA cI 30)] := hD
  refine lv_aload_n hx hb dX6_init_45 rfl (lv_at hl 0 rfl) ?_
  refine lv_bipush (v := 30) hx hb dX6_init_46 rfl ?_
  refine z_newa_int (D := D) (cI := cI) (cZ := cZ) (cJ := cJ) (N := 30) hx hb (hts (Cond.arrayClass .int) (by decide +kernel)) hK hP hD hS hA (by decide) (by decide) (by decide) (Nat.le_of_ble_eq_true rfl) (Nat.le_of_ble_eq_true rfl) dX6_init_48 (fun q5 H hP hD hS => ?_)
  have hP : va_P D vwCl [(a0, zO 6 [.int 0, .int 0, .int 0, .int 0, .ref q0, .ref q1, .ref q2, .ref q3, .ref q4, .null, .int 0, .null, .int 0, .null, .null, .null, .int 0, .null, .null, .null, .int 0, .null, .null, .null]), (q0, zA cI 100), (q1, zA cI 100), (q2, zA cZ 100), (q3, zA cI 900), (q4, zA cI 30), (q5, zA cI 30)] H := hP
  have hD : va_D A [(a0, zO 6 [.int 0, .int 0, .int 0, .int 0, .ref q0, .ref q1, .ref q2, .ref q3, .ref q4, .null, .int 0, .null, .int 0, .null, .null, .null, .int 0, .null, .null, .null, .int 0, .null, .null, .null]), (q0, zA cI 100), (q1, zA cI 100), (q2, zA cZ 100), (q3, zA cI 900), (q4, zA cI 30), (q5, zA cI 30)] := hD
  refine W.widen (k := 6) (n := 1260) (by omega) (by omega) ?_
  refine va_putF (D := D) (ci := 6) (v := .ref q5) (ty := tyX6 9) (C := RX6) (T := TX6) (N := 24) hx hb hts inlX6 tyX6 tyX6_ok nmX6 hown hK hP hD hS 0 rfl rfl 9 (by decide) (hts (Cond.fieldLink RX6 26 "PlaneColoursModel" "colours" "[I") (by decide +kernel)) (fun _ h9 => h9) rfl hin rfl (by decide +kernel) rfl rfl (Nat.le_of_ble_eq_true rfl) dX6_init_50 (fun H locs hP hD hS => ?_)
  have hP : va_P D vwCl [(a0, zO 6 [.int 0, .int 0, .int 0, .int 0, .ref q0, .ref q1, .ref q2, .ref q3, .ref q4, .ref q5, .int 0, .null, .int 0, .null, .null, .null, .int 0, .null, .null, .null, .int 0, .null, .null, .null]), (q0, zA cI 100), (q1, zA cI 100), (q2, zA cZ 100), (q3, zA cI 900), (q4, zA cI 30), (q5, zA cI 30)] H := hP
  have hD : va_D A [(a0, zO 6 [.int 0, .int 0, .int 0, .int 0, .ref q0, .ref q1, .ref q2, .ref q3, .ref q4, .ref q5, .int 0, .null, .int 0, .null, .null, .null, .int 0, .null, .null, .null, .int 0, .null, .null, .null]), (q0, zA cI 100), (q1, zA cI 100), (q2, zA cZ 100), (q3, zA cI 900), (q4, zA cI 30), (q5, zA cI 30)] := hD
  refine lv_aload_n hx hb dX6_init_53 rfl (lv_at hl 0 rfl) ?_
  refine lv_sipush (v := 200) hx hb dX6_init_54 rfl ?_
  refine z_newa_int (D := D) (cI := cI) (cZ := cZ) (cJ := cJ) (N := 200) hx hb (hts (Cond.arrayClass .int) (by decide +kernel)) hK hP hD hS hA (by decide) (by decide) (by decide) (Nat.le_of_ble_eq_true rfl) (Nat.le_of_ble_eq_true rfl) dX6_init_57 (fun q6 H hP hD hS => ?_)
  have hP : va_P D vwCl [(a0, zO 6 [.int 0, .int 0, .int 0, .int 0, .ref q0, .ref q1, .ref q2, .ref q3, .ref q4, .ref q5, .int 0, .null, .int 0, .null, .null, .null, .int 0, .null, .null, .null, .int 0, .null, .null, .null]), (q0, zA cI 100), (q1, zA cI 100), (q2, zA cZ 100), (q3, zA cI 900), (q4, zA cI 30), (q5, zA cI 30), (q6, zA cI 200)] H := hP
  have hD : va_D A [(a0, zO 6 [.int 0, .int 0, .int 0, .int 0, .ref q0, .ref q1, .ref q2, .ref q3, .ref q4, .ref q5, .int 0, .null, .int 0, .null, .null, .null, .int 0, .null, .null, .null, .int 0, .null, .null, .null]), (q0, zA cI 100), (q1, zA cI 100), (q2, zA cZ 100), (q3, zA cI 900), (q4, zA cI 30), (q5, zA cI 30), (q6, zA cI 200)] := hD
  refine W.widen (k := 7) (n := 1460) (by omega) (by omega) ?_
  refine va_putF (D := D) (ci := 6) (v := .ref q6) (ty := tyX6 11) (C := RX6) (T := TX6) (N := 24) hx hb hts inlX6 tyX6 tyX6_ok nmX6 hown hK hP hD hS 0 rfl rfl 11 (by decide) (hts (Cond.fieldLink RX6 29 "PlaneColoursModel" "faceOf" "[I") (by decide +kernel)) (fun _ h9 => h9) rfl hin rfl (by decide +kernel) rfl rfl (Nat.le_of_ble_eq_true rfl) dX6_init_59 (fun H locs hP hD hS => ?_)
  have hP : va_P D vwCl [(a0, zO 6 [.int 0, .int 0, .int 0, .int 0, .ref q0, .ref q1, .ref q2, .ref q3, .ref q4, .ref q5, .int 0, .ref q6, .int 0, .null, .null, .null, .int 0, .null, .null, .null, .int 0, .null, .null, .null]), (q0, zA cI 100), (q1, zA cI 100), (q2, zA cZ 100), (q3, zA cI 900), (q4, zA cI 30), (q5, zA cI 30), (q6, zA cI 200)] H := hP
  have hD : va_D A [(a0, zO 6 [.int 0, .int 0, .int 0, .int 0, .ref q0, .ref q1, .ref q2, .ref q3, .ref q4, .ref q5, .int 0, .ref q6, .int 0, .null, .null, .null, .int 0, .null, .null, .null, .int 0, .null, .null, .null]), (q0, zA cI 100), (q1, zA cI 100), (q2, zA cZ 100), (q3, zA cI 900), (q4, zA cI 30), (q5, zA cI 30), (q6, zA cI 200)] := hD
  refine lv_aload_n hx hb dX6_init_62 rfl (lv_at hl 0 rfl) ?_
  refine lv_bipush (v := 30) hx hb dX6_init_63 rfl ?_
  refine z_newa_int (D := D) (cI := cI) (cZ := cZ) (cJ := cJ) (N := 30) hx hb (hts (Cond.arrayClass .int) (by decide +kernel)) hK hP hD hS hA (by decide) (by decide) (by decide) (Nat.le_of_ble_eq_true rfl) (Nat.le_of_ble_eq_true rfl) dX6_init_65 (fun q7 H hP hD hS => ?_)
  have hP : va_P D vwCl [(a0, zO 6 [.int 0, .int 0, .int 0, .int 0, .ref q0, .ref q1, .ref q2, .ref q3, .ref q4, .ref q5, .int 0, .ref q6, .int 0, .null, .null, .null, .int 0, .null, .null, .null, .int 0, .null, .null, .null]), (q0, zA cI 100), (q1, zA cI 100), (q2, zA cZ 100), (q3, zA cI 900), (q4, zA cI 30), (q5, zA cI 30), (q6, zA cI 200), (q7, zA cI 30)] H := hP
  have hD : va_D A [(a0, zO 6 [.int 0, .int 0, .int 0, .int 0, .ref q0, .ref q1, .ref q2, .ref q3, .ref q4, .ref q5, .int 0, .ref q6, .int 0, .null, .null, .null, .int 0, .null, .null, .null, .int 0, .null, .null, .null]), (q0, zA cI 100), (q1, zA cI 100), (q2, zA cZ 100), (q3, zA cI 900), (q4, zA cI 30), (q5, zA cI 30), (q6, zA cI 200), (q7, zA cI 30)] := hD
  refine W.widen (k := 8) (n := 1490) (by omega) (by omega) ?_
  refine va_putF (D := D) (ci := 6) (v := .ref q7) (ty := tyX6 13) (C := RX6) (T := TX6) (N := 24) hx hb hts inlX6 tyX6 tyX6_ok nmX6 hown hK hP hD hS 0 rfl rfl 13 (by decide) (hts (Cond.fieldLink RX6 32 "PlaneColoursModel" "ups" "[I") (by decide +kernel)) (fun _ h9 => h9) rfl hin rfl (by decide +kernel) rfl rfl (Nat.le_of_ble_eq_true rfl) dX6_init_67 (fun H locs hP hD hS => ?_)
  have hP : va_P D vwCl [(a0, zO 6 [.int 0, .int 0, .int 0, .int 0, .ref q0, .ref q1, .ref q2, .ref q3, .ref q4, .ref q5, .int 0, .ref q6, .int 0, .ref q7, .null, .null, .int 0, .null, .null, .null, .int 0, .null, .null, .null]), (q0, zA cI 100), (q1, zA cI 100), (q2, zA cZ 100), (q3, zA cI 900), (q4, zA cI 30), (q5, zA cI 30), (q6, zA cI 200), (q7, zA cI 30)] H := hP
  have hD : va_D A [(a0, zO 6 [.int 0, .int 0, .int 0, .int 0, .ref q0, .ref q1, .ref q2, .ref q3, .ref q4, .ref q5, .int 0, .ref q6, .int 0, .ref q7, .null, .null, .int 0, .null, .null, .null, .int 0, .null, .null, .null]), (q0, zA cI 100), (q1, zA cI 100), (q2, zA cZ 100), (q3, zA cI 900), (q4, zA cI 30), (q5, zA cI 30), (q6, zA cI 200), (q7, zA cI 30)] := hD
  refine lv_aload_n hx hb dX6_init_70 rfl (lv_at hl 0 rfl) ?_
  refine lv_bipush (v := 30) hx hb dX6_init_71 rfl ?_
  refine z_newa_int (D := D) (cI := cI) (cZ := cZ) (cJ := cJ) (N := 30) hx hb (hts (Cond.arrayClass .int) (by decide +kernel)) hK hP hD hS hA (by decide) (by decide) (by decide) (Nat.le_of_ble_eq_true rfl) (Nat.le_of_ble_eq_true rfl) dX6_init_73 (fun q8 H hP hD hS => ?_)
  have hP : va_P D vwCl [(a0, zO 6 [.int 0, .int 0, .int 0, .int 0, .ref q0, .ref q1, .ref q2, .ref q3, .ref q4, .ref q5, .int 0, .ref q6, .int 0, .ref q7, .null, .null, .int 0, .null, .null, .null, .int 0, .null, .null, .null]), (q0, zA cI 100), (q1, zA cI 100), (q2, zA cZ 100), (q3, zA cI 900), (q4, zA cI 30), (q5, zA cI 30), (q6, zA cI 200), (q7, zA cI 30), (q8, zA cI 30)] H := hP
  have hD : va_D A [(a0, zO 6 [.int 0, .int 0, .int 0, .int 0, .ref q0, .ref q1, .ref q2, .ref q3, .ref q4, .ref q5, .int 0, .ref q6, .int 0, .ref q7, .null, .null, .int 0, .null, .null, .null, .int 0, .null, .null, .null]), (q0, zA cI 100), (q1, zA cI 100), (q2, zA cZ 100), (q3, zA cI 900), (q4, zA cI 30), (q5, zA cI 30), (q6, zA cI 200), (q7, zA cI 30), (q8, zA cI 30)] := hD
  refine W.widen (k := 9) (n := 1520) (by omega) (by omega) ?_
  refine va_putF (D := D) (ci := 6) (v := .ref q8) (ty := tyX6 14) (C := RX6) (T := TX6) (N := 24) hx hb hts inlX6 tyX6 tyX6_ok nmX6 hown hK hP hD hS 0 rfl rfl 14 (by decide) (hts (Cond.fieldLink RX6 35 "PlaneColoursModel" "partOf" "[I") (by decide +kernel)) (fun _ h9 => h9) rfl hin rfl (by decide +kernel) rfl rfl (Nat.le_of_ble_eq_true rfl) dX6_init_75 (fun H locs hP hD hS => ?_)
  have hP : va_P D vwCl [(a0, zO 6 [.int 0, .int 0, .int 0, .int 0, .ref q0, .ref q1, .ref q2, .ref q3, .ref q4, .ref q5, .int 0, .ref q6, .int 0, .ref q7, .ref q8, .null, .int 0, .null, .null, .null, .int 0, .null, .null, .null]), (q0, zA cI 100), (q1, zA cI 100), (q2, zA cZ 100), (q3, zA cI 900), (q4, zA cI 30), (q5, zA cI 30), (q6, zA cI 200), (q7, zA cI 30), (q8, zA cI 30)] H := hP
  have hD : va_D A [(a0, zO 6 [.int 0, .int 0, .int 0, .int 0, .ref q0, .ref q1, .ref q2, .ref q3, .ref q4, .ref q5, .int 0, .ref q6, .int 0, .ref q7, .ref q8, .null, .int 0, .null, .null, .null, .int 0, .null, .null, .null]), (q0, zA cI 100), (q1, zA cI 100), (q2, zA cZ 100), (q3, zA cI 900), (q4, zA cI 30), (q5, zA cI 30), (q6, zA cI 200), (q7, zA cI 30), (q8, zA cI 30)] := hD
  refine lv_aload_n hx hb dX6_init_78 rfl (lv_at hl 0 rfl) ?_
  refine lv_bipush (v := 30) hx hb dX6_init_79 rfl ?_
  refine z_newa_int (D := D) (cI := cI) (cZ := cZ) (cJ := cJ) (N := 30) hx hb (hts (Cond.arrayClass .int) (by decide +kernel)) hK hP hD hS hA (by decide) (by decide) (by decide) (Nat.le_of_ble_eq_true rfl) (Nat.le_of_ble_eq_true rfl) dX6_init_81 (fun q9 H hP hD hS => ?_)
  have hP : va_P D vwCl [(a0, zO 6 [.int 0, .int 0, .int 0, .int 0, .ref q0, .ref q1, .ref q2, .ref q3, .ref q4, .ref q5, .int 0, .ref q6, .int 0, .ref q7, .ref q8, .null, .int 0, .null, .null, .null, .int 0, .null, .null, .null]), (q0, zA cI 100), (q1, zA cI 100), (q2, zA cZ 100), (q3, zA cI 900), (q4, zA cI 30), (q5, zA cI 30), (q6, zA cI 200), (q7, zA cI 30), (q8, zA cI 30), (q9, zA cI 30)] H := hP
  have hD : va_D A [(a0, zO 6 [.int 0, .int 0, .int 0, .int 0, .ref q0, .ref q1, .ref q2, .ref q3, .ref q4, .ref q5, .int 0, .ref q6, .int 0, .ref q7, .ref q8, .null, .int 0, .null, .null, .null, .int 0, .null, .null, .null]), (q0, zA cI 100), (q1, zA cI 100), (q2, zA cZ 100), (q3, zA cI 900), (q4, zA cI 30), (q5, zA cI 30), (q6, zA cI 200), (q7, zA cI 30), (q8, zA cI 30), (q9, zA cI 30)] := hD
  refine W.widen (k := 10) (n := 1550) (by omega) (by omega) ?_
  refine va_putF (D := D) (ci := 6) (v := .ref q9) (ty := tyX6 15) (C := RX6) (T := TX6) (N := 24) hx hb hts inlX6 tyX6 tyX6_ok nmX6 hown hK hP hD hS 0 rfl rfl 15 (by decide) (hts (Cond.fieldLink RX6 38 "PlaneColoursModel" "queue" "[I") (by decide +kernel)) (fun _ h9 => h9) rfl hin rfl (by decide +kernel) rfl rfl (Nat.le_of_ble_eq_true rfl) dX6_init_83 (fun H locs hP hD hS => ?_)
  have hP : va_P D vwCl [(a0, zO 6 [.int 0, .int 0, .int 0, .int 0, .ref q0, .ref q1, .ref q2, .ref q3, .ref q4, .ref q5, .int 0, .ref q6, .int 0, .ref q7, .ref q8, .ref q9, .int 0, .null, .null, .null, .int 0, .null, .null, .null]), (q0, zA cI 100), (q1, zA cI 100), (q2, zA cZ 100), (q3, zA cI 900), (q4, zA cI 30), (q5, zA cI 30), (q6, zA cI 200), (q7, zA cI 30), (q8, zA cI 30), (q9, zA cI 30)] H := hP
  have hD : va_D A [(a0, zO 6 [.int 0, .int 0, .int 0, .int 0, .ref q0, .ref q1, .ref q2, .ref q3, .ref q4, .ref q5, .int 0, .ref q6, .int 0, .ref q7, .ref q8, .ref q9, .int 0, .null, .null, .null, .int 0, .null, .null, .null]), (q0, zA cI 100), (q1, zA cI 100), (q2, zA cZ 100), (q3, zA cI 900), (q4, zA cI 30), (q5, zA cI 30), (q6, zA cI 200), (q7, zA cI 30), (q8, zA cI 30), (q9, zA cI 30)] := hD
  refine lv_aload_n hx hb dX6_init_86 rfl (lv_at hl 0 rfl) ?_
  refine lv_bipush (v := 30) hx hb dX6_init_87 rfl ?_
  refine z_newa_int (D := D) (cI := cI) (cZ := cZ) (cJ := cJ) (N := 30) hx hb (hts (Cond.arrayClass .int) (by decide +kernel)) hK hP hD hS hA (by decide) (by decide) (by decide) (Nat.le_of_ble_eq_true rfl) (Nat.le_of_ble_eq_true rfl) dX6_init_89 (fun q10 H hP hD hS => ?_)
  have hP : va_P D vwCl [(a0, zO 6 [.int 0, .int 0, .int 0, .int 0, .ref q0, .ref q1, .ref q2, .ref q3, .ref q4, .ref q5, .int 0, .ref q6, .int 0, .ref q7, .ref q8, .ref q9, .int 0, .null, .null, .null, .int 0, .null, .null, .null]), (q0, zA cI 100), (q1, zA cI 100), (q2, zA cZ 100), (q3, zA cI 900), (q4, zA cI 30), (q5, zA cI 30), (q6, zA cI 200), (q7, zA cI 30), (q8, zA cI 30), (q9, zA cI 30), (q10, zA cI 30)] H := hP
  have hD : va_D A [(a0, zO 6 [.int 0, .int 0, .int 0, .int 0, .ref q0, .ref q1, .ref q2, .ref q3, .ref q4, .ref q5, .int 0, .ref q6, .int 0, .ref q7, .ref q8, .ref q9, .int 0, .null, .null, .null, .int 0, .null, .null, .null]), (q0, zA cI 100), (q1, zA cI 100), (q2, zA cZ 100), (q3, zA cI 900), (q4, zA cI 30), (q5, zA cI 30), (q6, zA cI 200), (q7, zA cI 30), (q8, zA cI 30), (q9, zA cI 30), (q10, zA cI 30)] := hD
  refine W.widen (k := 11) (n := 1580) (by omega) (by omega) ?_
  refine va_putF (D := D) (ci := 6) (v := .ref q10) (ty := tyX6 17) (C := RX6) (T := TX6) (N := 24) hx hb hts inlX6 tyX6 tyX6_ok nmX6 hown hK hP hD hS 0 rfl rfl 17 (by decide) (hts (Cond.fieldLink RX6 41 "PlaneColoursModel" "taken" "[I") (by decide +kernel)) (fun _ h9 => h9) rfl hin rfl (by decide +kernel) rfl rfl (Nat.le_of_ble_eq_true rfl) dX6_init_91 (fun H locs hP hD hS => ?_)
  have hP : va_P D vwCl [(a0, zO 6 [.int 0, .int 0, .int 0, .int 0, .ref q0, .ref q1, .ref q2, .ref q3, .ref q4, .ref q5, .int 0, .ref q6, .int 0, .ref q7, .ref q8, .ref q9, .int 0, .ref q10, .null, .null, .int 0, .null, .null, .null]), (q0, zA cI 100), (q1, zA cI 100), (q2, zA cZ 100), (q3, zA cI 900), (q4, zA cI 30), (q5, zA cI 30), (q6, zA cI 200), (q7, zA cI 30), (q8, zA cI 30), (q9, zA cI 30), (q10, zA cI 30)] H := hP
  have hD : va_D A [(a0, zO 6 [.int 0, .int 0, .int 0, .int 0, .ref q0, .ref q1, .ref q2, .ref q3, .ref q4, .ref q5, .int 0, .ref q6, .int 0, .ref q7, .ref q8, .ref q9, .int 0, .ref q10, .null, .null, .int 0, .null, .null, .null]), (q0, zA cI 100), (q1, zA cI 100), (q2, zA cZ 100), (q3, zA cI 900), (q4, zA cI 30), (q5, zA cI 30), (q6, zA cI 200), (q7, zA cI 30), (q8, zA cI 30), (q9, zA cI 30), (q10, zA cI 30)] := hD
  refine lv_aload_n hx hb dX6_init_94 rfl (lv_at hl 0 rfl) ?_
  refine lv_bipush (v := 30) hx hb dX6_init_95 rfl ?_
  refine z_newa_boolean (D := D) (cI := cI) (cZ := cZ) (cJ := cJ) (N := 30) hx hb (hts (Cond.arrayClass .boolean) (by decide +kernel)) hK hP hD hS hA (by decide) (by decide) (by decide) (Nat.le_of_ble_eq_true rfl) (Nat.le_of_ble_eq_true rfl) dX6_init_97 (fun q11 H hP hD hS => ?_)
  have hP : va_P D vwCl [(a0, zO 6 [.int 0, .int 0, .int 0, .int 0, .ref q0, .ref q1, .ref q2, .ref q3, .ref q4, .ref q5, .int 0, .ref q6, .int 0, .ref q7, .ref q8, .ref q9, .int 0, .ref q10, .null, .null, .int 0, .null, .null, .null]), (q0, zA cI 100), (q1, zA cI 100), (q2, zA cZ 100), (q3, zA cI 900), (q4, zA cI 30), (q5, zA cI 30), (q6, zA cI 200), (q7, zA cI 30), (q8, zA cI 30), (q9, zA cI 30), (q10, zA cI 30), (q11, zA cZ 30)] H := hP
  have hD : va_D A [(a0, zO 6 [.int 0, .int 0, .int 0, .int 0, .ref q0, .ref q1, .ref q2, .ref q3, .ref q4, .ref q5, .int 0, .ref q6, .int 0, .ref q7, .ref q8, .ref q9, .int 0, .ref q10, .null, .null, .int 0, .null, .null, .null]), (q0, zA cI 100), (q1, zA cI 100), (q2, zA cZ 100), (q3, zA cI 900), (q4, zA cI 30), (q5, zA cI 30), (q6, zA cI 200), (q7, zA cI 30), (q8, zA cI 30), (q9, zA cI 30), (q10, zA cI 30), (q11, zA cZ 30)] := hD
  refine W.widen (k := 12) (n := 1610) (by omega) (by omega) ?_
  refine va_putF (D := D) (ci := 6) (v := .ref q11) (ty := tyX6 18) (C := RX6) (T := TX6) (N := 24) hx hb hts inlX6 tyX6 tyX6_ok nmX6 hown hK hP hD hS 0 rfl rfl 18 (by decide) (hts (Cond.fieldLink RX6 44 "PlaneColoursModel" "here" "[Z") (by decide +kernel)) (fun _ h9 => h9) rfl hin rfl (by decide +kernel) rfl rfl (Nat.le_of_ble_eq_true rfl) dX6_init_99 (fun H locs hP hD hS => ?_)
  have hP : va_P D vwCl [(a0, zO 6 [.int 0, .int 0, .int 0, .int 0, .ref q0, .ref q1, .ref q2, .ref q3, .ref q4, .ref q5, .int 0, .ref q6, .int 0, .ref q7, .ref q8, .ref q9, .int 0, .ref q10, .ref q11, .null, .int 0, .null, .null, .null]), (q0, zA cI 100), (q1, zA cI 100), (q2, zA cZ 100), (q3, zA cI 900), (q4, zA cI 30), (q5, zA cI 30), (q6, zA cI 200), (q7, zA cI 30), (q8, zA cI 30), (q9, zA cI 30), (q10, zA cI 30), (q11, zA cZ 30)] H := hP
  have hD : va_D A [(a0, zO 6 [.int 0, .int 0, .int 0, .int 0, .ref q0, .ref q1, .ref q2, .ref q3, .ref q4, .ref q5, .int 0, .ref q6, .int 0, .ref q7, .ref q8, .ref q9, .int 0, .ref q10, .ref q11, .null, .int 0, .null, .null, .null]), (q0, zA cI 100), (q1, zA cI 100), (q2, zA cZ 100), (q3, zA cI 900), (q4, zA cI 30), (q5, zA cI 30), (q6, zA cI 200), (q7, zA cI 30), (q8, zA cI 30), (q9, zA cI 30), (q10, zA cI 30), (q11, zA cZ 30)] := hD
  refine lv_aload_n hx hb dX6_init_102 rfl (lv_at hl 0 rfl) ?_
  refine lv_bipush (v := 30) hx hb dX6_init_103 rfl ?_
  refine z_newa_boolean (D := D) (cI := cI) (cZ := cZ) (cJ := cJ) (N := 30) hx hb (hts (Cond.arrayClass .boolean) (by decide +kernel)) hK hP hD hS hA (by decide) (by decide) (by decide) (Nat.le_of_ble_eq_true rfl) (Nat.le_of_ble_eq_true rfl) dX6_init_105 (fun q12 H hP hD hS => ?_)
  have hP : va_P D vwCl [(a0, zO 6 [.int 0, .int 0, .int 0, .int 0, .ref q0, .ref q1, .ref q2, .ref q3, .ref q4, .ref q5, .int 0, .ref q6, .int 0, .ref q7, .ref q8, .ref q9, .int 0, .ref q10, .ref q11, .null, .int 0, .null, .null, .null]), (q0, zA cI 100), (q1, zA cI 100), (q2, zA cZ 100), (q3, zA cI 900), (q4, zA cI 30), (q5, zA cI 30), (q6, zA cI 200), (q7, zA cI 30), (q8, zA cI 30), (q9, zA cI 30), (q10, zA cI 30), (q11, zA cZ 30), (q12, zA cZ 30)] H := hP
  have hD : va_D A [(a0, zO 6 [.int 0, .int 0, .int 0, .int 0, .ref q0, .ref q1, .ref q2, .ref q3, .ref q4, .ref q5, .int 0, .ref q6, .int 0, .ref q7, .ref q8, .ref q9, .int 0, .ref q10, .ref q11, .null, .int 0, .null, .null, .null]), (q0, zA cI 100), (q1, zA cI 100), (q2, zA cZ 100), (q3, zA cI 900), (q4, zA cI 30), (q5, zA cI 30), (q6, zA cI 200), (q7, zA cI 30), (q8, zA cI 30), (q9, zA cI 30), (q10, zA cI 30), (q11, zA cZ 30), (q12, zA cZ 30)] := hD
  refine W.widen (k := 13) (n := 1640) (by omega) (by omega) ?_
  refine va_putF (D := D) (ci := 6) (v := .ref q12) (ty := tyX6 19) (C := RX6) (T := TX6) (N := 24) hx hb hts inlX6 tyX6 tyX6_ok nmX6 hown hK hP hD hS 0 rfl rfl 19 (by decide) (hts (Cond.fieldLink RX6 47 "PlaneColoursModel" "chain" "[Z") (by decide +kernel)) (fun _ h9 => h9) rfl hin rfl (by decide +kernel) rfl rfl (Nat.le_of_ble_eq_true rfl) dX6_init_107 (fun H locs hP hD hS => ?_)
  have hP : va_P D vwCl [(a0, zO 6 [.int 0, .int 0, .int 0, .int 0, .ref q0, .ref q1, .ref q2, .ref q3, .ref q4, .ref q5, .int 0, .ref q6, .int 0, .ref q7, .ref q8, .ref q9, .int 0, .ref q10, .ref q11, .ref q12, .int 0, .null, .null, .null]), (q0, zA cI 100), (q1, zA cI 100), (q2, zA cZ 100), (q3, zA cI 900), (q4, zA cI 30), (q5, zA cI 30), (q6, zA cI 200), (q7, zA cI 30), (q8, zA cI 30), (q9, zA cI 30), (q10, zA cI 30), (q11, zA cZ 30), (q12, zA cZ 30)] H := hP
  have hD : va_D A [(a0, zO 6 [.int 0, .int 0, .int 0, .int 0, .ref q0, .ref q1, .ref q2, .ref q3, .ref q4, .ref q5, .int 0, .ref q6, .int 0, .ref q7, .ref q8, .ref q9, .int 0, .ref q10, .ref q11, .ref q12, .int 0, .null, .null, .null]), (q0, zA cI 100), (q1, zA cI 100), (q2, zA cZ 100), (q3, zA cI 900), (q4, zA cI 30), (q5, zA cI 30), (q6, zA cI 200), (q7, zA cI 30), (q8, zA cI 30), (q9, zA cI 30), (q10, zA cI 30), (q11, zA cZ 30), (q12, zA cZ 30)] := hD
  refine lv_aload_n hx hb dX6_init_110 rfl (lv_at hl 0 rfl) ?_
  refine lv_bipush (v := 30) hx hb dX6_init_111 rfl ?_
  refine z_newa_boolean (D := D) (cI := cI) (cZ := cZ) (cJ := cJ) (N := 30) hx hb (hts (Cond.arrayClass .boolean) (by decide +kernel)) hK hP hD hS hA (by decide) (by decide) (by decide) (Nat.le_of_ble_eq_true rfl) (Nat.le_of_ble_eq_true rfl) dX6_init_113 (fun q13 H hP hD hS => ?_)
  have hP : va_P D vwCl [(a0, zO 6 [.int 0, .int 0, .int 0, .int 0, .ref q0, .ref q1, .ref q2, .ref q3, .ref q4, .ref q5, .int 0, .ref q6, .int 0, .ref q7, .ref q8, .ref q9, .int 0, .ref q10, .ref q11, .ref q12, .int 0, .null, .null, .null]), (q0, zA cI 100), (q1, zA cI 100), (q2, zA cZ 100), (q3, zA cI 900), (q4, zA cI 30), (q5, zA cI 30), (q6, zA cI 200), (q7, zA cI 30), (q8, zA cI 30), (q9, zA cI 30), (q10, zA cI 30), (q11, zA cZ 30), (q12, zA cZ 30), (q13, zA cZ 30)] H := hP
  have hD : va_D A [(a0, zO 6 [.int 0, .int 0, .int 0, .int 0, .ref q0, .ref q1, .ref q2, .ref q3, .ref q4, .ref q5, .int 0, .ref q6, .int 0, .ref q7, .ref q8, .ref q9, .int 0, .ref q10, .ref q11, .ref q12, .int 0, .null, .null, .null]), (q0, zA cI 100), (q1, zA cI 100), (q2, zA cZ 100), (q3, zA cI 900), (q4, zA cI 30), (q5, zA cI 30), (q6, zA cI 200), (q7, zA cI 30), (q8, zA cI 30), (q9, zA cI 30), (q10, zA cI 30), (q11, zA cZ 30), (q12, zA cZ 30), (q13, zA cZ 30)] := hD
  refine W.widen (k := 14) (n := 1670) (by omega) (by omega) ?_
  refine va_putF (D := D) (ci := 6) (v := .ref q13) (ty := tyX6 21) (C := RX6) (T := TX6) (N := 24) hx hb hts inlX6 tyX6 tyX6_ok nmX6 hown hK hP hD hS 0 rfl rfl 21 (by decide) (hts (Cond.fieldLink RX6 50 "PlaneColoursModel" "onCycle" "[Z") (by decide +kernel)) (fun _ h9 => h9) rfl hin rfl (by decide +kernel) rfl rfl (Nat.le_of_ble_eq_true rfl) dX6_init_115 (fun H locs hP hD hS => ?_)
  have hP : va_P D vwCl [(a0, zO 6 [.int 0, .int 0, .int 0, .int 0, .ref q0, .ref q1, .ref q2, .ref q3, .ref q4, .ref q5, .int 0, .ref q6, .int 0, .ref q7, .ref q8, .ref q9, .int 0, .ref q10, .ref q11, .ref q12, .int 0, .ref q13, .null, .null]), (q0, zA cI 100), (q1, zA cI 100), (q2, zA cZ 100), (q3, zA cI 900), (q4, zA cI 30), (q5, zA cI 30), (q6, zA cI 200), (q7, zA cI 30), (q8, zA cI 30), (q9, zA cI 30), (q10, zA cI 30), (q11, zA cZ 30), (q12, zA cZ 30), (q13, zA cZ 30)] H := hP
  have hD : va_D A [(a0, zO 6 [.int 0, .int 0, .int 0, .int 0, .ref q0, .ref q1, .ref q2, .ref q3, .ref q4, .ref q5, .int 0, .ref q6, .int 0, .ref q7, .ref q8, .ref q9, .int 0, .ref q10, .ref q11, .ref q12, .int 0, .ref q13, .null, .null]), (q0, zA cI 100), (q1, zA cI 100), (q2, zA cZ 100), (q3, zA cI 900), (q4, zA cI 30), (q5, zA cI 30), (q6, zA cI 200), (q7, zA cI 30), (q8, zA cI 30), (q9, zA cI 30), (q10, zA cI 30), (q11, zA cZ 30), (q12, zA cZ 30), (q13, zA cZ 30)] := hD
  refine lv_aload_n hx hb dX6_init_118 rfl (lv_at hl 0 rfl) ?_
  refine lv_bipush (v := 100) hx hb dX6_init_119 rfl ?_
  refine z_newa_boolean (D := D) (cI := cI) (cZ := cZ) (cJ := cJ) (N := 100) hx hb (hts (Cond.arrayClass .boolean) (by decide +kernel)) hK hP hD hS hA (by decide) (by decide) (by decide) (Nat.le_of_ble_eq_true rfl) (Nat.le_of_ble_eq_true rfl) dX6_init_121 (fun q14 H hP hD hS => ?_)
  have hP : va_P D vwCl [(a0, zO 6 [.int 0, .int 0, .int 0, .int 0, .ref q0, .ref q1, .ref q2, .ref q3, .ref q4, .ref q5, .int 0, .ref q6, .int 0, .ref q7, .ref q8, .ref q9, .int 0, .ref q10, .ref q11, .ref q12, .int 0, .ref q13, .null, .null]), (q0, zA cI 100), (q1, zA cI 100), (q2, zA cZ 100), (q3, zA cI 900), (q4, zA cI 30), (q5, zA cI 30), (q6, zA cI 200), (q7, zA cI 30), (q8, zA cI 30), (q9, zA cI 30), (q10, zA cI 30), (q11, zA cZ 30), (q12, zA cZ 30), (q13, zA cZ 30), (q14, zA cZ 100)] H := hP
  have hD : va_D A [(a0, zO 6 [.int 0, .int 0, .int 0, .int 0, .ref q0, .ref q1, .ref q2, .ref q3, .ref q4, .ref q5, .int 0, .ref q6, .int 0, .ref q7, .ref q8, .ref q9, .int 0, .ref q10, .ref q11, .ref q12, .int 0, .ref q13, .null, .null]), (q0, zA cI 100), (q1, zA cI 100), (q2, zA cZ 100), (q3, zA cI 900), (q4, zA cI 30), (q5, zA cI 30), (q6, zA cI 200), (q7, zA cI 30), (q8, zA cI 30), (q9, zA cI 30), (q10, zA cI 30), (q11, zA cZ 30), (q12, zA cZ 30), (q13, zA cZ 30), (q14, zA cZ 100)] := hD
  refine W.widen (k := 15) (n := 1770) (by omega) (by omega) ?_
  refine va_putF (D := D) (ci := 6) (v := .ref q14) (ty := tyX6 22) (C := RX6) (T := TX6) (N := 24) hx hb hts inlX6 tyX6 tyX6_ok nmX6 hown hK hP hD hS 0 rfl rfl 22 (by decide) (hts (Cond.fieldLink RX6 53 "PlaneColoursModel" "ofCycle" "[Z") (by decide +kernel)) (fun _ h9 => h9) rfl hin rfl (by decide +kernel) rfl rfl (Nat.le_of_ble_eq_true rfl) dX6_init_123 (fun H locs hP hD hS => ?_)
  have hP : va_P D vwCl [(a0, zO 6 [.int 0, .int 0, .int 0, .int 0, .ref q0, .ref q1, .ref q2, .ref q3, .ref q4, .ref q5, .int 0, .ref q6, .int 0, .ref q7, .ref q8, .ref q9, .int 0, .ref q10, .ref q11, .ref q12, .int 0, .ref q13, .ref q14, .null]), (q0, zA cI 100), (q1, zA cI 100), (q2, zA cZ 100), (q3, zA cI 900), (q4, zA cI 30), (q5, zA cI 30), (q6, zA cI 200), (q7, zA cI 30), (q8, zA cI 30), (q9, zA cI 30), (q10, zA cI 30), (q11, zA cZ 30), (q12, zA cZ 30), (q13, zA cZ 30), (q14, zA cZ 100)] H := hP
  have hD : va_D A [(a0, zO 6 [.int 0, .int 0, .int 0, .int 0, .ref q0, .ref q1, .ref q2, .ref q3, .ref q4, .ref q5, .int 0, .ref q6, .int 0, .ref q7, .ref q8, .ref q9, .int 0, .ref q10, .ref q11, .ref q12, .int 0, .ref q13, .ref q14, .null]), (q0, zA cI 100), (q1, zA cI 100), (q2, zA cZ 100), (q3, zA cI 900), (q4, zA cI 30), (q5, zA cI 30), (q6, zA cI 200), (q7, zA cI 30), (q8, zA cI 30), (q9, zA cI 30), (q10, zA cI 30), (q11, zA cZ 30), (q12, zA cZ 30), (q13, zA cZ 30), (q14, zA cZ 100)] := hD
  refine lv_aload_n hx hb dX6_init_126 rfl (lv_at hl 0 rfl) ?_
  refine lv_sipush (v := 200) hx hb dX6_init_127 rfl ?_
  refine z_newa_boolean (D := D) (cI := cI) (cZ := cZ) (cJ := cJ) (N := 200) hx hb (hts (Cond.arrayClass .boolean) (by decide +kernel)) hK hP hD hS hA (by decide) (by decide) (by decide) (Nat.le_of_ble_eq_true rfl) (Nat.le_of_ble_eq_true rfl) dX6_init_130 (fun q15 H hP hD hS => ?_)
  have hP : va_P D vwCl [(a0, zO 6 [.int 0, .int 0, .int 0, .int 0, .ref q0, .ref q1, .ref q2, .ref q3, .ref q4, .ref q5, .int 0, .ref q6, .int 0, .ref q7, .ref q8, .ref q9, .int 0, .ref q10, .ref q11, .ref q12, .int 0, .ref q13, .ref q14, .null]), (q0, zA cI 100), (q1, zA cI 100), (q2, zA cZ 100), (q3, zA cI 900), (q4, zA cI 30), (q5, zA cI 30), (q6, zA cI 200), (q7, zA cI 30), (q8, zA cI 30), (q9, zA cI 30), (q10, zA cI 30), (q11, zA cZ 30), (q12, zA cZ 30), (q13, zA cZ 30), (q14, zA cZ 100), (q15, zA cZ 200)] H := hP
  have hD : va_D A [(a0, zO 6 [.int 0, .int 0, .int 0, .int 0, .ref q0, .ref q1, .ref q2, .ref q3, .ref q4, .ref q5, .int 0, .ref q6, .int 0, .ref q7, .ref q8, .ref q9, .int 0, .ref q10, .ref q11, .ref q12, .int 0, .ref q13, .ref q14, .null]), (q0, zA cI 100), (q1, zA cI 100), (q2, zA cZ 100), (q3, zA cI 900), (q4, zA cI 30), (q5, zA cI 30), (q6, zA cI 200), (q7, zA cI 30), (q8, zA cI 30), (q9, zA cI 30), (q10, zA cI 30), (q11, zA cZ 30), (q12, zA cZ 30), (q13, zA cZ 30), (q14, zA cZ 100), (q15, zA cZ 200)] := hD
  refine W.widen (k := 16) (n := 1970) (by omega) (by omega) ?_
  refine va_putF (D := D) (ci := 6) (v := .ref q15) (ty := tyX6 23) (C := RX6) (T := TX6) (N := 24) hx hb hts inlX6 tyX6 tyX6_ok nmX6 hown hK hP hD hS 0 rfl rfl 23 (by decide) (hts (Cond.fieldLink RX6 56 "PlaneColoursModel" "within" "[Z") (by decide +kernel)) (fun _ h9 => h9) rfl hin rfl (by decide +kernel) rfl rfl (Nat.le_of_ble_eq_true rfl) dX6_init_132 (fun H locs hP hD hS => ?_)
  have hP : va_P D vwCl [(a0, zO 6 [.int 0, .int 0, .int 0, .int 0, .ref q0, .ref q1, .ref q2, .ref q3, .ref q4, .ref q5, .int 0, .ref q6, .int 0, .ref q7, .ref q8, .ref q9, .int 0, .ref q10, .ref q11, .ref q12, .int 0, .ref q13, .ref q14, .ref q15]), (q0, zA cI 100), (q1, zA cI 100), (q2, zA cZ 100), (q3, zA cI 900), (q4, zA cI 30), (q5, zA cI 30), (q6, zA cI 200), (q7, zA cI 30), (q8, zA cI 30), (q9, zA cI 30), (q10, zA cI 30), (q11, zA cZ 30), (q12, zA cZ 30), (q13, zA cZ 30), (q14, zA cZ 100), (q15, zA cZ 200)] H := hP
  have hD : va_D A [(a0, zO 6 [.int 0, .int 0, .int 0, .int 0, .ref q0, .ref q1, .ref q2, .ref q3, .ref q4, .ref q5, .int 0, .ref q6, .int 0, .ref q7, .ref q8, .ref q9, .int 0, .ref q10, .ref q11, .ref q12, .int 0, .ref q13, .ref q14, .ref q15]), (q0, zA cI 100), (q1, zA cI 100), (q2, zA cZ 100), (q3, zA cI 900), (q4, zA cI 30), (q5, zA cI 30), (q6, zA cI 200), (q7, zA cI 30), (q8, zA cI 30), (q9, zA cI 30), (q10, zA cI 30), (q11, zA cZ 30), (q12, zA cZ 30), (q13, zA cZ 30), (q14, zA cZ 100), (q15, zA cZ 200)] := hD
  exact W.vret hx hb hr (fun t ht hW => ⟨⟨(fun k => ([q0, q1, q2, q3, q4, q5, q6, q7, q8, q9, q10, q11, q12, q13, q14, q15] : List Nat).getD k 0), rfl, trivial, by rw [ht]; exact hP, va_K.moved hW.alike hK, hD⟩, hS.F ht⟩) hS.2.2 dX6_init_135 hlocks
theorem zok_X5 : ZOk yX5_init cX5_init 1 0 := ⟨⟨by decide +kernel, by decide +kernel, by decide +kernel⟩, rfl, by decide +kernel, by decide +kernel, by decide +kernel⟩
set_option maxHeartbeats 8000000 in
set_option maxRecDepth 100000 in
theorem cc_X5 (l : Launch) : CtC l yX5_init cX5_init 1 2 36 29 2237 5 [.null, .null, .null, .null, .null] [] [Cond.methodLinkNest RX5 11 yX2_init RX5] (fun cI cZ a0 u => [(a0, zO 5 [.ref (u 0), .ref (u 7), .ref (u 11), .ref (u 17), .ref (u 24)]), ((u 0), zO 2 [.ref (u 1), .ref (u 2), .ref (u 3), .ref (u 4), .ref (u 5), .ref (u 6), .int 0, .int 0, .int 0]), ((u 1), zA cI 200), ((u 2), zA cI 200), ((u 3), zA cI 200), ((u 4), zA cZ 100), ((u 5), zA cI 30), ((u 6), zA cI 30), ((u 7), zO 1 [.ref (u 0), .ref (u 8), .ref (u 9), .ref (u 10), .int 0]), ((u 8), zA cI 200), ((u 9), zA cI 200), ((u 10), zA cI 200), ((u 11), zO 4 [.ref (u 0), .ref (u 12), .ref (u 13), .ref (u 14), .ref (u 15), .ref (u 16), .int 0, .int 0]), ((u 12), zA cI 30), ((u 13), zA cI 30), ((u 14), zA cI 30), ((u 15), zA cI 30), ((u 16), zA cI 30), ((u 17), zO 0 [.ref (u 0), .ref (u 18), .ref (u 19), .ref (u 20), .ref (u 21), .ref (u 22), .ref (u 23), .int 0, .int 0]), ((u 18), zA cI 30), ((u 19), zA cZ 30), ((u 20), zA cI 30), ((u 21), zA cI 5), ((u 22), zA cZ 30), ((u 23), zA cI 30), ((u 24), zO 3 [.ref (u 0), .ref (u 7), .ref (u 11), .ref (u 25), .ref (u 26), .ref (u 27), .ref (u 28), .int 0, .int 0, .int 0, .int 0]), ((u 25), zA cZ 30), ((u 26), zA cZ 100), ((u 27), zA cZ 200), ((u 28), zA cI 200)]) := by
  intro D cI cZ cJ a0 sz
  refine Met.ofW (cc := cX5_init) (maxL := 1) (ret := none) (by decide) rfl ?_
  intro p e s m args below meth c s₁ B hml hv
  obtain ⟨rfl, hsz, hP, hK, hD0, hN⟩ := hv
  have hx := B.exec
  have hb := B.bytes
  have hr := B.returns
  have htsC := atoms_spec (ws := Cond.code yX5_init cX5_init 1 none :: wsL_law) B.pre
  have hts : ∀ w ∈ wsL_law, w.before _ s = true := fun w hw => htsC w (List.mem_cons_of_mem _ hw)
  have hown : s.vm.findClass RX5 = some m.cls := findClass_of_methodNamed B.named
  have hlocks := B.notSynchronized
  have hin : meth.name = "<init>" := (name_of_methodNamed B.named B.method).1
  subst hsz
  have hD := hD0.self (sz := s.heap.size)
  generalize hAe : va_A [(a0, zO 5 [.null, .null, .null, .null, .null])] s.heap.size = A at hD ⊢
  have hA : ∀ q : Nat, s.heap.size ≤ q → A q := fun q h => by rw [← hAe]; exact Or.inr h
  have hS : va_S A s.heap s.heap [] := va_S.rf
  have hP : va_P D vwCl [(a0, zO 5 [.null, .null, .null, .null, .null])] s.heap := hP
  have hl := lv_entry ([.ref a0]) (n := 1) (Nat.le_of_ble_eq_true rfl)
  show W p l e _ s m ([.ref a0] : List Value).toArray below meth c s.heap [] 0 0 _ (entryFrame m ([.ref a0] : List Value).toArray 1)
  rw [lg_entry_eq]
  generalize (lg_sl ([.ref a0]) ++ List.replicate (1 - (lg_sl ([.ref a0])).length) Slot.unset).toArray = ls at hl ⊢
  have hl : lv_has ls 1 [(0, .ref a0)] := hl
  refine lv_aload_n hx hb dX5_init_0 rfl (lv_at hl 0 rfl) ?_
  refine W.objInit hx hb hown (hts (Cond.methodLink RX5 3 objectInit) (by decide +kernel)) (hts (Cond.instanceMethod objectInit) (by decide +kernel)) (hts (Cond.code objectInit ⟨#[0xb1]⟩ 1 none) (by decide +kernel)) rfl (by rw [hml]; exact hl.1) rfl dX5_init_1 (Nat.le_of_ble_eq_true rfl) (Nat.le_of_ble_eq_true rfl) ?_
  refine W.eq (g2 := F0 m 4 ls []) rfl ?_
  refine lv_aload_n hx hb dX5_init_4 rfl (lv_at hl 0 rfl) ?_
  refine va_new (ci := 2) (fs := [.null, .null, .null, .null, .null, .null, .int 0, .int 0, .int 0]) (C := RX2) (T := TX2) (N := 9) hx hb hts inlX2 tyX2 tyX2_ok hown (hts (Cond.classLink RX5 9 RX2) (by decide +kernel)) (hts (Cond.instantiable RX2 9) (by decide +kernel)) (hts (Cond.initialized RX2) (by decide +kernel)) hK hP hD hS hA rfl fsX2 (Nat.le_of_ble_eq_true rfl) (Nat.le_of_ble_eq_true rfl) dX5_init_5 (fun q0 H hP hD hS => ?_)
  have hP : va_P D vwCl [(a0, zO 5 [.null, .null, .null, .null, .null]), (q0, zO 2 [.null, .null, .null, .null, .null, .null, .int 0, .int 0, .int 0])] H := hP
  have hD : va_D A [(a0, zO 5 [.null, .null, .null, .null, .null]), (q0, zO 2 [.null, .null, .null, .null, .null, .null, .int 0, .int 0, .int 0])] := hD
  refine W.widen (k := 1) (n := 9) (by omega) (by omega) ?_
  refine lv_dup hx hb dX5_init_8 rfl ?_
  refine z_call (ci := 2) (fs0 := [.null, .null, .null, .null, .null, .null, .int 0, .int 0, .int 0]) (wr := [(a0, zO 5 [.null, .null, .null, .null, .null])]) (gs := []) (rest := [.ref q0, .ref a0]) (cells := 1) (slots := 9) hx hb hml hown hts hK (cc_X2 l ) zok_X2 (Or.inr ⟨RX5, va_Nw.use rfl (hN _ List.mem_cons_self)⟩) (fun w hw => by cases hw) (fun U _ w hw => by cases hw) (Nat.le_of_ble_eq_true rfl) (Nat.le_of_ble_eq_true rfl) hP hD hS hA rfl (Nat.le_of_ble_eq_true rfl) hl.1 dX5_init_9 (Nat.le_of_ble_eq_true rfl) (Nat.le_of_ble_eq_true rfl) (fun u1 H locs hP hD hS => ?_)
  have hP : va_P D vwCl [(a0, zO 5 [.null, .null, .null, .null, .null]), (q0, zO 2 [.ref (u1 0), .ref (u1 1), .ref (u1 2), .ref (u1 3), .ref (u1 4), .ref (u1 5), .int 0, .int 0, .int 0]), ((u1 0), zA cI 200), ((u1 1), zA cI 200), ((u1 2), zA cI 200), ((u1 3), zA cZ 100), ((u1 4), zA cI 30), ((u1 5), zA cI 30)] H := hP
  have hD : va_D A [(a0, zO 5 [.null, .null, .null, .null, .null]), (q0, zO 2 [.ref (u1 0), .ref (u1 1), .ref (u1 2), .ref (u1 3), .ref (u1 4), .ref (u1 5), .int 0, .int 0, .int 0]), ((u1 0), zA cI 200), ((u1 1), zA cI 200), ((u1 2), zA cI 200), ((u1 3), zA cZ 100), ((u1 4), zA cI 30), ((u1 5), zA cI 30)] := hD
  refine W.widen (k := 7) (n := 769) (by omega) (by omega) ?_
  refine va_putF (D := D) (ci := 5) (v := .ref q0) (ty := tyX5 0) (C := RX5) (T := TX5) (N := 5) hx hb hts inlX5 tyX5 tyX5_ok nmX5 hown hK hP hD hS 0 rfl rfl 0 (by decide) (hts (Cond.fieldLink RX5 12 "PlaneColours" "graph" "LPlaneColours$Graph;") (by decide +kernel)) (fun _ h9 => h9) rfl hin rfl (by decide +kernel) rfl rfl (Nat.le_of_ble_eq_true rfl) dX5_init_12 (fun H locs hP hD hS => ?_)
  have hP : va_P D vwCl [(a0, zO 5 [.ref q0, .null, .null, .null, .null]), (q0, zO 2 [.ref (u1 0), .ref (u1 1), .ref (u1 2), .ref (u1 3), .ref (u1 4), .ref (u1 5), .int 0, .int 0, .int 0]), ((u1 0), zA cI 200), ((u1 1), zA cI 200), ((u1 2), zA cI 200), ((u1 3), zA cZ 100), ((u1 4), zA cI 30), ((u1 5), zA cI 30)] H := hP
  have hD : va_D A [(a0, zO 5 [.ref q0, .null, .null, .null, .null]), (q0, zO 2 [.ref (u1 0), .ref (u1 1), .ref (u1 2), .ref (u1 3), .ref (u1 4), .ref (u1 5), .int 0, .int 0, .int 0]), ((u1 0), zA cI 200), ((u1 1), zA cI 200), ((u1 2), zA cI 200), ((u1 3), zA cZ 100), ((u1 4), zA cI 30), ((u1 5), zA cI 30)] := hD
  refine lv_aload_n hx hb dX5_init_15 rfl (lv_at hl 0 rfl) ?_
  refine va_new (ci := 1) (fs := [.null, .null, .null, .null, .int 0]) (C := RX1) (T := TX1) (N := 5) hx hb hts inlX1 tyX1 tyX1_ok hown (hts (Cond.classLink RX5 16 RX1) (by decide +kernel)) (hts (Cond.instantiable RX1 5) (by decide +kernel)) (hts (Cond.initialized RX1) (by decide +kernel)) hK hP hD hS hA rfl fsX1 (Nat.le_of_ble_eq_true rfl) (Nat.le_of_ble_eq_true rfl) dX5_init_16 (fun q2 H hP hD hS => ?_)
  have hP : va_P D vwCl [(a0, zO 5 [.ref q0, .null, .null, .null, .null]), (q0, zO 2 [.ref (u1 0), .ref (u1 1), .ref (u1 2), .ref (u1 3), .ref (u1 4), .ref (u1 5), .int 0, .int 0, .int 0]), ((u1 0), zA cI 200), ((u1 1), zA cI 200), ((u1 2), zA cI 200), ((u1 3), zA cZ 100), ((u1 4), zA cI 30), ((u1 5), zA cI 30), (q2, zO 1 [.null, .null, .null, .null, .int 0])] H := hP
  have hD : va_D A [(a0, zO 5 [.ref q0, .null, .null, .null, .null]), (q0, zO 2 [.ref (u1 0), .ref (u1 1), .ref (u1 2), .ref (u1 3), .ref (u1 4), .ref (u1 5), .int 0, .int 0, .int 0]), ((u1 0), zA cI 200), ((u1 1), zA cI 200), ((u1 2), zA cI 200), ((u1 3), zA cZ 100), ((u1 4), zA cI 30), ((u1 5), zA cI 30), (q2, zO 1 [.null, .null, .null, .null, .int 0])] := hD
  refine W.widen (k := 8) (n := 774) (by omega) (by omega) ?_
  refine lv_dup hx hb dX5_init_19 rfl ?_
  refine lv_aload_n hx hb dX5_init_20 rfl (lv_at hl 0 rfl) ?_
  refine va_get (C := RX5) (T := TX5) (N := 5) (v := .ref q0) hx hb hts inlX5 hown hK hP 0 rfl rfl 0 (by decide) (hts (Cond.fieldLink RX5 12 "PlaneColours" "graph" "LPlaneColours$Graph;") (by decide +kernel)) (fun _ h9 => h9) rfl dX5_init_21 ?_
  refine z_call (ci := 1) (fs0 := [.null, .null, .null, .null, .int 0]) (wr := [(a0, zO 5 [.ref q0, .null, .null, .null, .null]), (q0, zO 2 [.ref (u1 0), .ref (u1 1), .ref (u1 2), .ref (u1 3), .ref (u1 4), .ref (u1 5), .int 0, .int 0, .int 0]), ((u1 0), zA cI 200), ((u1 1), zA cI 200), ((u1 2), zA cI 200), ((u1 3), zA cZ 100), ((u1 4), zA cI 30), ((u1 5), zA cI 30)]) (gs := [q0]) (rest := [.ref q2, .ref a0]) (cells := 8) (slots := 774) hx hb hml hown hts hK (cc_X1 l q0) zok_X1 (Or.inl (hts (Cond.methodLink RX5 18 yX1_init) (by decide +kernel))) (fun w hw => by cases hw) (fun U _ w hw => by cases hw) (Nat.le_of_ble_eq_true rfl) (Nat.le_of_ble_eq_true rfl) hP hD hS hA rfl (Nat.le_of_ble_eq_true rfl) hl.1 dX5_init_24 (Nat.le_of_ble_eq_true rfl) (Nat.le_of_ble_eq_true rfl) (fun u3 H locs hP hD hS => ?_)
  have hP : va_P D vwCl [(a0, zO 5 [.ref q0, .null, .null, .null, .null]), (q0, zO 2 [.ref (u1 0), .ref (u1 1), .ref (u1 2), .ref (u1 3), .ref (u1 4), .ref (u1 5), .int 0, .int 0, .int 0]), ((u1 0), zA cI 200), ((u1 1), zA cI 200), ((u1 2), zA cI 200), ((u1 3), zA cZ 100), ((u1 4), zA cI 30), ((u1 5), zA cI 30), (q2, zO 1 [.ref q0, .ref (u3 0), .ref (u3 1), .ref (u3 2), .int 0]), ((u3 0), zA cI 200), ((u3 1), zA cI 200), ((u3 2), zA cI 200)] H := hP
  have hD : va_D A [(a0, zO 5 [.ref q0, .null, .null, .null, .null]), (q0, zO 2 [.ref (u1 0), .ref (u1 1), .ref (u1 2), .ref (u1 3), .ref (u1 4), .ref (u1 5), .int 0, .int 0, .int 0]), ((u1 0), zA cI 200), ((u1 1), zA cI 200), ((u1 2), zA cI 200), ((u1 3), zA cZ 100), ((u1 4), zA cI 30), ((u1 5), zA cI 30), (q2, zO 1 [.ref q0, .ref (u3 0), .ref (u3 1), .ref (u3 2), .int 0]), ((u3 0), zA cI 200), ((u3 1), zA cI 200), ((u3 2), zA cI 200)] := hD
  refine W.widen (k := 11) (n := 1374) (by omega) (by omega) ?_
  refine va_putF (D := D) (ci := 5) (v := .ref q2) (ty := tyX5 1) (C := RX5) (T := TX5) (N := 5) hx hb hts inlX5 tyX5 tyX5_ok nmX5 hown hK hP hD hS 0 rfl rfl 1 (by decide) (hts (Cond.fieldLink RX5 21 "PlaneColours" "faceRows" "LPlaneColours$FaceRows;") (by decide +kernel)) (fun _ h9 => h9) rfl hin rfl (by decide +kernel) rfl rfl (Nat.le_of_ble_eq_true rfl) dX5_init_27 (fun H locs hP hD hS => ?_)
  have hP : va_P D vwCl [(a0, zO 5 [.ref q0, .ref q2, .null, .null, .null]), (q0, zO 2 [.ref (u1 0), .ref (u1 1), .ref (u1 2), .ref (u1 3), .ref (u1 4), .ref (u1 5), .int 0, .int 0, .int 0]), ((u1 0), zA cI 200), ((u1 1), zA cI 200), ((u1 2), zA cI 200), ((u1 3), zA cZ 100), ((u1 4), zA cI 30), ((u1 5), zA cI 30), (q2, zO 1 [.ref q0, .ref (u3 0), .ref (u3 1), .ref (u3 2), .int 0]), ((u3 0), zA cI 200), ((u3 1), zA cI 200), ((u3 2), zA cI 200)] H := hP
  have hD : va_D A [(a0, zO 5 [.ref q0, .ref q2, .null, .null, .null]), (q0, zO 2 [.ref (u1 0), .ref (u1 1), .ref (u1 2), .ref (u1 3), .ref (u1 4), .ref (u1 5), .int 0, .int 0, .int 0]), ((u1 0), zA cI 200), ((u1 1), zA cI 200), ((u1 2), zA cI 200), ((u1 3), zA cZ 100), ((u1 4), zA cI 30), ((u1 5), zA cI 30), (q2, zO 1 [.ref q0, .ref (u3 0), .ref (u3 1), .ref (u3 2), .int 0]), ((u3 0), zA cI 200), ((u3 1), zA cI 200), ((u3 2), zA cI 200)] := hD
  refine lv_aload_n hx hb dX5_init_30 rfl (lv_at hl 0 rfl) ?_
  refine va_new (ci := 4) (fs := [.null, .null, .null, .null, .null, .null, .int 0, .int 0]) (C := RX4) (T := TX4) (N := 8) hx hb hts inlX4 tyX4 tyX4_ok hown (hts (Cond.classLink RX5 25 RX4) (by decide +kernel)) (hts (Cond.instantiable RX4 8) (by decide +kernel)) (hts (Cond.initialized RX4) (by decide +kernel)) hK hP hD hS hA rfl fsX4 (Nat.le_of_ble_eq_true rfl) (Nat.le_of_ble_eq_true rfl) dX5_init_31 (fun q4 H hP hD hS => ?_)
  have hP : va_P D vwCl [(a0, zO 5 [.ref q0, .ref q2, .null, .null, .null]), (q0, zO 2 [.ref (u1 0), .ref (u1 1), .ref (u1 2), .ref (u1 3), .ref (u1 4), .ref (u1 5), .int 0, .int 0, .int 0]), ((u1 0), zA cI 200), ((u1 1), zA cI 200), ((u1 2), zA cI 200), ((u1 3), zA cZ 100), ((u1 4), zA cI 30), ((u1 5), zA cI 30), (q2, zO 1 [.ref q0, .ref (u3 0), .ref (u3 1), .ref (u3 2), .int 0]), ((u3 0), zA cI 200), ((u3 1), zA cI 200), ((u3 2), zA cI 200), (q4, zO 4 [.null, .null, .null, .null, .null, .null, .int 0, .int 0])] H := hP
  have hD : va_D A [(a0, zO 5 [.ref q0, .ref q2, .null, .null, .null]), (q0, zO 2 [.ref (u1 0), .ref (u1 1), .ref (u1 2), .ref (u1 3), .ref (u1 4), .ref (u1 5), .int 0, .int 0, .int 0]), ((u1 0), zA cI 200), ((u1 1), zA cI 200), ((u1 2), zA cI 200), ((u1 3), zA cZ 100), ((u1 4), zA cI 30), ((u1 5), zA cI 30), (q2, zO 1 [.ref q0, .ref (u3 0), .ref (u3 1), .ref (u3 2), .int 0]), ((u3 0), zA cI 200), ((u3 1), zA cI 200), ((u3 2), zA cI 200), (q4, zO 4 [.null, .null, .null, .null, .null, .null, .int 0, .int 0])] := hD
  refine W.widen (k := 12) (n := 1382) (by omega) (by omega) ?_
  refine lv_dup hx hb dX5_init_34 rfl ?_
  refine lv_aload_n hx hb dX5_init_35 rfl (lv_at hl 0 rfl) ?_
  refine va_get (C := RX5) (T := TX5) (N := 5) (v := .ref q0) hx hb hts inlX5 hown hK hP 0 rfl rfl 0 (by decide) (hts (Cond.fieldLink RX5 12 "PlaneColours" "graph" "LPlaneColours$Graph;") (by decide +kernel)) (fun _ h9 => h9) rfl dX5_init_36 ?_
  refine z_call (ci := 4) (fs0 := [.null, .null, .null, .null, .null, .null, .int 0, .int 0]) (wr := [(a0, zO 5 [.ref q0, .ref q2, .null, .null, .null]), (q0, zO 2 [.ref (u1 0), .ref (u1 1), .ref (u1 2), .ref (u1 3), .ref (u1 4), .ref (u1 5), .int 0, .int 0, .int 0]), ((u1 0), zA cI 200), ((u1 1), zA cI 200), ((u1 2), zA cI 200), ((u1 3), zA cZ 100), ((u1 4), zA cI 30), ((u1 5), zA cI 30), (q2, zO 1 [.ref q0, .ref (u3 0), .ref (u3 1), .ref (u3 2), .int 0]), ((u3 0), zA cI 200), ((u3 1), zA cI 200), ((u3 2), zA cI 200)]) (gs := [q0]) (rest := [.ref q4, .ref a0]) (cells := 12) (slots := 1382) hx hb hml hown hts hK (cc_X4 l q0) zok_X4 (Or.inl (hts (Cond.methodLink RX5 27 yX4_init) (by decide +kernel))) (fun w hw => by cases hw) (fun U _ w hw => by cases hw) (Nat.le_of_ble_eq_true rfl) (Nat.le_of_ble_eq_true rfl) hP hD hS hA rfl (Nat.le_of_ble_eq_true rfl) hl.1 dX5_init_39 (Nat.le_of_ble_eq_true rfl) (Nat.le_of_ble_eq_true rfl) (fun u5 H locs hP hD hS => ?_)
  have hP : va_P D vwCl [(a0, zO 5 [.ref q0, .ref q2, .null, .null, .null]), (q0, zO 2 [.ref (u1 0), .ref (u1 1), .ref (u1 2), .ref (u1 3), .ref (u1 4), .ref (u1 5), .int 0, .int 0, .int 0]), ((u1 0), zA cI 200), ((u1 1), zA cI 200), ((u1 2), zA cI 200), ((u1 3), zA cZ 100), ((u1 4), zA cI 30), ((u1 5), zA cI 30), (q2, zO 1 [.ref q0, .ref (u3 0), .ref (u3 1), .ref (u3 2), .int 0]), ((u3 0), zA cI 200), ((u3 1), zA cI 200), ((u3 2), zA cI 200), (q4, zO 4 [.ref q0, .ref (u5 0), .ref (u5 1), .ref (u5 2), .ref (u5 3), .ref (u5 4), .int 0, .int 0]), ((u5 0), zA cI 30), ((u5 1), zA cI 30), ((u5 2), zA cI 30), ((u5 3), zA cI 30), ((u5 4), zA cI 30)] H := hP
  have hD : va_D A [(a0, zO 5 [.ref q0, .ref q2, .null, .null, .null]), (q0, zO 2 [.ref (u1 0), .ref (u1 1), .ref (u1 2), .ref (u1 3), .ref (u1 4), .ref (u1 5), .int 0, .int 0, .int 0]), ((u1 0), zA cI 200), ((u1 1), zA cI 200), ((u1 2), zA cI 200), ((u1 3), zA cZ 100), ((u1 4), zA cI 30), ((u1 5), zA cI 30), (q2, zO 1 [.ref q0, .ref (u3 0), .ref (u3 1), .ref (u3 2), .int 0]), ((u3 0), zA cI 200), ((u3 1), zA cI 200), ((u3 2), zA cI 200), (q4, zO 4 [.ref q0, .ref (u5 0), .ref (u5 1), .ref (u5 2), .ref (u5 3), .ref (u5 4), .int 0, .int 0]), ((u5 0), zA cI 30), ((u5 1), zA cI 30), ((u5 2), zA cI 30), ((u5 3), zA cI 30), ((u5 4), zA cI 30)] := hD
  refine W.widen (k := 17) (n := 1532) (by omega) (by omega) ?_
  refine va_putF (D := D) (ci := 5) (v := .ref q4) (ty := tyX5 2) (C := RX5) (T := TX5) (N := 5) hx hb hts inlX5 tyX5 tyX5_ok nmX5 hown hK hP hD hS 0 rfl rfl 2 (by decide) (hts (Cond.fieldLink RX5 28 "PlaneColours" "tree" "LPlaneColours$Tree;") (by decide +kernel)) (fun _ h9 => h9) rfl hin rfl (by decide +kernel) rfl rfl (Nat.le_of_ble_eq_true rfl) dX5_init_42 (fun H locs hP hD hS => ?_)
  have hP : va_P D vwCl [(a0, zO 5 [.ref q0, .ref q2, .ref q4, .null, .null]), (q0, zO 2 [.ref (u1 0), .ref (u1 1), .ref (u1 2), .ref (u1 3), .ref (u1 4), .ref (u1 5), .int 0, .int 0, .int 0]), ((u1 0), zA cI 200), ((u1 1), zA cI 200), ((u1 2), zA cI 200), ((u1 3), zA cZ 100), ((u1 4), zA cI 30), ((u1 5), zA cI 30), (q2, zO 1 [.ref q0, .ref (u3 0), .ref (u3 1), .ref (u3 2), .int 0]), ((u3 0), zA cI 200), ((u3 1), zA cI 200), ((u3 2), zA cI 200), (q4, zO 4 [.ref q0, .ref (u5 0), .ref (u5 1), .ref (u5 2), .ref (u5 3), .ref (u5 4), .int 0, .int 0]), ((u5 0), zA cI 30), ((u5 1), zA cI 30), ((u5 2), zA cI 30), ((u5 3), zA cI 30), ((u5 4), zA cI 30)] H := hP
  have hD : va_D A [(a0, zO 5 [.ref q0, .ref q2, .ref q4, .null, .null]), (q0, zO 2 [.ref (u1 0), .ref (u1 1), .ref (u1 2), .ref (u1 3), .ref (u1 4), .ref (u1 5), .int 0, .int 0, .int 0]), ((u1 0), zA cI 200), ((u1 1), zA cI 200), ((u1 2), zA cI 200), ((u1 3), zA cZ 100), ((u1 4), zA cI 30), ((u1 5), zA cI 30), (q2, zO 1 [.ref q0, .ref (u3 0), .ref (u3 1), .ref (u3 2), .int 0]), ((u3 0), zA cI 200), ((u3 1), zA cI 200), ((u3 2), zA cI 200), (q4, zO 4 [.ref q0, .ref (u5 0), .ref (u5 1), .ref (u5 2), .ref (u5 3), .ref (u5 4), .int 0, .int 0]), ((u5 0), zA cI 30), ((u5 1), zA cI 30), ((u5 2), zA cI 30), ((u5 3), zA cI 30), ((u5 4), zA cI 30)] := hD
  refine lv_aload_n hx hb dX5_init_45 rfl (lv_at hl 0 rfl) ?_
  refine va_new (ci := 0) (fs := [.null, .null, .null, .null, .null, .null, .null, .int 0, .int 0]) (C := RX0) (T := TX0) (N := 9) hx hb hts inlX0 tyX0 tyX0_ok hown (hts (Cond.classLink RX5 32 RX0) (by decide +kernel)) (hts (Cond.instantiable RX0 9) (by decide +kernel)) (hts (Cond.initialized RX0) (by decide +kernel)) hK hP hD hS hA rfl fsX0 (Nat.le_of_ble_eq_true rfl) (Nat.le_of_ble_eq_true rfl) dX5_init_46 (fun q6 H hP hD hS => ?_)
  have hP : va_P D vwCl [(a0, zO 5 [.ref q0, .ref q2, .ref q4, .null, .null]), (q0, zO 2 [.ref (u1 0), .ref (u1 1), .ref (u1 2), .ref (u1 3), .ref (u1 4), .ref (u1 5), .int 0, .int 0, .int 0]), ((u1 0), zA cI 200), ((u1 1), zA cI 200), ((u1 2), zA cI 200), ((u1 3), zA cZ 100), ((u1 4), zA cI 30), ((u1 5), zA cI 30), (q2, zO 1 [.ref q0, .ref (u3 0), .ref (u3 1), .ref (u3 2), .int 0]), ((u3 0), zA cI 200), ((u3 1), zA cI 200), ((u3 2), zA cI 200), (q4, zO 4 [.ref q0, .ref (u5 0), .ref (u5 1), .ref (u5 2), .ref (u5 3), .ref (u5 4), .int 0, .int 0]), ((u5 0), zA cI 30), ((u5 1), zA cI 30), ((u5 2), zA cI 30), ((u5 3), zA cI 30), ((u5 4), zA cI 30), (q6, zO 0 [.null, .null, .null, .null, .null, .null, .null, .int 0, .int 0])] H := hP
  have hD : va_D A [(a0, zO 5 [.ref q0, .ref q2, .ref q4, .null, .null]), (q0, zO 2 [.ref (u1 0), .ref (u1 1), .ref (u1 2), .ref (u1 3), .ref (u1 4), .ref (u1 5), .int 0, .int 0, .int 0]), ((u1 0), zA cI 200), ((u1 1), zA cI 200), ((u1 2), zA cI 200), ((u1 3), zA cZ 100), ((u1 4), zA cI 30), ((u1 5), zA cI 30), (q2, zO 1 [.ref q0, .ref (u3 0), .ref (u3 1), .ref (u3 2), .int 0]), ((u3 0), zA cI 200), ((u3 1), zA cI 200), ((u3 2), zA cI 200), (q4, zO 4 [.ref q0, .ref (u5 0), .ref (u5 1), .ref (u5 2), .ref (u5 3), .ref (u5 4), .int 0, .int 0]), ((u5 0), zA cI 30), ((u5 1), zA cI 30), ((u5 2), zA cI 30), ((u5 3), zA cI 30), ((u5 4), zA cI 30), (q6, zO 0 [.null, .null, .null, .null, .null, .null, .null, .int 0, .int 0])] := hD
  refine W.widen (k := 18) (n := 1541) (by omega) (by omega) ?_
  refine lv_dup hx hb dX5_init_49 rfl ?_
  refine lv_aload_n hx hb dX5_init_50 rfl (lv_at hl 0 rfl) ?_
  refine va_get (C := RX5) (T := TX5) (N := 5) (v := .ref q0) hx hb hts inlX5 hown hK hP 0 rfl rfl 0 (by decide) (hts (Cond.fieldLink RX5 12 "PlaneColours" "graph" "LPlaneColours$Graph;") (by decide +kernel)) (fun _ h9 => h9) rfl dX5_init_51 ?_
  refine z_call (ci := 0) (fs0 := [.null, .null, .null, .null, .null, .null, .null, .int 0, .int 0]) (wr := [(a0, zO 5 [.ref q0, .ref q2, .ref q4, .null, .null]), (q0, zO 2 [.ref (u1 0), .ref (u1 1), .ref (u1 2), .ref (u1 3), .ref (u1 4), .ref (u1 5), .int 0, .int 0, .int 0]), ((u1 0), zA cI 200), ((u1 1), zA cI 200), ((u1 2), zA cI 200), ((u1 3), zA cZ 100), ((u1 4), zA cI 30), ((u1 5), zA cI 30), (q2, zO 1 [.ref q0, .ref (u3 0), .ref (u3 1), .ref (u3 2), .int 0]), ((u3 0), zA cI 200), ((u3 1), zA cI 200), ((u3 2), zA cI 200), (q4, zO 4 [.ref q0, .ref (u5 0), .ref (u5 1), .ref (u5 2), .ref (u5 3), .ref (u5 4), .int 0, .int 0]), ((u5 0), zA cI 30), ((u5 1), zA cI 30), ((u5 2), zA cI 30), ((u5 3), zA cI 30), ((u5 4), zA cI 30)]) (gs := [q0]) (rest := [.ref q6, .ref a0]) (cells := 18) (slots := 1541) hx hb hml hown hts hK (cc_X0 l q0) zok_X0 (Or.inl (hts (Cond.methodLink RX5 34 yX0_init) (by decide +kernel))) (fun w hw => by cases hw) (fun U _ w hw => by cases hw) (Nat.le_of_ble_eq_true rfl) (Nat.le_of_ble_eq_true rfl) hP hD hS hA rfl (Nat.le_of_ble_eq_true rfl) hl.1 dX5_init_54 (Nat.le_of_ble_eq_true rfl) (Nat.le_of_ble_eq_true rfl) (fun u7 H locs hP hD hS => ?_)
  have hP : va_P D vwCl [(a0, zO 5 [.ref q0, .ref q2, .ref q4, .null, .null]), (q0, zO 2 [.ref (u1 0), .ref (u1 1), .ref (u1 2), .ref (u1 3), .ref (u1 4), .ref (u1 5), .int 0, .int 0, .int 0]), ((u1 0), zA cI 200), ((u1 1), zA cI 200), ((u1 2), zA cI 200), ((u1 3), zA cZ 100), ((u1 4), zA cI 30), ((u1 5), zA cI 30), (q2, zO 1 [.ref q0, .ref (u3 0), .ref (u3 1), .ref (u3 2), .int 0]), ((u3 0), zA cI 200), ((u3 1), zA cI 200), ((u3 2), zA cI 200), (q4, zO 4 [.ref q0, .ref (u5 0), .ref (u5 1), .ref (u5 2), .ref (u5 3), .ref (u5 4), .int 0, .int 0]), ((u5 0), zA cI 30), ((u5 1), zA cI 30), ((u5 2), zA cI 30), ((u5 3), zA cI 30), ((u5 4), zA cI 30), (q6, zO 0 [.ref q0, .ref (u7 0), .ref (u7 1), .ref (u7 2), .ref (u7 3), .ref (u7 4), .ref (u7 5), .int 0, .int 0]), ((u7 0), zA cI 30), ((u7 1), zA cZ 30), ((u7 2), zA cI 30), ((u7 3), zA cI 5), ((u7 4), zA cZ 30), ((u7 5), zA cI 30)] H := hP
  have hD : va_D A [(a0, zO 5 [.ref q0, .ref q2, .ref q4, .null, .null]), (q0, zO 2 [.ref (u1 0), .ref (u1 1), .ref (u1 2), .ref (u1 3), .ref (u1 4), .ref (u1 5), .int 0, .int 0, .int 0]), ((u1 0), zA cI 200), ((u1 1), zA cI 200), ((u1 2), zA cI 200), ((u1 3), zA cZ 100), ((u1 4), zA cI 30), ((u1 5), zA cI 30), (q2, zO 1 [.ref q0, .ref (u3 0), .ref (u3 1), .ref (u3 2), .int 0]), ((u3 0), zA cI 200), ((u3 1), zA cI 200), ((u3 2), zA cI 200), (q4, zO 4 [.ref q0, .ref (u5 0), .ref (u5 1), .ref (u5 2), .ref (u5 3), .ref (u5 4), .int 0, .int 0]), ((u5 0), zA cI 30), ((u5 1), zA cI 30), ((u5 2), zA cI 30), ((u5 3), zA cI 30), ((u5 4), zA cI 30), (q6, zO 0 [.ref q0, .ref (u7 0), .ref (u7 1), .ref (u7 2), .ref (u7 3), .ref (u7 4), .ref (u7 5), .int 0, .int 0]), ((u7 0), zA cI 30), ((u7 1), zA cZ 30), ((u7 2), zA cI 30), ((u7 3), zA cI 5), ((u7 4), zA cZ 30), ((u7 5), zA cI 30)] := hD
  refine W.widen (k := 24) (n := 1696) (by omega) (by omega) ?_
  refine va_putF (D := D) (ci := 5) (v := .ref q6) (ty := tyX5 3) (C := RX5) (T := TX5) (N := 5) hx hb hts inlX5 tyX5 tyX5_ok nmX5 hown hK hP hD hS 0 rfl rfl 3 (by decide) (hts (Cond.fieldLink RX5 35 "PlaneColours" "colouring" "LPlaneColours$Colouring;") (by decide +kernel)) (fun _ h9 => h9) rfl hin rfl (by decide +kernel) rfl rfl (Nat.le_of_ble_eq_true rfl) dX5_init_57 (fun H locs hP hD hS => ?_)
  have hP : va_P D vwCl [(a0, zO 5 [.ref q0, .ref q2, .ref q4, .ref q6, .null]), (q0, zO 2 [.ref (u1 0), .ref (u1 1), .ref (u1 2), .ref (u1 3), .ref (u1 4), .ref (u1 5), .int 0, .int 0, .int 0]), ((u1 0), zA cI 200), ((u1 1), zA cI 200), ((u1 2), zA cI 200), ((u1 3), zA cZ 100), ((u1 4), zA cI 30), ((u1 5), zA cI 30), (q2, zO 1 [.ref q0, .ref (u3 0), .ref (u3 1), .ref (u3 2), .int 0]), ((u3 0), zA cI 200), ((u3 1), zA cI 200), ((u3 2), zA cI 200), (q4, zO 4 [.ref q0, .ref (u5 0), .ref (u5 1), .ref (u5 2), .ref (u5 3), .ref (u5 4), .int 0, .int 0]), ((u5 0), zA cI 30), ((u5 1), zA cI 30), ((u5 2), zA cI 30), ((u5 3), zA cI 30), ((u5 4), zA cI 30), (q6, zO 0 [.ref q0, .ref (u7 0), .ref (u7 1), .ref (u7 2), .ref (u7 3), .ref (u7 4), .ref (u7 5), .int 0, .int 0]), ((u7 0), zA cI 30), ((u7 1), zA cZ 30), ((u7 2), zA cI 30), ((u7 3), zA cI 5), ((u7 4), zA cZ 30), ((u7 5), zA cI 30)] H := hP
  have hD : va_D A [(a0, zO 5 [.ref q0, .ref q2, .ref q4, .ref q6, .null]), (q0, zO 2 [.ref (u1 0), .ref (u1 1), .ref (u1 2), .ref (u1 3), .ref (u1 4), .ref (u1 5), .int 0, .int 0, .int 0]), ((u1 0), zA cI 200), ((u1 1), zA cI 200), ((u1 2), zA cI 200), ((u1 3), zA cZ 100), ((u1 4), zA cI 30), ((u1 5), zA cI 30), (q2, zO 1 [.ref q0, .ref (u3 0), .ref (u3 1), .ref (u3 2), .int 0]), ((u3 0), zA cI 200), ((u3 1), zA cI 200), ((u3 2), zA cI 200), (q4, zO 4 [.ref q0, .ref (u5 0), .ref (u5 1), .ref (u5 2), .ref (u5 3), .ref (u5 4), .int 0, .int 0]), ((u5 0), zA cI 30), ((u5 1), zA cI 30), ((u5 2), zA cI 30), ((u5 3), zA cI 30), ((u5 4), zA cI 30), (q6, zO 0 [.ref q0, .ref (u7 0), .ref (u7 1), .ref (u7 2), .ref (u7 3), .ref (u7 4), .ref (u7 5), .int 0, .int 0]), ((u7 0), zA cI 30), ((u7 1), zA cZ 30), ((u7 2), zA cI 30), ((u7 3), zA cI 5), ((u7 4), zA cZ 30), ((u7 5), zA cI 30)] := hD
  refine lv_aload_n hx hb dX5_init_60 rfl (lv_at hl 0 rfl) ?_
  refine va_new (ci := 3) (fs := [.null, .null, .null, .null, .null, .null, .null, .int 0, .int 0, .int 0, .int 0]) (C := RX3) (T := TX3) (N := 11) hx hb hts inlX3 tyX3 tyX3_ok hown (hts (Cond.classLink RX5 39 RX3) (by decide +kernel)) (hts (Cond.instantiable RX3 11) (by decide +kernel)) (hts (Cond.initialized RX3) (by decide +kernel)) hK hP hD hS hA rfl fsX3 (Nat.le_of_ble_eq_true rfl) (Nat.le_of_ble_eq_true rfl) dX5_init_61 (fun q8 H hP hD hS => ?_)
  have hP : va_P D vwCl [(a0, zO 5 [.ref q0, .ref q2, .ref q4, .ref q6, .null]), (q0, zO 2 [.ref (u1 0), .ref (u1 1), .ref (u1 2), .ref (u1 3), .ref (u1 4), .ref (u1 5), .int 0, .int 0, .int 0]), ((u1 0), zA cI 200), ((u1 1), zA cI 200), ((u1 2), zA cI 200), ((u1 3), zA cZ 100), ((u1 4), zA cI 30), ((u1 5), zA cI 30), (q2, zO 1 [.ref q0, .ref (u3 0), .ref (u3 1), .ref (u3 2), .int 0]), ((u3 0), zA cI 200), ((u3 1), zA cI 200), ((u3 2), zA cI 200), (q4, zO 4 [.ref q0, .ref (u5 0), .ref (u5 1), .ref (u5 2), .ref (u5 3), .ref (u5 4), .int 0, .int 0]), ((u5 0), zA cI 30), ((u5 1), zA cI 30), ((u5 2), zA cI 30), ((u5 3), zA cI 30), ((u5 4), zA cI 30), (q6, zO 0 [.ref q0, .ref (u7 0), .ref (u7 1), .ref (u7 2), .ref (u7 3), .ref (u7 4), .ref (u7 5), .int 0, .int 0]), ((u7 0), zA cI 30), ((u7 1), zA cZ 30), ((u7 2), zA cI 30), ((u7 3), zA cI 5), ((u7 4), zA cZ 30), ((u7 5), zA cI 30), (q8, zO 3 [.null, .null, .null, .null, .null, .null, .null, .int 0, .int 0, .int 0, .int 0])] H := hP
  have hD : va_D A [(a0, zO 5 [.ref q0, .ref q2, .ref q4, .ref q6, .null]), (q0, zO 2 [.ref (u1 0), .ref (u1 1), .ref (u1 2), .ref (u1 3), .ref (u1 4), .ref (u1 5), .int 0, .int 0, .int 0]), ((u1 0), zA cI 200), ((u1 1), zA cI 200), ((u1 2), zA cI 200), ((u1 3), zA cZ 100), ((u1 4), zA cI 30), ((u1 5), zA cI 30), (q2, zO 1 [.ref q0, .ref (u3 0), .ref (u3 1), .ref (u3 2), .int 0]), ((u3 0), zA cI 200), ((u3 1), zA cI 200), ((u3 2), zA cI 200), (q4, zO 4 [.ref q0, .ref (u5 0), .ref (u5 1), .ref (u5 2), .ref (u5 3), .ref (u5 4), .int 0, .int 0]), ((u5 0), zA cI 30), ((u5 1), zA cI 30), ((u5 2), zA cI 30), ((u5 3), zA cI 30), ((u5 4), zA cI 30), (q6, zO 0 [.ref q0, .ref (u7 0), .ref (u7 1), .ref (u7 2), .ref (u7 3), .ref (u7 4), .ref (u7 5), .int 0, .int 0]), ((u7 0), zA cI 30), ((u7 1), zA cZ 30), ((u7 2), zA cI 30), ((u7 3), zA cI 5), ((u7 4), zA cZ 30), ((u7 5), zA cI 30), (q8, zO 3 [.null, .null, .null, .null, .null, .null, .null, .int 0, .int 0, .int 0, .int 0])] := hD
  refine W.widen (k := 25) (n := 1707) (by omega) (by omega) ?_
  refine lv_dup hx hb dX5_init_64 rfl ?_
  refine lv_aload_n hx hb dX5_init_65 rfl (lv_at hl 0 rfl) ?_
  refine va_get (C := RX5) (T := TX5) (N := 5) (v := .ref q0) hx hb hts inlX5 hown hK hP 0 rfl rfl 0 (by decide) (hts (Cond.fieldLink RX5 12 "PlaneColours" "graph" "LPlaneColours$Graph;") (by decide +kernel)) (fun _ h9 => h9) rfl dX5_init_66 ?_
  refine lv_aload_n hx hb dX5_init_69 rfl (lv_at hl 0 rfl) ?_
  refine va_get (C := RX5) (T := TX5) (N := 5) (v := .ref q2) hx hb hts inlX5 hown hK hP 0 rfl rfl 1 (by decide) (hts (Cond.fieldLink RX5 21 "PlaneColours" "faceRows" "LPlaneColours$FaceRows;") (by decide +kernel)) (fun _ h9 => h9) rfl dX5_init_70 ?_
  refine lv_aload_n hx hb dX5_init_73 rfl (lv_at hl 0 rfl) ?_
  refine va_get (C := RX5) (T := TX5) (N := 5) (v := .ref q4) hx hb hts inlX5 hown hK hP 0 rfl rfl 2 (by decide) (hts (Cond.fieldLink RX5 28 "PlaneColours" "tree" "LPlaneColours$Tree;") (by decide +kernel)) (fun _ h9 => h9) rfl dX5_init_74 ?_
  refine z_call (ci := 3) (fs0 := [.null, .null, .null, .null, .null, .null, .null, .int 0, .int 0, .int 0, .int 0]) (wr := [(a0, zO 5 [.ref q0, .ref q2, .ref q4, .ref q6, .null]), (q0, zO 2 [.ref (u1 0), .ref (u1 1), .ref (u1 2), .ref (u1 3), .ref (u1 4), .ref (u1 5), .int 0, .int 0, .int 0]), ((u1 0), zA cI 200), ((u1 1), zA cI 200), ((u1 2), zA cI 200), ((u1 3), zA cZ 100), ((u1 4), zA cI 30), ((u1 5), zA cI 30), (q2, zO 1 [.ref q0, .ref (u3 0), .ref (u3 1), .ref (u3 2), .int 0]), ((u3 0), zA cI 200), ((u3 1), zA cI 200), ((u3 2), zA cI 200), (q4, zO 4 [.ref q0, .ref (u5 0), .ref (u5 1), .ref (u5 2), .ref (u5 3), .ref (u5 4), .int 0, .int 0]), ((u5 0), zA cI 30), ((u5 1), zA cI 30), ((u5 2), zA cI 30), ((u5 3), zA cI 30), ((u5 4), zA cI 30), (q6, zO 0 [.ref q0, .ref (u7 0), .ref (u7 1), .ref (u7 2), .ref (u7 3), .ref (u7 4), .ref (u7 5), .int 0, .int 0]), ((u7 0), zA cI 30), ((u7 1), zA cZ 30), ((u7 2), zA cI 30), ((u7 3), zA cI 5), ((u7 4), zA cZ 30), ((u7 5), zA cI 30)]) (gs := [q0, q2, q4]) (rest := [.ref q8, .ref a0]) (cells := 25) (slots := 1707) hx hb hml hown hts hK (cc_X3 l q0 q2 q4) zok_X3 (Or.inl (hts (Cond.methodLink RX5 41 yX3_init) (by decide +kernel))) (fun w hw => by cases hw) (fun U _ w hw => by cases hw) (Nat.le_of_ble_eq_true rfl) (Nat.le_of_ble_eq_true rfl) hP hD hS hA rfl (Nat.le_of_ble_eq_true rfl) hl.1 dX5_init_77 (Nat.le_of_ble_eq_true rfl) (Nat.le_of_ble_eq_true rfl) (fun u9 H locs hP hD hS => ?_)
  have hP : va_P D vwCl [(a0, zO 5 [.ref q0, .ref q2, .ref q4, .ref q6, .null]), (q0, zO 2 [.ref (u1 0), .ref (u1 1), .ref (u1 2), .ref (u1 3), .ref (u1 4), .ref (u1 5), .int 0, .int 0, .int 0]), ((u1 0), zA cI 200), ((u1 1), zA cI 200), ((u1 2), zA cI 200), ((u1 3), zA cZ 100), ((u1 4), zA cI 30), ((u1 5), zA cI 30), (q2, zO 1 [.ref q0, .ref (u3 0), .ref (u3 1), .ref (u3 2), .int 0]), ((u3 0), zA cI 200), ((u3 1), zA cI 200), ((u3 2), zA cI 200), (q4, zO 4 [.ref q0, .ref (u5 0), .ref (u5 1), .ref (u5 2), .ref (u5 3), .ref (u5 4), .int 0, .int 0]), ((u5 0), zA cI 30), ((u5 1), zA cI 30), ((u5 2), zA cI 30), ((u5 3), zA cI 30), ((u5 4), zA cI 30), (q6, zO 0 [.ref q0, .ref (u7 0), .ref (u7 1), .ref (u7 2), .ref (u7 3), .ref (u7 4), .ref (u7 5), .int 0, .int 0]), ((u7 0), zA cI 30), ((u7 1), zA cZ 30), ((u7 2), zA cI 30), ((u7 3), zA cI 5), ((u7 4), zA cZ 30), ((u7 5), zA cI 30), (q8, zO 3 [.ref q0, .ref q2, .ref q4, .ref (u9 0), .ref (u9 1), .ref (u9 2), .ref (u9 3), .int 0, .int 0, .int 0, .int 0]), ((u9 0), zA cZ 30), ((u9 1), zA cZ 100), ((u9 2), zA cZ 200), ((u9 3), zA cI 200)] H := hP
  have hD : va_D A [(a0, zO 5 [.ref q0, .ref q2, .ref q4, .ref q6, .null]), (q0, zO 2 [.ref (u1 0), .ref (u1 1), .ref (u1 2), .ref (u1 3), .ref (u1 4), .ref (u1 5), .int 0, .int 0, .int 0]), ((u1 0), zA cI 200), ((u1 1), zA cI 200), ((u1 2), zA cI 200), ((u1 3), zA cZ 100), ((u1 4), zA cI 30), ((u1 5), zA cI 30), (q2, zO 1 [.ref q0, .ref (u3 0), .ref (u3 1), .ref (u3 2), .int 0]), ((u3 0), zA cI 200), ((u3 1), zA cI 200), ((u3 2), zA cI 200), (q4, zO 4 [.ref q0, .ref (u5 0), .ref (u5 1), .ref (u5 2), .ref (u5 3), .ref (u5 4), .int 0, .int 0]), ((u5 0), zA cI 30), ((u5 1), zA cI 30), ((u5 2), zA cI 30), ((u5 3), zA cI 30), ((u5 4), zA cI 30), (q6, zO 0 [.ref q0, .ref (u7 0), .ref (u7 1), .ref (u7 2), .ref (u7 3), .ref (u7 4), .ref (u7 5), .int 0, .int 0]), ((u7 0), zA cI 30), ((u7 1), zA cZ 30), ((u7 2), zA cI 30), ((u7 3), zA cI 5), ((u7 4), zA cZ 30), ((u7 5), zA cI 30), (q8, zO 3 [.ref q0, .ref q2, .ref q4, .ref (u9 0), .ref (u9 1), .ref (u9 2), .ref (u9 3), .int 0, .int 0, .int 0, .int 0]), ((u9 0), zA cZ 30), ((u9 1), zA cZ 100), ((u9 2), zA cZ 200), ((u9 3), zA cI 200)] := hD
  refine W.widen (k := 29) (n := 2237) (by omega) (by omega) ?_
  refine va_putF (D := D) (ci := 5) (v := .ref q8) (ty := tyX5 4) (C := RX5) (T := TX5) (N := 5) hx hb hts inlX5 tyX5 tyX5_ok nmX5 hown hK hP hD hS 0 rfl rfl 4 (by decide) (hts (Cond.fieldLink RX5 44 "PlaneColours" "parting" "LPlaneColours$Parting;") (by decide +kernel)) (fun _ h9 => h9) rfl hin rfl (by decide +kernel) rfl rfl (Nat.le_of_ble_eq_true rfl) dX5_init_80 (fun H locs hP hD hS => ?_)
  have hP : va_P D vwCl [(a0, zO 5 [.ref q0, .ref q2, .ref q4, .ref q6, .ref q8]), (q0, zO 2 [.ref (u1 0), .ref (u1 1), .ref (u1 2), .ref (u1 3), .ref (u1 4), .ref (u1 5), .int 0, .int 0, .int 0]), ((u1 0), zA cI 200), ((u1 1), zA cI 200), ((u1 2), zA cI 200), ((u1 3), zA cZ 100), ((u1 4), zA cI 30), ((u1 5), zA cI 30), (q2, zO 1 [.ref q0, .ref (u3 0), .ref (u3 1), .ref (u3 2), .int 0]), ((u3 0), zA cI 200), ((u3 1), zA cI 200), ((u3 2), zA cI 200), (q4, zO 4 [.ref q0, .ref (u5 0), .ref (u5 1), .ref (u5 2), .ref (u5 3), .ref (u5 4), .int 0, .int 0]), ((u5 0), zA cI 30), ((u5 1), zA cI 30), ((u5 2), zA cI 30), ((u5 3), zA cI 30), ((u5 4), zA cI 30), (q6, zO 0 [.ref q0, .ref (u7 0), .ref (u7 1), .ref (u7 2), .ref (u7 3), .ref (u7 4), .ref (u7 5), .int 0, .int 0]), ((u7 0), zA cI 30), ((u7 1), zA cZ 30), ((u7 2), zA cI 30), ((u7 3), zA cI 5), ((u7 4), zA cZ 30), ((u7 5), zA cI 30), (q8, zO 3 [.ref q0, .ref q2, .ref q4, .ref (u9 0), .ref (u9 1), .ref (u9 2), .ref (u9 3), .int 0, .int 0, .int 0, .int 0]), ((u9 0), zA cZ 30), ((u9 1), zA cZ 100), ((u9 2), zA cZ 200), ((u9 3), zA cI 200)] H := hP
  have hD : va_D A [(a0, zO 5 [.ref q0, .ref q2, .ref q4, .ref q6, .ref q8]), (q0, zO 2 [.ref (u1 0), .ref (u1 1), .ref (u1 2), .ref (u1 3), .ref (u1 4), .ref (u1 5), .int 0, .int 0, .int 0]), ((u1 0), zA cI 200), ((u1 1), zA cI 200), ((u1 2), zA cI 200), ((u1 3), zA cZ 100), ((u1 4), zA cI 30), ((u1 5), zA cI 30), (q2, zO 1 [.ref q0, .ref (u3 0), .ref (u3 1), .ref (u3 2), .int 0]), ((u3 0), zA cI 200), ((u3 1), zA cI 200), ((u3 2), zA cI 200), (q4, zO 4 [.ref q0, .ref (u5 0), .ref (u5 1), .ref (u5 2), .ref (u5 3), .ref (u5 4), .int 0, .int 0]), ((u5 0), zA cI 30), ((u5 1), zA cI 30), ((u5 2), zA cI 30), ((u5 3), zA cI 30), ((u5 4), zA cI 30), (q6, zO 0 [.ref q0, .ref (u7 0), .ref (u7 1), .ref (u7 2), .ref (u7 3), .ref (u7 4), .ref (u7 5), .int 0, .int 0]), ((u7 0), zA cI 30), ((u7 1), zA cZ 30), ((u7 2), zA cI 30), ((u7 3), zA cI 5), ((u7 4), zA cZ 30), ((u7 5), zA cI 30), (q8, zO 3 [.ref q0, .ref q2, .ref q4, .ref (u9 0), .ref (u9 1), .ref (u9 2), .ref (u9 3), .int 0, .int 0, .int 0, .int 0]), ((u9 0), zA cZ 30), ((u9 1), zA cZ 100), ((u9 2), zA cZ 200), ((u9 3), zA cI 200)] := hD
  exact W.vret hx hb hr (fun t ht hW => ⟨⟨(fun k => ([q0, (u1 0), (u1 1), (u1 2), (u1 3), (u1 4), (u1 5), q2, (u3 0), (u3 1), (u3 2), q4, (u5 0), (u5 1), (u5 2), (u5 3), (u5 4), q6, (u7 0), (u7 1), (u7 2), (u7 3), (u7 4), (u7 5), q8, (u9 0), (u9 1), (u9 2), (u9 3)] : List Nat).getD k 0), rfl, trivial, by rw [ht]; exact hP, va_K.moved hW.alike hK, hD⟩, hS.F ht⟩) hS.2.2 dX5_init_83 hlocks

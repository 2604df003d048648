/-! the law's own methods: a judgement over the same world, with any end, and a table of its own -/
def EVn : List (String × String) := [(xIA, xIO), (xUO, xIO), (xUO, xIA), (xIS, xIO)]
def NC (U : State) : Prop := ∀ q ∈ EVn, va_Nc q.1 q.2 U
theorem NC.moved {u U : State} (hvm : u.vm.Alike U.vm) (h : NC u) : NC U := fun q hq => va_Nc.moved hvm (h q hq)
/-- program, launch, env, room, start, method, args, below, meth, code; tables' map, addresses, array classes; what may change; the end; slots ahead of six a cell -/
abbrev GxT : Type := Program × Launch × Env × Room × State × MethodId × Array Value × List Frame × Method × Code × va_G × (Nat → Nat) × ClassId × ClassId × ClassId × (Nat → Prop) × (State → Prop) × Nat
def Wg (X : GxT) (pc : Nat) (L : List (Nat × Vv)) (st : List Vv) (h : Hp) (k : Nat) : Prop := match X with
  | (p, l, e, R, s, m, args, below, meth, c, D, ad, cI, cZ, cJ, A, Q, sb) =>
    ∀ (H : Heap) (locs : List Loc) (ls : Array Slot), va_P D vwCl (wC cI cZ cJ ad h) H → va_D A (wC cI cZ cJ ad h) → va_S A s.heap H locs → RH h → (∀ q ∈ L, okL q.2) → (∀ v ∈ st, okV v) →
      lv_has ls c.maxLocals (L.map (fun q => (q.1, cV ad q.2))) → W p l e R s m args below meth c H locs k (6 * k + sb) Q (F0 m pc ls (st.map (cV ad)))
/-- the same where an object of the class E is being thrown at pc -/
def Wx (X : GxT) (pc : Nat) (L : List (Nat × Vv)) (h : Hp) (k : Nat) (E : String) : Prop := match X with
  | (p, l, e, R, s, m, args, below, meth, c, D, ad, cI, cZ, cJ, A, Q, sb) =>
    ∀ (H : Heap) (locs : List Loc) (ls : Array Slot) (rest : List Value) (ce : Cell) (q : Addr), va_P D vwCl (wC cI cZ cJ ad h) H → va_D A (wC cI cZ cJ ad h) → va_S A s.heap H locs → RH h → (∀ q ∈ L, okL q.2) →
      lv_has ls c.maxLocals (L.map (fun q => (q.1, cV ad q.2))) → H[q]? = some ce → ce.vm = .none → s.vm.findClass E = some ce.cls → vx_W p l e R s m args below meth c H locs k (6 * k + sb) Q (F0 m pc ls rest) q
def GX (X : GxT) (cc : ByteArray) (f n nL K : Nat) : Prop := match X with
  | (p, _, _, R, s, m, args, _, _, c, D, _, cI, cZ, cJ, A, _, sb) =>
    p.tables.exec = Jvm.exec ∧ c.code = cc ∧ s.vm.findClass RL = some m.cls ∧ (∀ w ∈ wsL_law, w.before args s = true) ∧ va_K D vwCl (tyL cI cZ cJ) s ∧ (∀ q, s.heap.size ≤ q → A q) ∧ f ≤ R.frames ∧ n ≤ R.locals ∧ K ≤ R.cells ∧ 6 * K + sb ≤ R.slots ∧ EV A s s.heap ∧ c.maxLocals = nL ∧ NC s
def Gl (X : GxT) : Launch := X.2.1
def GT (X : GxT) (hh : List (Nat × Nat × Nat × Nat)) : Prop := match X with
  | (_, _, _, _, _, _, _, _, _, c, _, _, _, _, _, _, _, _) => c.exceptionTable.toList = tableOf hh
/-- the script: cell 48 of the addresses, outside the world -/
def GS (X : GxT) (N : Nat) (xs : Nat → Int32) : Prop := match X with
  | (_, _, _, _, s, _, _, _, _, _, _, ad, _, _, _, A, _, _) => va_X (ad 48) N xs s s.heap ∧ ad 48 < s.heap.size ∧ ¬ A (ad 48)
theorem i64_of (x : Int) (h : InR x) : (i32 x).toInt64 = i64 x := by
  rw [← Int64.toInt_inj, Int32.toInt_toInt64, i32_toInt h]
  unfold i64
  rw [Int64.toInt_ofInt_of_le (by have := h.1; omega) (by have := h.2; omega)]
theorem i64_toInt {x : Int} (h : InR x) : (i64 x).toInt = x := Int64.toInt_ofInt_of_le (by have := h.1; omega) (by have := h.2; omega)
theorem i64_eq {x y : Int} (hx : InR x) (hy : InR y) : i64 x = i64 y ↔ x = y := by rw [← Int64.toInt_inj, i64_toInt hx, i64_toInt hy]
theorem eC_j {cI cZ cJ : ClassId} {ad : Nat → Nat} {h : Hp} {k n : Nat} : eC cI cZ cJ ad h k (.inl (2, n)) = .inl (cJ, n, .inr (.inl (fun j => i64 (h k j)))) := rfl
theorem updL_hup {h : Hp} {k : Nat} {i x : Int} (h0 : 0 ≤ i) : vp_updL (fun j : Nat => i64 (h k (j : Int))) i.toNat (i64 x) = fun j : Nat => i64 (hup h k i x k (j : Int)) := by
  funext j
  unfold vp_updL hup
  by_cases q : j = i.toNat
  · rw [if_pos q, if_pos ⟨rfl, by omega⟩]
  · rw [if_neg q, if_neg (fun z => q (by omega))]
theorem lvDr {ls : Array Slot} {nn i : Nat} {ad : Nat → Nat} {L : List (Nat × Vv)} {v : Value} (hL : ∀ q ∈ L, okL q.2) (hi : ∀ q ∈ L, q.1 ≠ i) (h : lv_has ls nn ((i, v) :: (L.map (fun q => (q.1, cV ad q.2))).filter (fun q => !(q.1 == i) && !(q.1 + 1 == i && q.2.category == 2)))) : lv_has ls nn (L.map (fun q => (q.1, cV ad q.2))) := by
  refine ⟨h.1, h.2.1, fun q hq => h.2.2 q (List.mem_cons_of_mem _ (List.mem_filter.mpr ⟨hq, ?_⟩))⟩
  obtain ⟨w, hw, rfl⟩ := List.mem_map.mp hq
  have h1 := hi w hw
  have h3 := hL w hw
  obtain ⟨i', x | x | x⟩ := w
  · have : i' ≠ i := h1
    simp [cV, Value.category, this]
  · exact absurd h3 (by exact id)
  · have : i' ≠ i := h1
    simp [cV, Value.category, this]
section WgRows
variable {X : GxT} {cc : ByteArray} {f n nL K pc k : Nat} {L : List (Nat × Vv)} {st : List Vv} {h : Hp}
/-- the contract of a static method of the law with a table of its own: it returns an int, makes at most one cell of six slots -/
def CtH (l : Launch) (y : MethodName) (cc : ByteArray) (nL : Nat) (hh : List (Nat × Nat × Nat × Nat)) (f n : Nat) (av : List Vv) (h0 : Hp) (M : List Nat) (post : Int → Hp → Prop) : Prop :=
  ∀ (D : va_G) (cI cZ cJ : ClassId) (ad : Nat → Nat) (sz : Nat), vx_Met l y (.codeWith y cc nL (some .int) hh :: wsL_law) { frames := f, cells := 1, slots := 6, locals := n }
    (va_Pc (av.map (cV ad)) (fun U => U.heap.size = sz ∧ RH h0 ∧ (∀ v ∈ av, okL v) ∧ bW D cI cZ cJ ad (fun _ => True) h0 U ∧ EV (va_A (wC cI cZ cJ ad h0) sz) U U.heap ∧ NC U))
    (QcX D cI cZ cJ ad (va_A (wC cI cZ cJ ad h0) sz) h0 M post (some .int)) (XcX D cI cZ cJ ad (va_A (wC cI cZ cJ ad h0) sz) h0 (fun _ => False)) 1 6 (va_A (wC cI cZ cJ ad h0) sz)
def StatOk (y : MethodName) (ccY : ByteArray) (nLY : Nat) (hh : List (Nat × Nat × Nat × Nat)) (idx na : Nat) : Prop :=
  (y.cls ≠ "java/lang/invoke/MethodHandle" ∧ y.cls ≠ "java/lang/invoke/VarHandle" ∧ (parseMethodDescriptor y.desc).map (fun d => d.parameters.length) = some na) ∧ Cond.methodLink RL idx y ∈ wsL_law ∧ Cond.static y ∈ wsL_law ∧ Cond.initialized y.cls ∈ wsL_law ∧ Cond.codeWith y ccY nLY (some .int) hh ∈ wsL_law
theorem g_iconst {z : Int} (C : GX X cc f n nL K) (d : decode cc pc = .ok (.iconst z, 1)) (o : InR z) (kk : Wg X (pc + 1) L (vi z :: st) h k) : Wg X pc L st h k := by
  obtain ⟨p, l, e, R, s, m, args, below, meth, c, D, ad, cI, cZ, cJ, A, Q, sb⟩ := X
  intro H locs ls a1 a2 a3 a4 a6 a7 a8
  obtain ⟨hx, hb, -⟩ := C
  exact lv_iconst (v := i32 z) hx hb d rfl (kk H locs ls a1 a2 a3 a4 a6 (okS1 o a7) a8)
theorem g_bipush {z : Int} (C : GX X cc f n nL K) (d : decode cc pc = .ok (.bipush z, 2)) (o : InR z) (hz : (Int8.ofInt z).toInt32 = i32 z) (kk : Wg X (pc + 2) L (vi z :: st) h k) : Wg X pc L st h k := by
  obtain ⟨p, l, e, R, s, m, args, below, meth, c, D, ad, cI, cZ, cJ, A, Q, sb⟩ := X
  intro H locs ls a1 a2 a3 a4 a6 a7 a8
  obtain ⟨hx, hb, -⟩ := C
  exact lv_bipush (v := i32 z) hx hb d hz (kk H locs ls a1 a2 a3 a4 a6 (okS1 o a7) a8)
theorem g_iload_n {q : Fin 4} {x : Int} (j : Nat) (C : GX X cc f n nL K) (d : decode cc pc = .ok (.iload_n q, 1)) (hj : L[j]? = some ((q : Nat), vi x)) (kk : Wg X (pc + 1) L (vi x :: st) h k) : Wg X pc L st h k := by
  obtain ⟨p, l, e, R, s, m, args, below, meth, c, D, ad, cI, cZ, cJ, A, Q, sb⟩ := X
  intro H locs ls a1 a2 a3 a4 a6 a7 a8
  obtain ⟨hx, hb, -⟩ := C
  exact lv_iload_n hx hb d rfl (lvL a8 hj) (kk H locs ls a1 a2 a3 a4 a6 (okS1 (okLV (a6 _ (List.mem_of_getElem? hj))) a7) a8)
theorem g_iload {i : Nat} {x : Int} (j : Nat) (C : GX X cc f n nL K) (d : decode cc pc = .ok (.iload i, 2)) (hj : L[j]? = some (i, vi x)) (kk : Wg X (pc + 2) L (vi x :: st) h k) : Wg X pc L st h k := by
  obtain ⟨p, l, e, R, s, m, args, below, meth, c, D, ad, cI, cZ, cJ, A, Q, sb⟩ := X
  intro H locs ls a1 a2 a3 a4 a6 a7 a8
  obtain ⟨hx, hb, -⟩ := C
  exact lv_iload hx hb d (lvL a8 hj) (kk H locs ls a1 a2 a3 a4 a6 (okS1 (okLV (a6 _ (List.mem_of_getElem? hj))) a7) a8)
theorem g_aload_n {q : Fin 4} {x : Nat} (j : Nat) (C : GX X cc f n nL K) (d : decode cc pc = .ok (.aload_n q, 1)) (hj : L[j]? = some ((q : Nat), vr x)) (kk : Wg X (pc + 1) L (vr x :: st) h k) : Wg X pc L st h k := by
  obtain ⟨p, l, e, R, s, m, args, below, meth, c, D, ad, cI, cZ, cJ, A, Q, sb⟩ := X
  intro H locs ls a1 a2 a3 a4 a6 a7 a8
  obtain ⟨hx, hb, -⟩ := C
  exact lv_aload_n hx hb d rfl (lvL a8 hj) (kk H locs ls a1 a2 a3 a4 a6 (okS1 trivial a7) a8)
theorem g_aload {i x : Nat} (j : Nat) (C : GX X cc f n nL K) (d : decode cc pc = .ok (.aload i, 2)) (hj : L[j]? = some (i, vr x)) (kk : Wg X (pc + 2) L (vr x :: st) h k) : Wg X pc L st h k := by
  obtain ⟨p, l, e, R, s, m, args, below, meth, c, D, ad, cI, cZ, cJ, A, Q, sb⟩ := X
  intro H locs ls a1 a2 a3 a4 a6 a7 a8
  obtain ⟨hx, hb, -⟩ := C
  exact lv_aload hx hb d (lvL a8 hj) (kk H locs ls a1 a2 a3 a4 a6 (okS1 trivial a7) a8)
theorem g_istore {i : Nat} {x : Int} {L' : List (Nat × Vv)} (C : GX X cc f n nL K) (d : decode cc pc = .ok (.istore i, 2)) (hn : i < nL) (hl : (i, vi x) :: L.filter (fun w => !(w.1 == i)) = L') (kk : Wg X (pc + 2) L' st h k) : Wg X pc L (vi x :: st) h k := by
  obtain ⟨p, l, e, R, s, m, args, below, meth, c, D, ad, cI, cZ, cJ, A, Q, sb⟩ := X
  intro H locs ls a1 a2 a3 a4 a6 a7 a8
  obtain ⟨hx, hb, -, -, -, -, -, -, -, -, -, hml, -⟩ := C
  exact lv_istore (x := i32 x) hx hb d a8 (by rw [hml]; exact hn) rfl (fun ls' h' => kk H locs ls' a1 a2 a3 a4 (okLst (v := vi x) a6 (show InR x from okH a7) hl) (okT a7) (lvSt (v := vi x) a6 h' hl))
theorem g_astore_n {q : Fin 4} {x : Nat} {L' : List (Nat × Vv)} (C : GX X cc f n nL K) (d : decode cc pc = .ok (.astore_n q, 1)) (hn : (q : Nat) < nL) (hl : ((q : Nat), vr x) :: L.filter (fun w => !(w.1 == (q : Nat))) = L') (kk : Wg X (pc + 1) L' st h k) : Wg X pc L (vr x :: st) h k := by
  obtain ⟨p, l, e, R, s, m, args, below, meth, c, D, ad, cI, cZ, cJ, A, Q, sb⟩ := X
  intro H locs ls a1 a2 a3 a4 a6 a7 a8
  obtain ⟨hx, hb, -, -, -, -, -, -, -, -, -, hml, -⟩ := C
  exact lv_astore_n (x := ad x) hx hb d rfl a8 (by rw [hml]; exact hn) rfl (fun ls' h' => kk H locs ls' a1 a2 a3 a4 (okLst (v := vr x) a6 trivial hl) (okT a7) (lvSt (v := vr x) a6 h' hl))
theorem g_iinc {i : Nat} {z x : Int} {L' : List (Nat × Vv)} (j : Nat) (C : GX X cc f n nL K) (d : decode cc pc = .ok (.iinc i z, 3)) (hj : L[j]? = some (i, vi x)) (hn : i < nL) (o : InR (x + z)) (hl : (i, vi (x + z)) :: L.filter (fun w => !(w.1 == i)) = L') (kk : Wg X (pc + 3) L' st h k) : Wg X pc L st h k := by
  obtain ⟨p, l, e, R, s, m, args, below, meth, c, D, ad, cI, cZ, cJ, A, Q, sb⟩ := X
  intro H locs ls a1 a2 a3 a4 a6 a7 a8
  obtain ⟨hx, hb, -, -, -, -, -, -, -, -, -, hml, -⟩ := C
  exact lv_iinc (k := j) (x := i32 x) (v := i32 (x + z)) hx hb d a8 (by rw [List.getElem?_map, hj]; rfl) (i32_add x z).symm (by rw [hml]; exact hn) rfl (fun ls' h' => kk H locs ls' a1 a2 a3 a4 (okLst (v := vi (x + z)) a6 o hl) a7 (lvSt (v := vi (x + z)) a6 h' hl))
theorem g_iadd {x y : Int} (C : GX X cc f n nL K) (d : decode cc pc = .ok (.iadd, 1)) (o : InR (x + y)) (kk : Wg X (pc + 1) L (vi (x + y) :: st) h k) : Wg X pc L (vi y :: vi x :: st) h k := by
  obtain ⟨p, l, e, R, s, m, args, below, meth, c, D, ad, cI, cZ, cJ, A, Q, sb⟩ := X
  intro H locs ls a1 a2 a3 a4 a6 a7 a8
  obtain ⟨hx, hb, -⟩ := C
  refine lv_iadd (x := i32 x) (y := i32 y) hx hb d ?_
  rw [← i32_add]
  exact kk H locs ls a1 a2 a3 a4 a6 (okS1 (v := vi (x + y)) o (okT (okT a7))) a8
theorem g_isub {x y : Int} (C : GX X cc f n nL K) (d : decode cc pc = .ok (.isub, 1)) (o : InR (x - y)) (kk : Wg X (pc + 1) L (vi (x - y) :: st) h k) : Wg X pc L (vi y :: vi x :: st) h k := by
  obtain ⟨p, l, e, R, s, m, args, below, meth, c, D, ad, cI, cZ, cJ, A, Q, sb⟩ := X
  intro H locs ls a1 a2 a3 a4 a6 a7 a8
  obtain ⟨hx, hb, -⟩ := C
  refine lv_isub (x := i32 x) (y := i32 y) hx hb d ?_
  rw [← i32_sub]
  exact kk H locs ls a1 a2 a3 a4 a6 (okS1 (v := vi (x - y)) o (okT (okT a7))) a8
theorem g_iand {x y : Int} (C : GX X cc f n nL K) (d : decode cc pc = .ok (.iand, 1)) (kk : Wg X (pc + 1) L (vi (jand x y) :: st) h k) : Wg X pc L (vi y :: vi x :: st) h k := by
  obtain ⟨p, l, e, R, s, m, args, below, meth, c, D, ad, cI, cZ, cJ, A, Q, sb⟩ := X
  intro H locs ls a1 a2 a3 a4 a6 a7 a8
  obtain ⟨hx, hb, -⟩ := C
  refine lv_iand (x := i32 x) (y := i32 y) hx hb d ?_
  rw [← bop_i (fun a b => a &&& b) x y]
  exact kk H locs ls a1 a2 a3 a4 a6 (okS1 (v := vi (jand x y)) (bop_R _ _ _) (okT (okT a7))) a8
theorem g_goto {off : Int} {tgt : Nat} (C : GX X cc f n nL K) (d : decode cc pc = .ok (.goto off, 3)) (ht : (pc : Int) + off = (tgt : Int)) (kk : Wg X tgt L st h k) : Wg X pc L st h k := by
  obtain ⟨p, l, e, R, s, m, args, below, meth, c, D, ad, cI, cZ, cJ, A, Q, sb⟩ := X
  intro H locs ls a1 a2 a3 a4 a6 a7 a8
  obtain ⟨hx, hb, -⟩ := C
  exact lv_goto hx hb d ht (kk H locs ls a1 a2 a3 a4 a6 a7 a8)
theorem g_icmp_gt {x y : Int} {off : Int} {tgt : Nat} (C : GX X cc f n nL K) (d : decode cc pc = .ok (.if_icmp .gt off, 3)) (ht : (pc : Int) + off = (tgt : Int)) (kt : y < x → Wg X tgt L st h k) (kf : ¬ y < x → Wg X (pc + 3) L st h k) : Wg X pc L (vi y :: vi x :: st) h k := by
  obtain ⟨p, l, e, R, s, m, args, below, meth, c, D, ad, cI, cZ, cJ, A, Q, sb⟩ := X
  intro H locs ls a1 a2 a3 a4 a6 a7 a8
  obtain ⟨hx, hb, -⟩ := C
  have hy : InR y := okH a7
  have hX : InR x := okH (okT a7)
  exact lv_icmp_gt (x := i32 x) (y := i32 y) hx hb d ht (fun q => kt ((i32_lt hy hX).mp q) H locs ls a1 a2 a3 a4 a6 (okT (okT a7)) a8) (fun q => kf (fun z => q ((i32_lt hy hX).mpr z)) H locs ls a1 a2 a3 a4 a6 (okT (okT a7)) a8)
theorem g_icmp_eq {x y : Int} {off : Int} {tgt : Nat} (C : GX X cc f n nL K) (d : decode cc pc = .ok (.if_icmp .eq off, 3)) (ht : (pc : Int) + off = (tgt : Int)) (hxy : x = y) (kt : Wg X tgt L st h k) : Wg X pc L (vi y :: vi x :: st) h k := by
  obtain ⟨p, l, e, R, s, m, args, below, meth, c, D, ad, cI, cZ, cJ, A, Q, sb⟩ := X
  intro H locs ls a1 a2 a3 a4 a6 a7 a8
  obtain ⟨hx, hb, -⟩ := C
  have hy : InR y := okH a7
  have hX : InR x := okH (okT a7)
  exact lv_icmp_eq (x := i32 x) (y := i32 y) hx hb d ht (fun q => kt H locs ls a1 a2 a3 a4 a6 (okT (okT a7)) a8) (fun q => absurd ((i32_eq hX hy).mpr hxy) q)
theorem g_if_eq {x : Int} {off : Int} {tgt : Nat} (C : GX X cc f n nL K) (d : decode cc pc = .ok (.ifCond .eq off, 3)) (ht : (pc : Int) + off = (tgt : Int)) (kt : x = 0 → Wg X tgt L st h k) (kf : ¬ x = 0 → Wg X (pc + 3) L st h k) : Wg X pc L (vi x :: st) h k := by
  obtain ⟨p, l, e, R, s, m, args, below, meth, c, D, ad, cI, cZ, cJ, A, Q, sb⟩ := X
  intro H locs ls a1 a2 a3 a4 a6 a7 a8
  obtain ⟨hx, hb, -⟩ := C
  have hX : InR x := okH a7
  exact lv_if_eq (x := i32 x) hx hb d ht (fun q => kt ((i32_eq hX inR_0).mp q) H locs ls a1 a2 a3 a4 a6 (okT a7) a8) (fun q => kf (fun z => q ((i32_eq hX inR_0).mpr z)) H locs ls a1 a2 a3 a4 a6 (okT a7) a8)
theorem g_if_ne {x : Int} {off : Int} {tgt : Nat} (C : GX X cc f n nL K) (d : decode cc pc = .ok (.ifCond .ne off, 3)) (ht : (pc : Int) + off = (tgt : Int)) (kt : ¬ x = 0 → Wg X tgt L st h k) (kf : x = 0 → Wg X (pc + 3) L st h k) : Wg X pc L (vi x :: st) h k := by
  obtain ⟨p, l, e, R, s, m, args, below, meth, c, D, ad, cI, cZ, cJ, A, Q, sb⟩ := X
  intro H locs ls a1 a2 a3 a4 a6 a7 a8
  obtain ⟨hx, hb, -⟩ := C
  have hX : InR x := okH a7
  exact lv_if_ne (x := i32 x) hx hb d ht (fun q => kt (fun z => q ((i32_eq hX inR_0).mpr z)) H locs ls a1 a2 a3 a4 a6 (okT a7) a8) (fun q => kf ((i32_eq hX inR_0).mp q) H locs ls a1 a2 a3 a4 a6 (okT a7) a8)
theorem g_i2l {x : Int} (C : GX X cc f n nL K) (d : decode cc pc = .ok (.i2l, 1)) (kk : Wg X (pc + 1) L (vl x :: st) h k) : Wg X pc L (vi x :: st) h k := by
  obtain ⟨p, l, e, R, s, m, args, below, meth, c, D, ad, cI, cZ, cJ, A, Q, sb⟩ := X
  intro H locs ls a1 a2 a3 a4 a6 a7 a8
  obtain ⟨hx, hb, -⟩ := C
  have hX : InR x := okH a7
  exact lv_i2l (x := i32 x) (v := i64 x) hx hb d (i64_of x hX) (kk H locs ls a1 a2 a3 a4 a6 (okS1 (v := vl x) hX (okT a7)) a8)
theorem g_lastore {r N : Nat} {i x : Int} (C : GX X cc f n nL K) (d : decode cc pc = .ok (.lastore, 1)) (hy : lay[r]? = some (.inl (2, N))) (o : 0 ≤ i ∧ i < N) (kk : Wg X (pc + 1) L st (hup h r i x) k) : Wg X pc L (vl x :: vi i :: vr r :: st) h k := by
  obtain ⟨p, l, e, R, s, m, args, below, meth, c, D, ad, cI, cZ, cJ, A, Q, sb⟩ := X
  intro H locs ls a1 a2 a3 a4 a6 a7 a8
  obtain ⟨hx, hb, hown, hts, hK, -⟩ := C
  have hi : InR i := okH (okT a7)
  have he := wC_at (cI := cI) (cZ := cZ) (cJ := cJ) (ad := ad) (h := h) hy
  rw [eC_j] at he
  have e1 : (wC cI cZ cJ ad h).set r (ad r, .inl (cJ, N, .inr (.inl (vp_updL (fun j => i64 (h r j)) (i32 i).toNatClampNeg (i64 x))))) = wC cI cZ cJ ad (hup h r i x) :=
    wC_set hy (fun a ha => hup_k ha) (by rw [eC_j, i32_clamp hi, updL_hup o.1])
  refine va_last hx hb hK a1 a2 a3 r 2 he rfl (i := i32 i) (x := i64 x) (i32_in hi o.1 o.2) d (fun H1 locs1 b1 b2 b3 => ?_)
  rw [e1] at b1 b2
  exact kk H1 locs1 ls b1 b2 b3 (a4.up (okH a7)) a6 (okT (okT (okT a7))) a8
theorem g_laload {r N : Nat} {i : Int} (C : GX X cc f n nL K) (d : decode cc pc = .ok (.laload, 1)) (hy : lay[r]? = some (.inl (2, N))) (o : 0 ≤ i ∧ i < N) (kk : Wg X (pc + 1) L (vl (h r i) :: st) h k) : Wg X pc L (vi i :: vr r :: st) h k := by
  obtain ⟨p, l, e, R, s, m, args, below, meth, c, D, ad, cI, cZ, cJ, A, Q, sb⟩ := X
  intro H locs ls a1 a2 a3 a4 a6 a7 a8
  obtain ⟨hx, hb, hown, hts, hK, -⟩ := C
  have hi : InR i := okH a7
  have he := wC_at (cI := cI) (cZ := cZ) (cJ := cJ) (ad := ad) (h := h) hy
  rw [eC_j] at he
  refine va_lald hx hb hK a1 r 2 he rfl (i := i32 i) (i32_in hi o.1 o.2) d ?_
  have e1 : ((i32 i).toNatClampNeg : Int) = i := by rw [i32_clamp hi]; omega
  rw [e1]
  exact kk H locs ls a1 a2 a3 a4 a6 (okS1 (v := vl (h r i)) (a4 r i) (okT (okT a7))) a8
theorem g_lcmp_eq {x y : Int} (C : GX X cc f n nL K) (d : decode cc pc = .ok (.lcmp, 1)) (hxy : x = y) (kk : Wg X (pc + 1) L (vi 0 :: st) h k) : Wg X pc L (vl y :: vl x :: st) h k := by
  obtain ⟨p, l, e, R, s, m, args, below, meth, c, D, ad, cI, cZ, cJ, A, Q, sb⟩ := X
  intro H locs ls a1 a2 a3 a4 a6 a7 a8
  obtain ⟨hx, hb, -⟩ := C
  subst hxy
  refine W.lcmp (x := i64 x) (y := i64 x) hx hb d ?_
  have e1 : lg_cmp (i64 x) (i64 x) = i32 0 := by unfold lg_cmp; simp [i32_0]
  rw [e1]
  exact kk H locs ls a1 a2 a3 a4 a6 (okS1 (v := vi 0) inR_0 (okT (okT a7))) a8
theorem g_sld {N : Nat} {xs : Nat → Int32} {i : Int} (C : GX X cc f n nL K) (S : GS X N xs) (d : decode cc pc = .ok (.iaload, 1)) (o : 0 ≤ i ∧ i < N) (kk : Wg X (pc + 1) L (vi (xs i.toNat).toInt :: st) h k) : Wg X pc L (vi i :: vr 48 :: st) h k := by
  obtain ⟨p, l, e, R, s, m, args, below, meth, c, D, ad, cI, cZ, cJ, A, Q, sb⟩ := X
  intro H locs ls a1 a2 a3 a4 a6 a7 a8
  obtain ⟨hx, hb, -⟩ := C
  have hi : InR i := okH a7
  obtain ⟨s1, s2, s3⟩ := S
  refine va_sld (i := i32 i) hx hb s1 s2 s3 a3 (i32_in hi o.1 o.2) d ?_
  have e1 : (i32 i).toNatClampNeg = i.toNat := i32_clamp hi
  rw [e1, ← i32_of (xs i.toNat)]
  exact kk H locs ls a1 a2 a3 a4 a6 (okS1 (v := vi (xs i.toNat).toInt) (inR_toInt _) (okT (okT a7))) a8
theorem g_slen {N : Nat} {xs : Nat → Int32} (C : GX X cc f n nL K) (S : GS X N xs) (hN : N ≤ 2560) (d : decode cc pc = .ok (.arraylength, 1)) (kk : Wg X (pc + 1) L (vi (N : Int) :: st) h k) : Wg X pc L (vr 48 :: st) h k := by
  obtain ⟨p, l, e, R, s, m, args, below, meth, c, D, ad, cI, cZ, cJ, A, Q, sb⟩ := X
  intro H locs ls a1 a2 a3 a4 a6 a7 a8
  obtain ⟨hx, hb, -⟩ := C
  obtain ⟨s1, s2, s3⟩ := S
  refine va_slen hx hb s1 s2 s3 a3 d ?_
  have e1 : Int32.ofNat N = i32 (N : Int) := rfl
  rw [e1]
  exact kk H locs ls a1 a2 a3 a4 a6 (okS1 (v := vi (N : Int)) (by constructor <;> omega) (okT a7)) a8
theorem g_tsw {dflt lo hi : Int} {offs : Array Int} {len : Nat} {x : Int} {tgd : Nat} (C : GX X cc f n nL K) (d : decode cc pc = .ok (.tableswitch dflt lo hi offs, len)) (ht : (pc : Int) + dflt = (tgd : Int)) (kd : Wg X tgd L st h k)
    (ki : ∀ (j : Nat) (off : Int), x = lo + j → offs[j]? = some off → ∃ tgt : Nat, (pc : Int) + off = (tgt : Int) ∧ Wg X tgt L st h k) (hsz : ∀ j : Nat, lo + j ≤ hi → ∃ off, offs[j]? = some off) : Wg X pc L (vi x :: st) h k := by
  obtain ⟨p, l, e, R, s, m, args, below, meth, c, D, ad, cI, cZ, cJ, A, Q, sb⟩ := X
  intro H locs ls a1 a2 a3 a4 a6 a7 a8
  obtain ⟨hx, hb, -⟩ := C
  have hX : InR x := okH a7
  by_cases hq : x < lo ∨ hi < x
  · exact lv_tableOut (x := i32 x) hx hb d (by rw [i32_toInt hX]; exact hq) ht (kd H locs ls a1 a2 a3 a4 a6 (okT a7) a8)
  · have h1 : x = lo + ((x - lo).toNat : Nat) := by omega
    obtain ⟨off, ho⟩ := hsz (x - lo).toNat (by omega)
    obtain ⟨tgt, e1, e2⟩ := ki _ off h1 ho
    exact lv_tableIn (x := i32 x) hx hb d (by rw [i32_toInt hX]; omega) (by rw [i32_toInt hX]; omega) (by rw [i32_toInt hX]; exact ho) e1 (e2 H locs ls a1 a2 a3 a4 a6 (okT a7) a8)
theorem g_catch_n {E : String} {tgt : Nat} {hh : List (Nat × Nat × Nat × Nat)} {q : Fin 4} (C : GX X cc f n nL K) (T : GT X hh) (hw : ∀ (args : Array Value) (s : State), (∀ w ∈ wsL_law, w.before args s = true) → (∀ w ∈ EVw, w.before args s = true) → NC s → kWords RL args s pc E tgt hh) (d : decode cc tgt = .ok (.astore_n q, 1)) (hn : (q : Nat) < nL) (hq : ∀ w ∈ L, w.1 ≠ (q : Nat)) (kk : Wg X (tgt + 1) L [] h k) : Wx X pc L h k E := by
  obtain ⟨p, l, e, R, s, m, args, below, meth, c, D, ad, cI, cZ, cJ, A, Q, sb⟩ := X
  intro H locs ls rest ce q9 a1 a2 a3 a4 a6 a8 c1 c2 c3
  obtain ⟨hx, hb, hown, hts, hK, -, -, -, -, -, hEV, hml, hNC⟩ := C
  refine k_catch (hh := hh) (tgt := tgt) hown T (hw args s hts (fun w hw => va_Nw.use (List.all_eq_true.mp EVw_t w hw) (hEV.2.2.1 w hw)) hNC) c1 c2 c3 ?_
  exact lv_astore_n (x := q9) hx hb d rfl a8 (by rw [hml]; exact hn) rfl (fun ls' h' => kk H locs ls' a1 a2 a3 a4 a6 (fun v hv => by cases hv) (lvDr a6 hq h'))
theorem g_catch {E : String} {tgt : Nat} {hh : List (Nat × Nat × Nat × Nat)} {i : Nat} (C : GX X cc f n nL K) (T : GT X hh) (hw : ∀ (args : Array Value) (s : State), (∀ w ∈ wsL_law, w.before args s = true) → (∀ w ∈ EVw, w.before args s = true) → NC s → kWords RL args s pc E tgt hh) (d : decode cc tgt = .ok (.astore i, 2)) (hn : i < nL) (hq : ∀ w ∈ L, w.1 ≠ i) (kk : Wg X (tgt + 2) L [] h k) : Wx X pc L h k E := by
  obtain ⟨p, l, e, R, s, m, args, below, meth, c, D, ad, cI, cZ, cJ, A, Q, sb⟩ := X
  intro H locs ls rest ce q9 a1 a2 a3 a4 a6 a8 c1 c2 c3
  obtain ⟨hx, hb, hown, hts, hK, -, -, -, -, -, hEV, hml, hNC⟩ := C
  refine k_catch (hh := hh) (tgt := tgt) hown T (hw args s hts (fun w hw => va_Nw.use (List.all_eq_true.mp EVw_t w hw) (hEV.2.2.1 w hw)) hNC) c1 c2 c3 ?_
  exact lv_astore (x := q9) hx hb d a8 (by rw [hml]; exact hn) rfl (fun ls' h' => kk H locs ls' a1 a2 a3 a4 a6 (fun v hv => by cases hv) (lvDr a6 hq h'))
set_option maxHeartbeats 4000000 in
theorem g_calli {y : MethodName} {ccY : ByteArray} {nLY : Nat} {tyY : FieldType} {fY nY mcY idx r ci N : Nat} {Cn : String} {T : u_T} {fs : List (Option Nat)} {av rest : List Vv} {MY : List Nat} {postY : Int → Hp → Prop} {pxY : String → Prop} 
    (C : GX X cc f n nL K) (d : decode cc pc = .ok (.invokevirtual idx, 3)) (hC : Ct (Gl X) y ccY nLY (some tyY) fY nY mcY (vr r :: av) h MY postY pxY) (ok : CallOk y ccY nLY (some tyY) Cn RL idx av.length) (hst : st = av.reverse ++ vr r :: rest) (hy : lay[r]? = some (.inr (ci, fs))) (hc : vwCl[ci]? = some (Cn, T, N)) (hav : ∀ v ∈ av, v1 v) (hf : fY + 1 ≤ f) (hn : 8 + (nLY + 11) + nY ≤ n) (hrest : rest.length ≤ 4) (hmc : k + mcY ≤ K)
    (kx : ∀ E, pxY E → Wx X pc L h (k + mcY) E)
    (kk : ∀ (r' : Int) (h' : Hp), Fr MY h h' → RH h' → InR r' → postY r' h' → Wg X (pc + 3) L (vi r' :: rest) h' (k + mcY)) : Wg X pc L st h k := by
  obtain ⟨p, l, e, R, s, m, args, below, meth, c, D, ad, cI, cZ, cJ, A, Q, sb⟩ := X
  intro H locs ls a1 a2 a3 a4 a6 a7 a8
  obtain ⟨hx, hb, hown, hts, hK, hA, hRf, hRl, hRc, hRs, hEV, hml, hNC⟩ := C
  obtain ⟨o1, o2, w1, w2, w3, w4, w5⟩ := ok
  subst hst
  have avok : ∀ v ∈ vr r :: av, okL v := by
    intro v hv
    rcases List.mem_cons.mp hv with e1 | e1
    · rw [e1]; exact trivial
    · have g1 := hav v e1
      have g2 := a7 v (List.mem_append_left _ (List.mem_reverse.mpr e1))
      obtain x | x | x := v
      · exact g2
      · exact absurd g1 (by exact id)
      · exact trivial
  have hsub : ∀ q, va_A (wC cI cZ cJ ad h) H.size q → A q := by
    intro q hq
    rcases hq with ⟨j, e1, hj⟩ | hq
    · exact a2.2 j _ hj
    · exact hA q (Nat.le_trans a3.1 hq)
  have he := wC_at (cI := cI) (cZ := cZ) (cJ := cJ) (ad := ad) (h := h) hy
  rw [eC_o] at he
  have hG : GoodIn wsL_law (Cond.code y ccY nLY (some tyY) :: wsL_law) := fun w hw => by
    have h1 : w ∈ wsL_law := (List.mem_cons.mp hw).elim (fun q => by rw [q]; exact w5) id
    exact ⟨h1, good_of_word (goodW w h1)⟩
  have hCW : CallW R s args RL Cn idx y ccY nLY (some tyY) (Cond.code y ccY nLY (some tyY) :: wsL_law) { frames := fY, cells := mcY, slots := 6 * mcY, locals := nY } mcY (6 * mcY) av.length := by
    refine ⟨⟨rfl, rfl, Nat.le_trans hf hRf, Nat.le_trans hn hRl, pay_in hts hG, List.mem_cons_self, hts _ w5, ?_, ⟨o2.1, o2.2.1⟩, fun sig hs => ?_, hts _ w1⟩, hts _ w2, hts _ w3⟩
    · rw [o1]; exact hts _ w4
    · have h2 := o2.2.2
      rw [hs] at h2
      exact (Option.some.inj h2).symm
  have hPre : PreV s H Cn (ad r) (va_Pc ((vr r :: av).map (cV ad)) (fun U => U.heap.size = H.size ∧ RH h ∧ (∀ v ∈ vr r :: av, okL v) ∧ bW D cI cZ cJ ad (fun _ => True) h U ∧ EV (va_A (wC cI cZ cJ ad h) H.size) U U.heap)) (av.map (cV ad)) := by
    refine ⟨fun a U g mk q => ?_, va_recv hK a1 hc he, fun U hU hW => ⟨rfl, by rw [hU], a4, avok, ⟨by rw [hU]; exact a1, va_K.moved hW.alike hK, a2.weaken (fun _ _ _ _ => trivial)⟩, ?_⟩⟩
    · obtain ⟨q0, q1, q2, q3, ⟨qP, qK, qD⟩, qE⟩ := q
      exact ⟨q0, q1, q2, q3, ⟨qP, va_K.moved (u := U) (U := U.calling g mk a) (Vm.Alike.refl U.vm) qK, qD⟩, EV.warm (s := U) (U := U.calling g mk a) (State.WarmedH.refl U) qE⟩
    · rw [hU]
      have e1 : EV A s H := hEV.kept a3.2.1
      exact EV.warm hW (e1.narrow hsub)
  have hsz : ls.size = c.maxLocals := a8.1
  have hk6 : 6 * k + sb + 6 * mcY = 6 * (k + mcY) + sb := by omega
  have hrun := vx_runV (g := F0 m pc ls ((av.reverse ++ vr r :: rest).map (cV ad))) (rest := rest.map (cV ad)) (As := av.map (cV ad)) (cells := k) (slots := 6 * k + sb) (e := e) (below := below) (meth := meth) (locs := locs) ⟨hx, hb, hml, hown, hts⟩ (hC D cI cZ cJ ad H.size) hCW hPre rfl (List.length_map ..) (by rw [← hml]; exact hsz)
    (by simp [List.map_append, List.map_reverse, cV]) (by show 2 * 0 + _ ≤ 8; have := catSum ad rest; simp only [List.map_map] at this ⊢; omega) d ⟨by show k + mcY ≤ R.cells; omega, by show 6 * k + sb + 6 * mcY ≤ R.slots; omega⟩
  refine vx_calli (a := (Value.ref (ad r) :: av.map (cV ad)).toArray) hrun a3 (fun q _ hq => hsub q hq) hsub (fun q _ hq => hsub q hq) ?_ ?_
  · intro E ce q9 u t H1 locs1 ht hal hpx hBX hz hkp hS1 hce hcv hcl
    obtain ⟨b1, b2, b3, b4⟩ := hBX
    rw [hk6]
    exact kx E b1 H1 locs1 ls _ ce q9 (by rw [← ht]; exact b2) (b4.weaken (fun _ q _ hq => hsub q.1 hq)) hS1 a4 a6 a8 hce hcv hcl
  · intro r' u t H1 locs1 ht hal hp hB hz hkp hS1
    obtain ⟨p1, p2, p3, p4, p5⟩ := hp
    obtain ⟨b2, b3, b4⟩ := hB
    rw [p1, hk6]
    refine kk u.1 u.2 p3 p4 p2 p5 H1 locs1 ls (by rw [← ht]; exact b2) (b4.weaken (fun _ q _ hq => hsub q.1 hq)) hS1 p4 a6 (okS1 (v := vi u.1) p2 (fun w hw => a7 w (List.mem_append_right _ (List.mem_cons_of_mem _ hw)))) a8
set_option maxHeartbeats 4000000 in
theorem g_callv {y : MethodName} {ccY : ByteArray} {nLY : Nat} {fY nY mcY idx r ci N : Nat} {Cn : String} {T : u_T} {fs : List (Option Nat)} {av rest : List Vv} {MY : List Nat} {postY : Int → Hp → Prop} {pxY : String → Prop} 
    (C : GX X cc f n nL K) (d : decode cc pc = .ok (.invokevirtual idx, 3)) (hC : Ct (Gl X) y ccY nLY none fY nY mcY (vr r :: av) h MY postY pxY) (ok : CallOk y ccY nLY none Cn RL idx av.length) (hst : st = av.reverse ++ vr r :: rest) (hy : lay[r]? = some (.inr (ci, fs))) (hc : vwCl[ci]? = some (Cn, T, N)) (hav : ∀ v ∈ av, v1 v) (hf : fY + 1 ≤ f) (hn : 8 + (nLY + 11) + nY ≤ n) (hrest : rest.length ≤ 4) (hmc : k + mcY ≤ K)
    (kx : ∀ E, pxY E → Wx X pc L h (k + mcY) E)
    (kk : ∀ (h' : Hp), Fr MY h h' → RH h' → postY 0 h' → Wg X (pc + 3) L (rest) h' (k + mcY)) : Wg X pc L st h k := by
  obtain ⟨p, l, e, R, s, m, args, below, meth, c, D, ad, cI, cZ, cJ, A, Q, sb⟩ := X
  intro H locs ls a1 a2 a3 a4 a6 a7 a8
  obtain ⟨hx, hb, hown, hts, hK, hA, hRf, hRl, hRc, hRs, hEV, hml, hNC⟩ := C
  obtain ⟨o1, o2, w1, w2, w3, w4, w5⟩ := ok
  subst hst
  have avok : ∀ v ∈ vr r :: av, okL v := by
    intro v hv
    rcases List.mem_cons.mp hv with e1 | e1
    · rw [e1]; exact trivial
    · have g1 := hav v e1
      have g2 := a7 v (List.mem_append_left _ (List.mem_reverse.mpr e1))
      obtain x | x | x := v
      · exact g2
      · exact absurd g1 (by exact id)
      · exact trivial
  have hsub : ∀ q, va_A (wC cI cZ cJ ad h) H.size q → A q := by
    intro q hq
    rcases hq with ⟨j, e1, hj⟩ | hq
    · exact a2.2 j _ hj
    · exact hA q (Nat.le_trans a3.1 hq)
  have he := wC_at (cI := cI) (cZ := cZ) (cJ := cJ) (ad := ad) (h := h) hy
  rw [eC_o] at he
  have hG : GoodIn wsL_law (Cond.code y ccY nLY none :: wsL_law) := fun w hw => by
    have h1 : w ∈ wsL_law := (List.mem_cons.mp hw).elim (fun q => by rw [q]; exact w5) id
    exact ⟨h1, good_of_word (goodW w h1)⟩
  have hCW : CallW R s args RL Cn idx y ccY nLY none (Cond.code y ccY nLY none :: wsL_law) { frames := fY, cells := mcY, slots := 6 * mcY, locals := nY } mcY (6 * mcY) av.length := by
    refine ⟨⟨rfl, rfl, Nat.le_trans hf hRf, Nat.le_trans hn hRl, pay_in hts hG, List.mem_cons_self, hts _ w5, ?_, ⟨o2.1, o2.2.1⟩, fun sig hs => ?_, hts _ w1⟩, hts _ w2, hts _ w3⟩
    · rw [o1]; exact hts _ w4
    · have h2 := o2.2.2
      rw [hs] at h2
      exact (Option.some.inj h2).symm
  have hPre : PreV s H Cn (ad r) (va_Pc ((vr r :: av).map (cV ad)) (fun U => U.heap.size = H.size ∧ RH h ∧ (∀ v ∈ vr r :: av, okL v) ∧ bW D cI cZ cJ ad (fun _ => True) h U ∧ EV (va_A (wC cI cZ cJ ad h) H.size) U U.heap)) (av.map (cV ad)) := by
    refine ⟨fun a U g mk q => ?_, va_recv hK a1 hc he, fun U hU hW => ⟨rfl, by rw [hU], a4, avok, ⟨by rw [hU]; exact a1, va_K.moved hW.alike hK, a2.weaken (fun _ _ _ _ => trivial)⟩, ?_⟩⟩
    · obtain ⟨q0, q1, q2, q3, ⟨qP, qK, qD⟩, qE⟩ := q
      exact ⟨q0, q1, q2, q3, ⟨qP, va_K.moved (u := U) (U := U.calling g mk a) (Vm.Alike.refl U.vm) qK, qD⟩, EV.warm (s := U) (U := U.calling g mk a) (State.WarmedH.refl U) qE⟩
    · rw [hU]
      have e1 : EV A s H := hEV.kept a3.2.1
      exact EV.warm hW (e1.narrow hsub)
  have hsz : ls.size = c.maxLocals := a8.1
  have hk6 : 6 * k + sb + 6 * mcY = 6 * (k + mcY) + sb := by omega
  have hrun := vx_runV (g := F0 m pc ls ((av.reverse ++ vr r :: rest).map (cV ad))) (rest := rest.map (cV ad)) (As := av.map (cV ad)) (cells := k) (slots := 6 * k + sb) (e := e) (below := below) (meth := meth) (locs := locs) ⟨hx, hb, hml, hown, hts⟩ (hC D cI cZ cJ ad H.size) hCW hPre rfl (List.length_map ..) (by rw [← hml]; exact hsz)
    (by simp [List.map_append, List.map_reverse, cV]) (by show 2 * 0 + _ ≤ 8; have := catSum ad rest; simp only [List.map_map] at this ⊢; omega) d ⟨by show k + mcY ≤ R.cells; omega, by show 6 * k + sb + 6 * mcY ≤ R.slots; omega⟩
  refine vx_callv (a := (Value.ref (ad r) :: av.map (cV ad)).toArray) hrun a3 (fun q _ hq => hsub q hq) hsub (fun q _ hq => hsub q hq) ?_ ?_
  · intro E ce q9 u t H1 locs1 ht hal hpx hBX hz hkp hS1 hce hcv hcl
    obtain ⟨b1, b2, b3, b4⟩ := hBX
    rw [hk6]
    exact kx E b1 H1 locs1 ls _ ce q9 (by rw [← ht]; exact b2) (b4.weaken (fun _ q _ hq => hsub q.1 hq)) hS1 a4 a6 a8 hce hcv hcl
  · intro u t H1 locs1 ht hal hp hB hz hkp hS1
    obtain ⟨p3, p4, p5⟩ := hp
    obtain ⟨b2, b3, b4⟩ := hB
    rw [hk6]
    refine kk u p3 p4 p5 H1 locs1 ls (by rw [← ht]; exact b2) (b4.weaken (fun _ q _ hq => hsub q.1 hq)) hS1 p4 a6 (fun w hw => a7 w (List.mem_append_right _ (List.mem_cons_of_mem _ hw))) a8
set_option maxHeartbeats 4000000 in
theorem g_calls {y : MethodName} {ccY : ByteArray} {nLY : Nat} {tyY : FieldType} {fY nY mcY idx : Nat} {hh : List (Nat × Nat × Nat × Nat)} {av rest : List Vv} {MY : List Nat} {postY : Int → Hp → Prop} 
    (C : GX X cc f n nL K) (d : decode cc pc = .ok (.invokestatic idx, 3)) (hC : CtH (Gl X) y ccY nLY hh fY nY av h MY postY) (ok : StatOk y ccY nLY hh idx av.length) (hst : st = av.reverse ++ rest) (hav : ∀ v ∈ av, v1 v) (hf : fY + 1 ≤ f) (hn : 8 + (nLY + 11) + nY ≤ n) (hrest : rest.length ≤ 4) (hmc : k + 1 ≤ K)
    (kk : ∀ (r' : Int) (h' : Hp), Fr MY h h' → RH h' → InR r' → postY r' h' → Wg X (pc + 3) L (vi r' :: rest) h' (k + 1)) : Wg X pc L st h k := by
  obtain ⟨p, l, e, R, s, m, args, below, meth, c, D, ad, cI, cZ, cJ, A, Q, sb⟩ := X
  intro H locs ls a1 a2 a3 a4 a6 a7 a8
  obtain ⟨hx, hb, hown, hts, hK, hA, hRf, hRl, hRc, hRs, hEV, hml, hNC⟩ := C
  obtain ⟨o2, w1, w2, w4, w5⟩ := ok
  subst hst
  have avok : ∀ v ∈ av, okL v := by
    intro v hv
    have g1 := hav v hv
    have g2 := a7 v (List.mem_append_left _ (List.mem_reverse.mpr hv))
    obtain x | x | x := v
    · exact g2
    · exact absurd g1 (by exact id)
    · exact trivial
  have hsub : ∀ q, va_A (wC cI cZ cJ ad h) H.size q → A q := by
    intro q hq
    rcases hq with ⟨j, e1, hj⟩ | hq
    · exact a2.2 j _ hj
    · exact hA q (Nat.le_trans a3.1 hq)
  have hG : GoodIn wsL_law (Cond.codeWith y ccY nLY (some .int) hh :: wsL_law) := fun w hw => by
    have h1 : w ∈ wsL_law := (List.mem_cons.mp hw).elim (fun q => by rw [q]; exact w5) id
    exact ⟨h1, good_of_word (goodW w h1)⟩
  have hCW : vx_CSW R s args RL idx y ccY nLY (some .int) hh (Cond.codeWith y ccY nLY (some .int) hh :: wsL_law) { frames := fY, cells := 1, slots := 6, locals := nY } 1 6 av.length := by
    refine ⟨⟨rfl, rfl, Nat.le_trans hf hRf, Nat.le_trans hn hRl, pay_in hts hG, List.mem_cons_self⟩, hts _ w5, hts _ w4, ⟨o2.1, o2.2.1⟩, fun sig hs => ?_, hts _ w1, hts _ w2⟩
    have h2 := o2.2.2
    rw [hs] at h2
    exact (Option.some.inj h2).symm
  have hPre : PreS s H (va_Pc (av.map (cV ad)) (fun U => U.heap.size = H.size ∧ RH h ∧ (∀ v ∈ av, okL v) ∧ bW D cI cZ cJ ad (fun _ => True) h U ∧ EV (va_A (wC cI cZ cJ ad h) H.size) U U.heap ∧ NC U)) (av.map (cV ad)) := by
    refine ⟨fun a U g mk q => ?_, fun U hU hW => ⟨rfl, by rw [hU], a4, avok, ⟨by rw [hU]; exact a1, va_K.moved hW.alike hK, a2.weaken (fun _ _ _ _ => trivial)⟩, ?_, NC.moved hW.alike hNC⟩⟩
    · obtain ⟨q0, q1, q2, q3, ⟨qP, qK, qD⟩, qE, qN⟩ := q
      exact ⟨q0, q1, q2, q3, ⟨qP, va_K.moved (u := U) (U := U.calling g mk a) (Vm.Alike.refl U.vm) qK, qD⟩, EV.warm (s := U) (U := U.calling g mk a) (State.WarmedH.refl U) qE, NC.moved (u := U) (U := U.calling g mk a) (Vm.Alike.refl U.vm) qN⟩
    · rw [hU]
      have e1 : EV A s H := hEV.kept a3.2.1
      exact EV.warm hW (e1.narrow hsub)
  have hsz : ls.size = c.maxLocals := a8.1
  have hk6 : 6 * k + sb + 6 * 1 = 6 * (k + 1) + sb := by omega
  have hrun := vx_runSX (g := F0 m pc ls ((av.reverse ++ rest).map (cV ad))) (rest := rest.map (cV ad)) (As := av.map (cV ad)) (cells := k) (slots := 6 * k + sb) (e := e) (below := below) (meth := meth) (locs := locs) ⟨hx, hb, hml, hown, hts⟩ (hC D cI cZ cJ ad H.size) hCW hPre rfl (List.length_map ..) (by rw [← hml]; exact hsz)
    (by simp [List.map_append, List.map_reverse]) (by show 2 * 0 + _ ≤ 8; have := catSum ad rest; simp only [List.map_map] at this ⊢; omega) d ⟨by show k + 1 ≤ R.cells; omega, by show 6 * k + sb + 6 ≤ R.slots; omega⟩
  refine vx_calli (a := (av.map (cV ad)).toArray) hrun a3 (fun q _ hq => hsub q hq) hsub (fun q _ hq => hsub q hq) ?_ ?_
  · intro E ce q9 u t H1 locs1 ht hal hpx hBX hz hkp hS1 hce hcv hcl
    obtain ⟨b1, b2, b3, b4⟩ := hBX
    exact absurd b1 id
  · intro r' u t H1 locs1 ht hal hp hB hz hkp hS1
    obtain ⟨p1, p2, p3, p4, p5⟩ := hp
    obtain ⟨b2, b3, b4⟩ := hB
    rw [p1, show 6 * k + sb + 6 = 6 * (k + 1) + sb from by omega]
    refine kk u.1 u.2 p3 p4 p2 p5 H1 locs1 ls (by rw [← ht]; exact b2) (b4.weaken (fun _ q _ hq => hsub q.1 hq)) hS1 p4 a6 (okS1 (v := vi u.1) p2 (fun w hw => a7 w (List.mem_append_right _ hw))) a8
end WgRows
set_option maxHeartbeats 4000000 in
/-- such a contract out of the walk of its body -/
theorem CtH.of {l : Launch} {y : MethodName} {cc : ByteArray} {nL : Nat} {hh : List (Nat × Nat × Nat × Nat)} {f n : Nat} {av : List Vv} {h0 : Hp} {M : List Nat} {post : Int → Hp → Prop} (hy : plainName y.cls = true) (hown0 : y.cls = RL) (hlen : av.length ≤ nL)
    (body : ∀ X : GxT, GX X cc f n nL 1 → GT X hh → Gl X = l → (∀ (pc : Nat) (L : List (Nat × Vv)) (x : Int) (h : Hp) (k : Nat), decode cc pc = .ok (.ireturn, 1) → k ≤ 1 → Fr M h0 h → post x h → Wg X pc L [vi x] h k) → (∀ v ∈ av, okL v) → RH h0 → Wg X 0 (aL 0 av) [] h0 0) : CtH l y cc nL hh f n av h0 M post := by
  intro D cI cZ cJ ad sz
  refine vx_ofWH (cc := cc) (maxL := nL) (ret := some .int) (hh := hh) hy rfl ?_
  intro p e s m args below meth c s₁ B hml hv
  obtain ⟨rfl, hsz, hR, hav, ⟨hP, hK, hD0⟩, hEV, hNC⟩ := hv
  have hts := atoms_spec (ws := Cond.codeWith y cc nL (some .int) hh :: wsL_law) B.pre
  have htab : c.exceptionTable.toList = tableOf hh := vx_table (x := y) B (hts _ List.mem_cons_self)
  have hown : s.vm.findClass RL = some m.cls := by rw [← hown0]; exact findClass_of_methodNamed B.named
  subst hsz
  have hD := hD0.self (sz := s.heap.size)
  generalize hAe : va_A (wC cI cZ cJ ad h0) s.heap.size = A at hD hEV ⊢
  have hA : ∀ q : Nat, s.heap.size ≤ q → A q := fun q h => by rw [← hAe]; exact Or.inr h
  have hl := lv_entry (av.map (cV ad)) (n := nL) (by rw [lg_len av hav]; exact hlen)
  rw [aL_args av 0 hav] at hl
  rw [lg_entry_eq]
  refine body (p, l, e, { frames := f, cells := 1, slots := 6, locals := n }, s, m, (av.map (cV ad)).toArray, below, meth, c, D, ad, cI, cZ, cJ, A, vx_MQ below (QcX D cI cZ cJ ad A h0 M post (some .int)) (XcX D cI cZ cJ ad A h0 (fun _ => False)) (av.map (cV ad)).toArray s 1 6 A, 0) ?_ htab rfl ?_ hav hR s.heap [] _ hP hD va_S.rf hR (aL_ok av 0 hav) (fun v hv => by cases hv) (by rw [hml]; exact hl)
  · exact ⟨B.exec, B.bytes, hown, fun w hw => hts w (List.mem_cons_of_mem _ hw), hK, hA, Nat.le_refl _, Nat.le_refl _, Nat.le_refl _, Nat.le_refl _, hEV, hml, hNC⟩
  · intro pc L x h k d hk hfr hpo H locs ls a1 a2 a3 a4 a6 a7 a8
    refine W.widen (k := 1) (n := 6) hk (by omega) (vx_ret ?_)
    exact W.iret (v := i32 x) B.exec B.bytes B.returns (fun t ht hW => ⟨⟨i32 x, (x, h), rfl, ⟨rfl, okH a7, hfr, a4, hpo⟩, by show va_P _ _ _ _; rw [ht]; exact a1, va_K.moved hW.alike hK, a2⟩, a3.F ht⟩) a3.2.2 d B.notSynchronized

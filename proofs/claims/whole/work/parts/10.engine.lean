/-! THE ENGINE: one uniform world for the class, the reference and the law's own array; numbers are Int, in range; a judgement Wh over it, one row an instruction -/
/-- heap picture: cell number, place: value -/
abbrev Hp : Type := Nat → Int → Int
/-- a value: an int, a long, a reference to a cell of the world by its number -/
abbrev Vv : Type := Int ⊕ (Int ⊕ Nat)
abbrev vi (x : Int) : Vv := .inl x
abbrev vl (x : Int) : Vv := .inr (.inl x)
abbrev vr (k : Nat) : Vv := .inr (.inr k)
def i32 (x : Int) : Int32 := Int32.ofInt x
def i64 (x : Int) : Int64 := Int64.ofInt x
def InR (x : Int) : Prop := -2147483648 ≤ x ∧ x ≤ 2147483647
theorem i32_toInt {x : Int} (h : InR x) : (i32 x).toInt = x := Int32.toInt_ofInt_of_le (by have := h.1; omega) (by have := h.2; omega)
theorem i32_of (z : Int32) : i32 z.toInt = z := Int32.ofInt_toInt z
theorem inR_toInt (z : Int32) : InR z.toInt := by
  have h1 := z.toInt_lt
  have h2 := z.le_toInt
  constructor <;> omega
theorem i32_add (x y : Int) : i32 (x + y) = i32 x + i32 y := Int32.ofInt_add x y
theorem i32_sub (x y : Int) : i32 (x - y) = i32 x - i32 y := Int32.ofInt_sub x y
theorem i32_mul (x y : Int) : i32 (x * y) = i32 x * i32 y := Int32.ofInt_mul x y
theorem i32_lt {x y : Int} (hx : InR x) (hy : InR y) : i32 x < i32 y ↔ x < y := by rw [Int32.lt_iff_toInt_lt, i32_toInt hx, i32_toInt hy]
theorem i32_le {x y : Int} (hx : InR x) (hy : InR y) : i32 x ≤ i32 y ↔ x ≤ y := by rw [Int32.le_iff_toInt_le, i32_toInt hx, i32_toInt hy]
theorem i32_eq {x y : Int} (hx : InR x) (hy : InR y) : i32 x = i32 y ↔ x = y := by rw [← Int32.toInt_inj, i32_toInt hx, i32_toInt hy]
theorem inR_0 : InR 0 := ⟨by decide, by decide⟩
theorem i32_0 : i32 0 = 0 := rfl
theorem i32_clamp {x : Int} (h : InR x) : (i32 x).toNatClampNeg = x.toNat := by
  show (i32 x).toInt.toNat = x.toNat
  rw [i32_toInt h]
theorem i32_in {x : Int} {n : Nat} (h : InR x) (h0 : 0 ≤ x) (h1 : x < n) : vp_in (i32 x) n := by
  rw [vp_in_iff, i32_toInt h]
  exact ⟨h0, h1⟩
/-- the layout: an array (kind 0 ints, 1 booleans, 2 longs; length), or an object (class, slots: none an int, some r a reference to cell r) -/
abbrev Ly : Type := (Nat × Nat) ⊕ (Nat × List (Option Nat))
def lay : List Ly := [
  .inr (5, [some 1, some 2, some 3, some 4, some 5]),
  .inr (2, [some 6, some 7, some 8, some 9, some 10, some 11, none, none, none]),
  .inr (1, [some 1, some 12, some 13, some 14, none]),
  .inr (4, [some 1, some 15, some 16, some 17, some 18, some 19, none, none]),
  .inr (0, [some 1, some 20, some 21, some 22, some 23, some 24, some 25, none, none]),
  .inr (3, [some 1, some 2, some 3, some 26, some 27, some 28, some 29, none, none, none, none]),
  .inl (0, 200), .inl (0, 200), .inl (0, 200), .inl (1, 100), .inl (0, 30), .inl (0, 30),
  .inl (0, 200), .inl (0, 200), .inl (0, 200),
  .inl (0, 30), .inl (0, 30), .inl (0, 30), .inl (0, 30), .inl (0, 30),
  .inl (0, 30), .inl (1, 30), .inl (0, 30), .inl (0, 5), .inl (1, 30), .inl (0, 30),
  .inl (1, 30), .inl (1, 100), .inl (1, 200), .inl (0, 200),
  .inr (6, [none, none, none, none, some 31, some 32, some 33, some 34, some 35, some 36, none, some 37, none, some 38, some 39, some 40, none, some 41, some 42, some 43, none, some 44, some 45, some 46]),
  .inl (0, 100), .inl (0, 100), .inl (1, 100), .inl (0, 900), .inl (0, 30), .inl (0, 30), .inl (0, 200),
  .inl (0, 30), .inl (0, 30), .inl (0, 30), .inl (0, 30), .inl (1, 30), .inl (1, 30), .inl (1, 30), .inl (1, 100), .inl (1, 200),
  .inl (2, 1)]
def cV (ad : Nat → Nat) (v : Vv) : Value := match v with
  | .inl x => .int (i32 x)
  | .inr (.inl x) => .long (i64 x)
  | .inr (.inr k) => .ref (ad k)
def fC (ad : Nat → Nat) (g : Int → Int) : Nat → List (Option Nat) → List Value
  | _, [] => []
  | i, none :: r => .int (i32 (g i)) :: fC ad g (i + 1) r
  | i, some q :: r => .ref (ad q) :: fC ad g (i + 1) r
def eC (cI cZ cJ : ClassId) (ad : Nat → Nat) (h : Hp) (k : Nat) (y : Ly) : va_E := match y with
  | .inl (0, n) => .inl (cI, n, .inl (fun j => i32 (h k j)))
  | .inl (1, n) => .inl (cZ, n, .inl (fun j => i32 (h k j)))
  | .inl (_, n) => .inl (cJ, n, .inr (.inl (fun j => i64 (h k j))))
  | .inr (ci, fs) => .inr (ci, fC ad (h k) 0 fs)
def wC (cI cZ cJ : ClassId) (ad : Nat → Nat) (h : Hp) : va_W := lay.mapIdx (fun k y => (ad k, eC cI cZ cJ ad h k y))
def hup (h : Hp) (k : Nat) (j v : Int) : Hp := fun a b => if a = k ∧ b = j then v else h a b
theorem hup_s (h : Hp) (k : Nat) (j v : Int) : hup h k j v k j = v := if_pos ⟨rfl, rfl⟩
theorem hup_o {h : Hp} {k a : Nat} {j v b : Int} (hn : ¬ (a = k ∧ b = j)) : hup h k j v a b = h a b := if_neg hn
theorem hup_k {h : Hp} {k a : Nat} {j v : Int} (hn : a ≠ k) : hup h k j v a = h a := by
  funext b
  exact if_neg (fun q => hn q.1)
theorem wC_at {cI cZ cJ : ClassId} {ad : Nat → Nat} {h : Hp} {k : Nat} {y : Ly} (hk : lay[k]? = some y) : (wC cI cZ cJ ad h)[k]? = some (ad k, eC cI cZ cJ ad h k y) := by
  unfold wC
  rw [List.getElem?_mapIdx, hk]
  rfl
theorem wC_inv {cI cZ cJ : ClassId} {ad : Nat → Nat} {h : Hp} {k : Nat} {q : Nat × va_E} (hk : (wC cI cZ cJ ad h)[k]? = some q) : ∃ y, lay[k]? = some y ∧ q = (ad k, eC cI cZ cJ ad h k y) := by
  unfold wC at hk
  rw [List.getElem?_mapIdx] at hk
  cases hl : lay[k]? with
  | none => rw [hl] at hk; cases hk
  | some y =>
    rw [hl] at hk
    exact ⟨y, rfl, (Option.some.inj hk).symm⟩
theorem fC_at (ad : Nat → Nat) (g : Int → Int) : ∀ (fs : List (Option Nat)) (i j : Nat), (fC ad g i fs)[j]? = (fs[j]?).map (fun o => match o with | none => Value.int (i32 (g ((i + j : Nat) : Int))) | some q => .ref (ad q)) := by
  intro fs
  induction fs with
  | nil => intro i j; simp [fC]
  | cons o r ih =>
    intro i j
    cases o with
    | none =>
      cases j with
      | zero => simp [fC]
      | succ j => simp only [fC, List.getElem?_cons_succ]; rw [ih (i + 1) j]; congr 1; funext o; cases o <;> simp; congr 2; omega
    | some q =>
      cases j with
      | zero => simp [fC]
      | succ j => simp only [fC, List.getElem?_cons_succ]; rw [ih (i + 1) j]; congr 1; funext o; cases o <;> simp; congr 2; omega
theorem fC_len (ad : Nat → Nat) (g : Int → Int) : ∀ (fs : List (Option Nat)) (i : Nat), (fC ad g i fs).length = fs.length := by
  intro fs
  induction fs with
  | nil => intro i; rfl
  | cons o r ih => intro i; cases o <;> simp [fC, ih]
/-- the picture with one cell's functions changed at one place -/
theorem wC_set {cI cZ cJ : ClassId} {ad : Nat → Nat} {h h' : Hp} {k : Nat} {y : Ly} {e : va_E} (hk : lay[k]? = some y) (ho : ∀ a, a ≠ k → h' a = h a) (he : e = eC cI cZ cJ ad h' k y) : (wC cI cZ cJ ad h).set k (ad k, e) = wC cI cZ cJ ad h' := by
  have hlt : k < lay.length := (List.getElem?_eq_some_iff.mp hk).1
  apply List.ext_getElem?
  intro i
  by_cases hi : i = k
  · subst hi
    rw [List.getElem?_set_self (by unfold wC; rw [List.length_mapIdx]; exact hlt), wC_at hk, he]
  · rw [List.getElem?_set_ne (Ne.symm hi)]
    unfold wC
    rw [List.getElem?_mapIdx, List.getElem?_mapIdx]
    cases hy : lay[i]? with
    | none => rfl
    | some z =>
      show some (ad i, _) = some (ad i, _)
      congr 2
      obtain ⟨a, n⟩ | ⟨ci, fs⟩ := z
      · rcases a with _ | _ | a <;> simp only [eC] <;> rw [ho i hi]
      · simp only [eC]; rw [ho i hi]
/-- everything in range -/
def RH (h : Hp) : Prop := ∀ k j, InR (h k j)
theorem RH.up {h : Hp} {k : Nat} {j v : Int} (hr : RH h) (hv : InR v) : RH (hup h k j v) := by
  intro a b
  unfold hup
  by_cases q : a = k ∧ b = j
  · rw [if_pos q]; exact hv
  · rw [if_neg q]; exact hr a b
/-- cells that aren't listed are as they were -/
def Fr (M : List Nat) (h0 h : Hp) : Prop := ∀ k, k ∉ M → h k = h0 k
theorem Fr.rf {M : List Nat} {h : Hp} : Fr M h h := fun _ _ => rfl
theorem Fr.trans {M M' : List Nat} {h0 h h1 : Hp} (a : Fr M h0 h) (b : Fr M' h h1) (hs : ∀ k ∈ M', k ∈ M) : Fr M h0 h1 := fun k hk => (b k (fun q => hk (hs k q))).trans (a k hk)
theorem Fr.up {M : List Nat} {h0 h : Hp} {k : Nat} {j v : Int} (a : Fr M h0 h) (hk : k ∈ M) : Fr M h0 (hup h k j v) := by
  intro i hi
  rw [hup_k (fun q => hi (by rw [q]; exact hk))]
  exact a i hi
def okV (v : Vv) : Prop := match v with
  | .inl x => InR x
  | .inr (.inl x) => InR x
  | .inr (.inr _) => True
def okL (v : Vv) : Prop := match v with
  | .inl x => InR x
  | .inr (.inl _) => False
  | .inr (.inr _) => True
abbrev tyL (cI cZ cJ : ClassId) : List (ClassId × FieldType) := [(cI, .int), (cZ, .boolean), (cJ, .long)]
/-- what a state holds: the picture, the tables -/
def bW (D : va_G) (cI cZ cJ : ClassId) (ad : Nat → Nat) (A : Nat → Prop) (h : Hp) (t : State) : Prop := va_P D vwCl (wC cI cZ cJ ad h) t.heap ∧ va_K D vwCl (tyL cI cZ cJ) t ∧ va_D A (wC cI cZ cJ ad h)
def QcX (D : va_G) (cI cZ cJ : ClassId) (ad : Nat → Nat) (A : Nat → Prop) (h0 : Hp) (M : List Nat) (post : Int → Hp → Prop) (ret : Option FieldType) : Array Value → State → Outcome → State → Prop := match ret with
  | none => va_Qv (fun u : Hp => Fr M h0 u ∧ RH u ∧ post 0 u) (fun u t => bW D cI cZ cJ ad A u t) A
  | some _ => va_Qi (fun (r : Int32) (u : Int × Hp) => r = i32 u.1 ∧ InR u.1 ∧ Fr M h0 u.2 ∧ RH u.2 ∧ post u.1 u.2) (fun u t => bW D cI cZ cJ ad A u.2 t) A
def XcX (D : va_G) (cI cZ cJ : ClassId) (ad : Nat → Nat) (A : Nat → Prop) (h0 : Hp) (px : String → Prop) : String → State → State → Prop := vx_X (fun _ : Unit => True) (fun E _ t => px E ∧ bW D cI cZ cJ ad A h0 t) A
/-- program, launch, env, room, start, method, args, below, meth, code; tables' map, addresses, array classes; what may change; start picture, changed cells, what is owed at a return, at a throw, cells, return type -/
abbrev CxT : Type := Program × Launch × Env × Room × State × MethodId × Array Value × List Frame × Method × Code × va_G × (Nat → Nat) × ClassId × ClassId × ClassId × (Nat → Prop) × Hp × List Nat × (Int → Hp → Prop) × (String → Prop) × Nat × Option FieldType
def Wh (X : CxT) (pc : Nat) (L : List (Nat × Vv)) (st : List Vv) (h : Hp) (k : Nat) : Prop := match X with
  | (p, l, e, R, s, m, args, below, meth, c, D, ad, cI, cZ, cJ, A, h0, M, post, px, mc, ret) =>
    ∀ (H : Heap) (locs : List Loc) (ls : Array Slot), va_P D vwCl (wC cI cZ cJ ad h) H → va_D A (wC cI cZ cJ ad h) → va_S A s.heap H locs → RH h → Fr M h0 h → (∀ q ∈ L, okL q.2) → (∀ v ∈ st, okV v) →
      lv_has ls c.maxLocals (L.map (fun q => (q.1, cV ad q.2))) →
      W p l e R s m args below meth c H locs k (6 * k) (vx_MQ below (QcX D cI cZ cJ ad A h0 M post ret) (XcX D cI cZ cJ ad A h0 px) args s mc (6 * mc) A) (F0 m pc ls (st.map (cV ad)))
/-- statics, words and texts that a throw needs -/
def xIO : String := "java/lang/IndexOutOfBoundsException"
def xIA : String := "java/lang/IllegalArgumentException"
def xIS : String := "java/lang/IllegalStateException"
def xUO : String := "java/lang/UnsupportedOperationException"
def EVw : List Cond := [.castable xIO xIO, .castable xIA xIA, .castable xIS xIS, .castable xUO xUO, .declares (Bundle.initS "java/lang/RuntimeException"), .declares (Bundle.initS "java/lang/Exception"), .declares (Bundle.initS "java/lang/Throwable")]
def EVs : List (Nat × String) := [(228, "not plane"), (54, "no more vertices"), (231, "no such vertex"), (235, "no such face"), (163, "the vertex has no colour"), (117, "no such place"), (138, "no such side"), (233, "no such edge"), (83, "ends are the same or have an edge"), (165, "not another colour"), (89, "the edge before it is not round that end"), (94, "no more edges")]
def EV (A : Nat → Prop) (U : State) (H : Heap) : Prop := vx_Zq Bundle.tN "UNASSIGNED_STACK" Bundle.steD A U H ∧ vx_Zq Bundle.tN "SUPPRESSED_SENTINEL" Bundle.listD A U H ∧ (∀ w ∈ EVw, va_Nw w U) ∧ ∀ q ∈ EVs, ∃ a, vk_R RX5 q.1 q.2 a U
theorem EV.warm {A : Nat → Prop} {s U : State} {H : Heap} (hW : s.WarmedH U.vm) (h : EV A s H) : EV A U H := by
  refine ⟨vx_Zq.moved hW.alike h.1, vx_Zq.moved hW.alike h.2.1, fun w hw => ?_, fun q hq => ?_⟩
  · have hz := h.2.2.1 w hw
    simp only [EVw, List.mem_cons, List.not_mem_nil, or_false] at hw
    rcases hw with rfl | rfl | rfl | rfl | rfl | rfl | rfl
    · exact va_Nw.warmC hW hz
    · exact va_Nw.warmC hW hz
    · exact va_Nw.warmC hW hz
    · exact va_Nw.warmC hW hz
    · exact va_Nw.warmD hW hz
    · exact va_Nw.warmD hW hz
    · exact va_Nw.warmD hW hz
  · obtain ⟨a, ha⟩ := h.2.2.2 q hq
    exact ⟨a, vk_R.warm hW ha⟩
/-- what holds all along in a body: the machine, the code, the words, the tables, room for f frames and n words more -/
def CX (X : CxT) (cc : ByteArray) (own : String) (f n nL : Nat) : Prop := match X with
  | (p, _, _, R, s, m, args, _, meth, c, D, _, cI, cZ, cJ, A, _, _, _, _, mc, ret) =>
    p.tables.exec = Jvm.exec ∧ c.code = cc ∧ s.vm.findClass own = some m.cls ∧ (∀ w ∈ wsL_law, w.before args s = true) ∧ va_K D vwCl (tyL cI cZ cJ) s ∧ meth.locks = false ∧ meth.sig.returnType = ret ∧ (∀ x ∈ c.exceptionTable.toList, False) ∧ (∀ q, s.heap.size ≤ q → A q) ∧ f ≤ R.frames ∧ n ≤ R.locals ∧ R.cells = mc ∧ R.slots = 6 * mc ∧ EV A s s.heap ∧ c.maxLocals = nL
section EngineRows
variable {X : CxT} {cc : ByteArray} {own : String} {f n nL pc k : Nat} {L : List (Nat × Vv)} {st : List Vv} {h : Hp}
theorem lvL {ls : Array Slot} {nn : Nat} {ad : Nat → Nat} {L : List (Nat × Vv)} (hl : lv_has ls nn (L.map (fun q => (q.1, cV ad q.2)))) {j i : Nat} {v : Vv} (hj : L[j]? = some (i, v)) : ls[i]? = some (.val (cV ad v)) :=
  lv_at hl j (by rw [List.getElem?_map, hj]; rfl)
theorem okS1 {v : Vv} {st : List Vv} (hv : okV v) (hs : ∀ w ∈ st, okV w) : ∀ w ∈ v :: st, okV w := fun w hw => (List.mem_cons.mp hw).elim (fun q => by rw [q]; exact hv) (hs w)
theorem okT {v : Vv} {st : List Vv} (hs : ∀ w ∈ v :: st, okV w) : ∀ w ∈ st, okV w := fun w hw => hs w (List.mem_cons_of_mem _ hw)
theorem okH {v : Vv} {st : List Vv} (hs : ∀ w ∈ v :: st, okV w) : okV v := hs v List.mem_cons_self
theorem okLV {v : Vv} (hv : okL v) : okV v := by
  obtain x | x | x := v
  · exact hv
  · exact absurd hv (by exact id)
  · exact trivial
theorem r_iconst {z : Int} (C : CX X cc own f n nL) (d : decode cc pc = .ok (.iconst z, 1)) (o : InR z) (kk : Wh X (pc + 1) L (vi z :: st) h k) : Wh X pc L st h k := by
  obtain ⟨p, l, e, R, s, m, args, below, meth, c, D, ad, cI, cZ, cJ, A, h0, M, post, px, mc, ret⟩ := X
  intro H locs ls a1 a2 a3 a4 a5 a6 a7 a8
  obtain ⟨hx, hb, -⟩ := C
  exact lv_iconst (v := i32 z) hx hb d rfl (kk H locs ls a1 a2 a3 a4 a5 a6 (okS1 o a7) a8)
theorem r_bipush {z : Int} (C : CX X cc own f n nL) (d : decode cc pc = .ok (.bipush z, 2)) (o : InR z) (hz : (Int8.ofInt z).toInt32 = i32 z) (kk : Wh X (pc + 2) L (vi z :: st) h k) : Wh X pc L st h k := by
  obtain ⟨p, l, e, R, s, m, args, below, meth, c, D, ad, cI, cZ, cJ, A, h0, M, post, px, mc, ret⟩ := X
  intro H locs ls a1 a2 a3 a4 a5 a6 a7 a8
  obtain ⟨hx, hb, -⟩ := C
  exact lv_bipush (v := i32 z) hx hb d hz (kk H locs ls a1 a2 a3 a4 a5 a6 (okS1 o a7) a8)
theorem r_sipush {z : Int} (C : CX X cc own f n nL) (d : decode cc pc = .ok (.sipush z, 3)) (o : InR z) (hz : (Int16.ofInt z).toInt32 = i32 z) (kk : Wh X (pc + 3) L (vi z :: st) h k) : Wh X pc L st h k := by
  obtain ⟨p, l, e, R, s, m, args, below, meth, c, D, ad, cI, cZ, cJ, A, h0, M, post, px, mc, ret⟩ := X
  intro H locs ls a1 a2 a3 a4 a5 a6 a7 a8
  obtain ⟨hx, hb, -⟩ := C
  exact lv_sipush (v := i32 z) hx hb d hz (kk H locs ls a1 a2 a3 a4 a5 a6 (okS1 o a7) a8)
theorem r_iload_n {q : Fin 4} {x : Int} (j : Nat) (C : CX X cc own f n nL) (d : decode cc pc = .ok (.iload_n q, 1)) (hj : L[j]? = some ((q : Nat), vi x)) (kk : Wh X (pc + 1) L (vi x :: st) h k) : Wh X pc L st h k := by
  obtain ⟨p, l, e, R, s, m, args, below, meth, c, D, ad, cI, cZ, cJ, A, h0, M, post, px, mc, ret⟩ := X
  intro H locs ls a1 a2 a3 a4 a5 a6 a7 a8
  obtain ⟨hx, hb, -⟩ := C
  exact lv_iload_n hx hb d rfl (lvL a8 hj) (kk H locs ls a1 a2 a3 a4 a5 a6 (okS1 (okLV (a6 _ (List.mem_of_getElem? hj))) a7) a8)
theorem r_iload {i : Nat} {x : Int} (j : Nat) (C : CX X cc own f n nL) (d : decode cc pc = .ok (.iload i, 2)) (hj : L[j]? = some (i, vi x)) (kk : Wh X (pc + 2) L (vi x :: st) h k) : Wh X pc L st h k := by
  obtain ⟨p, l, e, R, s, m, args, below, meth, c, D, ad, cI, cZ, cJ, A, h0, M, post, px, mc, ret⟩ := X
  intro H locs ls a1 a2 a3 a4 a5 a6 a7 a8
  obtain ⟨hx, hb, -⟩ := C
  exact lv_iload hx hb d (lvL a8 hj) (kk H locs ls a1 a2 a3 a4 a5 a6 (okS1 (okLV (a6 _ (List.mem_of_getElem? hj))) a7) a8)
theorem r_aload_n {q : Fin 4} {x : Nat} (j : Nat) (C : CX X cc own f n nL) (d : decode cc pc = .ok (.aload_n q, 1)) (hj : L[j]? = some ((q : Nat), vr x)) (kk : Wh X (pc + 1) L (vr x :: st) h k) : Wh X pc L st h k := by
  obtain ⟨p, l, e, R, s, m, args, below, meth, c, D, ad, cI, cZ, cJ, A, h0, M, post, px, mc, ret⟩ := X
  intro H locs ls a1 a2 a3 a4 a5 a6 a7 a8
  obtain ⟨hx, hb, -⟩ := C
  exact lv_aload_n hx hb d rfl (lvL a8 hj) (kk H locs ls a1 a2 a3 a4 a5 a6 (okS1 trivial a7) a8)
theorem lvSt {ls : Array Slot} {nn i : Nat} {ad : Nat → Nat} {L L' : List (Nat × Vv)} {v : Vv} (hL : ∀ q ∈ L, okL q.2) (h : lv_has ls nn ((i, cV ad v) :: (L.map (fun q => (q.1, cV ad q.2))).filter (fun q => !(q.1 == i) && !(q.1 + 1 == i && q.2.category == 2)))) (hl : (i, v) :: L.filter (fun q => !(q.1 == i)) = L') : lv_has ls nn (L'.map (fun q => (q.1, cV ad q.2))) := by
  refine ⟨h.1, h.2.1, fun q hq => ?_⟩
  subst hl
  refine h.2.2 q ?_
  rw [List.map_cons] at hq
  rcases List.mem_cons.mp hq with e | e
  · rw [e]; exact List.mem_cons_self
  · obtain ⟨w, hw, rfl⟩ := List.mem_map.mp e
    obtain ⟨h1, h2⟩ := List.mem_filter.mp hw
    refine List.mem_cons_of_mem _ (List.mem_filter.mpr ⟨List.mem_map.mpr ⟨w, h1, rfl⟩, ?_⟩)
    have h3 := hL w h1
    obtain ⟨i', x | x | x⟩ := w
    · simp only [cV, Value.category] at h2 ⊢; simpa using h2
    · exact absurd h3 (by exact id)
    · simp only [cV, Value.category] at h2 ⊢; simpa using h2
theorem okLst {L L' : List (Nat × Vv)} {i : Nat} {v : Vv} (hL : ∀ q ∈ L, okL q.2) (hv : okL v) (hl : (i, v) :: L.filter (fun q => !(q.1 == i)) = L') : ∀ q ∈ L', okL q.2 := by
  subst hl
  intro q hq
  rcases List.mem_cons.mp hq with e | e
  · rw [e]; exact hv
  · exact hL q (List.mem_filter.mp e).1
theorem r_istore_n {q : Fin 4} {x : Int} {L' : List (Nat × Vv)} (C : CX X cc own f n nL) (d : decode cc pc = .ok (.istore_n q, 1)) (hn : (q : Nat) < nL) (hl : ((q : Nat), vi x) :: L.filter (fun w => !(w.1 == (q : Nat))) = L') (kk : Wh X (pc + 1) L' st h k) : Wh X pc L (vi x :: st) h k := by
  obtain ⟨p, l, e, R, s, m, args, below, meth, c, D, ad, cI, cZ, cJ, A, h0, M, post, px, mc, ret⟩ := X
  intro H locs ls a1 a2 a3 a4 a5 a6 a7 a8
  obtain ⟨hx, hb, -, -, -, -, -, -, -, -, -, -, -, -, hml⟩ := C
  exact lv_istore_n (x := i32 x) hx hb d rfl a8 (by rw [hml]; exact hn) rfl (fun ls' h' => kk H locs ls' a1 a2 a3 a4 a5 (okLst (v := vi x) a6 (show InR x from okH a7) hl) (okT a7) (lvSt (v := vi x) a6 h' hl))
theorem r_istore {i : Nat} {x : Int} {L' : List (Nat × Vv)} (C : CX X cc own f n nL) (d : decode cc pc = .ok (.istore i, 2)) (hn : i < nL) (hl : (i, vi x) :: L.filter (fun w => !(w.1 == i)) = L') (kk : Wh X (pc + 2) L' st h k) : Wh X pc L (vi x :: st) h k := by
  obtain ⟨p, l, e, R, s, m, args, below, meth, c, D, ad, cI, cZ, cJ, A, h0, M, post, px, mc, ret⟩ := X
  intro H locs ls a1 a2 a3 a4 a5 a6 a7 a8
  obtain ⟨hx, hb, -, -, -, -, -, -, -, -, -, -, -, -, hml⟩ := C
  exact lv_istore (x := i32 x) hx hb d a8 (by rw [hml]; exact hn) rfl (fun ls' h' => kk H locs ls' a1 a2 a3 a4 a5 (okLst (v := vi x) a6 (show InR x from okH a7) hl) (okT a7) (lvSt (v := vi x) a6 h' hl))
theorem r_iinc {i : Nat} {z x : Int} {L' : List (Nat × Vv)} (j : Nat) (C : CX X cc own f n nL) (d : decode cc pc = .ok (.iinc i z, 3)) (hj : L[j]? = some (i, vi x)) (hn : i < nL) (o : InR (x + z)) (hl : (i, vi (x + z)) :: L.filter (fun w => !(w.1 == i)) = L') (kk : Wh X (pc + 3) L' st h k) : Wh X pc L st h k := by
  obtain ⟨p, l, e, R, s, m, args, below, meth, c, D, ad, cI, cZ, cJ, A, h0, M, post, px, mc, ret⟩ := X
  intro H locs ls a1 a2 a3 a4 a5 a6 a7 a8
  obtain ⟨hx, hb, -, -, -, -, -, -, -, -, -, -, -, -, hml⟩ := C
  exact lv_iinc (k := j) (x := i32 x) (v := i32 (x + z)) hx hb d a8 (by rw [List.getElem?_map, hj]; rfl) (i32_add x z).symm (by rw [hml]; exact hn) rfl (fun ls' h' => kk H locs ls' a1 a2 a3 a4 a5 (okLst (v := vi (x + z)) a6 o hl) a7 (lvSt (v := vi (x + z)) a6 h' hl))
theorem r_iadd {x y : Int} (C : CX X cc own f n nL) (d : decode cc pc = .ok (.iadd, 1)) (o : InR (x + y)) (kk : Wh X (pc + 1) L (vi (x + y) :: st) h k) : Wh X pc L (vi y :: vi x :: st) h k := by
  obtain ⟨p, l, e, R, s, m, args, below, meth, c, D, ad, cI, cZ, cJ, A, h0, M, post, px, mc, ret⟩ := X
  intro H locs ls a1 a2 a3 a4 a5 a6 a7 a8
  obtain ⟨hx, hb, -⟩ := C
  refine lv_iadd (x := i32 x) (y := i32 y) hx hb d ?_
  rw [← i32_add]
  exact kk H locs ls a1 a2 a3 a4 a5 a6 (okS1 (v := vi (x + y)) o (okT (okT a7))) a8
theorem r_isub {x y : Int} (C : CX X cc own f n nL) (d : decode cc pc = .ok (.isub, 1)) (o : InR (x - y)) (kk : Wh X (pc + 1) L (vi (x - y) :: st) h k) : Wh X pc L (vi y :: vi x :: st) h k := by
  obtain ⟨p, l, e, R, s, m, args, below, meth, c, D, ad, cI, cZ, cJ, A, h0, M, post, px, mc, ret⟩ := X
  intro H locs ls a1 a2 a3 a4 a5 a6 a7 a8
  obtain ⟨hx, hb, -⟩ := C
  refine lv_isub (x := i32 x) (y := i32 y) hx hb d ?_
  rw [← i32_sub]
  exact kk H locs ls a1 a2 a3 a4 a5 a6 (okS1 (v := vi (x - y)) o (okT (okT a7))) a8
theorem r_imul {x y : Int} (C : CX X cc own f n nL) (d : decode cc pc = .ok (.imul, 1)) (o : InR (x * y)) (kk : Wh X (pc + 1) L (vi (x * y) :: st) h k) : Wh X pc L (vi y :: vi x :: st) h k := by
  obtain ⟨p, l, e, R, s, m, args, below, meth, c, D, ad, cI, cZ, cJ, A, h0, M, post, px, mc, ret⟩ := X
  intro H locs ls a1 a2 a3 a4 a5 a6 a7 a8
  obtain ⟨hx, hb, -⟩ := C
  refine lv_imul (x := i32 x) (y := i32 y) hx hb d ?_
  rw [← i32_mul]
  exact kk H locs ls a1 a2 a3 a4 a5 a6 (okS1 (v := vi (x * y)) o (okT (okT a7))) a8
end EngineRows

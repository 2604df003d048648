/-! a throw that a row of this method's own table catches: the rows ahead name classes that don't take it; a row's class may still be unresolved, and the search notes it -/
/-- the search of the rows: which place it finds -/
def kTake (pl : Platform) (s₀ : State) (d : ClassId) (pc : Nat) (th : ClassId) (tgt : Nat) : List ExceptionTableEntry → Prop
  | [] => False
  | x :: t => covers x pc = true ∧ x.catchType ≠ 0 ∧ ∃ c, s₀.vm.ClassLinks pl d x.catchType c ∧ ((s₀.vm.assignable th c = true ∧ x.handlerPc = tgt) ∨ (s₀.vm.assignable th c = false ∧ kTake pl s₀ d pc th tgt t))
theorem k_row {Q : Handler → Pre} {E : CtlPost} {e : Env} {dd : Bool} {acts : List Action} {s : State} {f : JFrame} {a : Addr} {x : ExceptionTableEntry} {t : List ExceptionTableEntry} {c : ClassId} {cell : Cell} (hx : covers x f.pc = true) (h0 : x.catchType ≠ 0)
    (hl : s.vm.ClassLinks e.platform f.method.cls x.catchType c) (hcell : s.heap[a]? = some cell) (hobj : ∀ k, cell.vm ≠ .statics k) (hk : ∃ k, s.vm.classes[cell.cls]? = some k) (hc : ∃ k, s.vm.classes[c]? = some k) :
    wp (findHandler.go f a (x :: t)) Q E e dd acts s ↔ (if s.vm.assignable cell.cls c = true then Q (.found x.handlerPc) dd acts (s.setVm (s.vm.noted f.method.cls x.catchType (.cls c))) else wp (findHandler.go f a t) Q E e dd acts (s.setVm (s.vm.noted f.method.cls x.catchType (.cls c)))) := by
  have hal : s.vm.Alike (s.vm.noted f.method.cls x.catchType (.cls c)) := (Vm.Alike.refl s.vm).noted _ _ _
  obtain ⟨g1, g2⟩ := (resolveClass_links e.toSetting hl).op (op := VmOp.resolveClass f.method.cls x.catchType) rfl
  obtain ⟨z1, y1⟩ := hk
  obtain ⟨z2, y2⟩ := hc
  obtain ⟨z3, y3, -⟩ := hal.2.2 _ _ y1
  obtain ⟨z4, y4, -⟩ := hal.2.2 _ _ y2
  have e1 : (s.vm.noted f.method.cls x.catchType (.cls c)).assignable cell.cls c = s.vm.assignable cell.cls c := hal.assignable ..
  simp only [covers] at hx
  cases hb : s.vm.assignable cell.cls c with
  | true =>
    rw [hb] at e1
    simp [findHandler.go, hx, h0, g1, g2, hcell, hobj, y3, y4, e1, VmOp.dirties, VmOp.acts]
  | false =>
    rw [hb] at e1
    simp [findHandler.go, hx, h0, g1, g2, hcell, hobj, y3, y4, e1, VmOp.dirties, VmOp.acts]
theorem k_go {e : Env} {s₀ : State} {f : JFrame} {a : Addr} {cell : Cell} {tgt : Nat} (hobj : ∀ k, cell.vm ≠ .statics k) (hk0 : ∃ k, s₀.vm.classes[cell.cls]? = some k) :
    ∀ (rows : List ExceptionTableEntry) (S : State), s₀.WarmedH S.vm → S.heap[a]? = some cell → kTake e.platform s₀ f.method.cls f.pc cell.cls tgt rows →
      ∃ vm', s₀.WarmedH vm' ∧ ∀ (Q : Handler → Pre) (E : CtlPost) (d : Bool) (acts : List Action), wp (findHandler.go f a rows) Q E e d acts S ↔ Q (.found tgt) d acts (S.setVm vm') := by
  obtain ⟨k0, hk0⟩ := hk0
  intro rows
  induction rows with
  | nil => intro S _ _ h; exact absurd h id
  | cons x t ih =>
    intro S hW hcell h
    obtain ⟨hx, h0, c, hl, hd⟩ := h
    obtain ⟨k1, g1, -⟩ := hW.alike.2.2 _ _ hk0
    obtain ⟨dk, _, _, kt, q1, _, _, _, _, q2, _, q3⟩ := hl.here
    obtain ⟨k2, g2, -⟩ := hW.alike.2.2 _ _ q2
    have hW1 : s₀.WarmedH (S.vm.noted f.method.cls x.catchType (.cls c)) := hW.noted q1 q3 (State.rightAt_cls hl)
    have row := fun (Q : Handler → Pre) (E : CtlPost) (d : Bool) (acts : List Action) => k_row (Q := Q) (E := E) (e := e) (dd := d) (acts := acts) (t := t) hx h0 (hW.classLinks hl) hcell hobj ⟨k1, g1⟩ ⟨k2, g2⟩
    rcases hd with ⟨d1, d2⟩ | ⟨d1, d2⟩
    · refine ⟨_, hW1, fun Q E d acts => ?_⟩
      rw [row Q E d acts, if_pos (by rw [hW.alike.assignable]; exact d1), d2]
    · obtain ⟨vm', v1, v2⟩ := ih (S.setVm (S.vm.noted f.method.cls x.catchType (.cls c))) hW1 hcell d2
      refine ⟨vm', v1, fun Q E d acts => ?_⟩
      rw [row Q E d acts, if_neg (by rw [hW.alike.assignable, d1]; decide)]
      exact v2 Q E d acts
theorem k_sv (u : State) (vm' : Vm) (F G : List Frame) : ((u.setFrames F).setVm vm').setFrames G = (u.setVm vm').setFrames G := by
  show ((u.setVm vm').setFrames F).setFrames G = _
  rw [State.setFrames_setFrames]
theorem k_steps {tb : Tables} {e : Env} {s target : State} {g : JFrame} {c : Code} {below : List Frame} {a : Addr} (h : At s g.method c below) {pc : Nat} {vm' : Vm}
    (hfind : ∀ (Q : Handler → Pre) (E : CtlPost) (d : Bool) (acts : List Action), wp (findHandler g a) Q E e d acts ((s.setTop g).pushFrame (.throwing a)) ↔ Q (.found pc) d acts (((s.setTop g).pushFrame (.throwing a)).setVm vm'))
    (hrest : Steps tb e below ((s.setVm vm').setTop { g with pc := pc, stack := [.ref a] }) target) : Steps tb e below ((s.setTop g).pushFrame (.throwing a)) target := by
  obtain ⟨g1, g2⟩ := h.throwing a
  refine Steps.head g1 g2 ?_
  obtain ⟨g₀, hg⟩ := Option.isSome_iff_exists.mp h.top
  obtain ⟨r, hr⟩ := State.topJava?_eq_some.mp hg
  have hr2 : (s.setVm vm').frames = .java g₀ :: r := hr
  have hstep : (stepThrowing e ((s.setTop g).pushFrame (.throwing a)) a (.java g :: s.frames.tail)).Is ((((s.setTop g).pushFrame (.throwing a)).setVm vm').setFrames (.java { g with pc := pc, stack := [.ref a] } :: s.frames.tail)) [] := by
    simp only [stepThrowing, searchFrame, vmDo]
    generalize hv : Sem.go _ e false [] ((s.setTop g).pushFrame (.throwing a)) = res
    obtain ⟨as, rfl, ha⟩ := Sem.eq_ok_of hv (a := Handler.found pc) (s' := ((s.setTop g).pushFrame (.throwing a)).setVm vm') (acts' := []) (by simp [hfind _ _ _ _])
    exact ⟨rfl, ha⟩
  rw [stepThread_throwing (frames_entered h.top _), hstep.1, hr, List.tail_cons, State.pushFrame, k_sv, State.setTop_of_frames _ hr, k_sv]
  rw [State.setTop_of_frames _ hr2] at hrest
  exact hrest
/-- the rows in words: each covers the place; those ahead name a class that E isn't, the last one E's own -/
def kWords (own : String) (args : Array Value) (s : State) (pc : Nat) (E : String) (tgt : Nat) : List (Nat × Nat × Nat × Nat) → Prop
  | [] => False
  | x :: t => x.1 ≤ pc ∧ pc < x.2.1 ∧ x.2.2.2 ≠ 0 ∧ ∃ nm : String, (Cond.classLink own x.2.2.2 nm).before args s = true ∧ (((Cond.castable E nm).before args s = true ∧ x.2.2.1 = tgt) ∨ (va_Nc E nm s ∧ kWords own args s pc E tgt t))
theorem kTake_of {pl : Platform} (hpl : pl.magicAccessors = ({} : Platform).magicAccessors) {own : String} {args : Array Value} {s : State} {pc : Nat} {E : String} {tgt : Nat} {d th : ClassId} (hown : s.vm.findClass own = some d) (hE : s.vm.findClass E = some th) :
    ∀ (hh : List (Nat × Nat × Nat × Nat)), kWords own args s pc E tgt hh → kTake pl s d pc th tgt (tableOf hh) := by
  intro hh
  induction hh with
  | nil => intro h; exact h
  | cons x t ih =>
    intro h
    obtain ⟨h1, h2, h3, nm, h4, h5⟩ := h
    obtain ⟨c6, hc6, hcl6⟩ := Cond.classLink_spec hown h4 pl hpl
    refine ⟨by simp [covers, h1, h2], h3, c6, hcl6, ?_⟩
    rcases h5 with ⟨g1, g2⟩ | ⟨g1, g2⟩
    · obtain ⟨c3, c4, hc3, hc4, hasg⟩ := Cond.castable_spec g1
      cases Option.some.inj (hc3.symm.trans hE)
      cases Option.some.inj (hc4.symm.trans hc6)
      exact Or.inl ⟨hasg, g2⟩
    · obtain ⟨a8, b8, q1, q2, q3⟩ := g1
      cases Option.some.inj (q1.symm.trans hE)
      cases Option.some.inj (q2.symm.trans hc6)
      exact Or.inr ⟨q3, ih g2⟩
/-- the row itself -/
theorem k_catch {p : Program} {l : Launch} {e : Env} {R : Room} {s : State} {m : MethodId} {args : Array Value} {below : List Frame} {meth : Method} {c : Code} {H : Heap} {locs : List Loc} {cells slots : Nat} {Q : State → Prop} {pc : Nat} {ls : Array Slot} {rest : List Value}
    {own E : String} {ce : Cell} {q : Addr} {tgt : Nat} {hh : List (Nat × Nat × Nat × Nat)} (hown : s.vm.findClass own = some m.cls) (htab : c.exceptionTable.toList = tableOf hh) (hw : kWords own args s pc E tgt hh) (hcell : H[q]? = some ce) (hv : ce.vm = .none) (hcl : s.vm.findClass E = some ce.cls)
    (kk : W p l e R s m args below meth c H locs cells slots Q (F0 m tgt ls [.ref q])) : vx_W p l e R s m args below meth c H locs cells slots Q (F0 m pc ls rest) q := by
  intro T hT X
  have hpl : e.platform.magicAccessors = ({} : Platform).magicAccessors := by rw [X.admits.platform]
  have ht := kTake_of hpl hown hcl hh hw
  rw [← htab] at ht
  obtain ⟨vm', hW', hf⟩ := k_go (e := e) (s₀ := s) (f := F0 m pc ls rest) (a := q) (cell := ce) (tgt := tgt) (VmData.ne_statics_of (by rw [hv]; rfl)) (by obtain ⟨k9, h9, -⟩ := Vm.findClass_spec hcl; exact ⟨k9, h9⟩) c.exceptionTable.toList ((T.setTop (F0 m pc ls rest)).pushFrame (.throwing q)) X.warmed (by show T.heap[q]? = some ce; rw [hT]; exact hcell) ht
  obtain ⟨t, a1, b1⟩ := kk (T.setVm vm') hT (X.noted hW')
  exact ⟨t, k_steps (g := F0 m pc ls rest) X.here (fun Q E d acts => by rw [W.findHandler_eq (meth := meth) (code := c) X.method' X.code]; exact hf Q E d acts) a1, b1⟩

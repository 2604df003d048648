/-! the engine's rows as the walks use them: a stored value gets a name, a changed picture gets a name; fewer locals -/
section EngineS
variable {X : CxT} {cc : ByteArray} {own : String} {f n nL pc k : Nat} {L : List (Nat × Vv)} {st : List Vv} {h : Hp}
theorem s_sub {L' : List (Nat × Vv)} (ks : List Nat) (hl : ks.filterMap (fun j => L[j]?) = L') (kk : Wh X pc L' st h k) : Wh X pc L st h k := by
  obtain ⟨p, l, e, R, s, m, args, below, meth, c, D, ad, cI, cZ, cJ, A, h0, M, post, px, mc, ret⟩ := X
  intro H locs ls a1 a2 a3 a4 a5 a6 a7 a8
  have hsub : ∀ q ∈ L', q ∈ L := by
    intro q hq
    subst hl
    obtain ⟨j, -, hj⟩ := List.mem_filterMap.mp hq
    exact List.mem_of_getElem? hj
  refine kk H locs ls a1 a2 a3 a4 a5 (fun q hq => a6 q (hsub q hq)) a7 ⟨a8.1, a8.2.1, fun q hq => ?_⟩
  obtain ⟨w, hw, rfl⟩ := List.mem_map.mp hq
  exact a8.2.2 _ (List.mem_map.mpr ⟨w, hsub w hw, rfl⟩)
/-- what every state has: the picture in range, what may not change unchanged, the locals in range -/
theorem s_use (kk : RH h → Fr (XM X) (Xh X) h → (∀ q ∈ L, okL q.2) → Wh X pc L st h k) : Wh X pc L st h k := by
  obtain ⟨p, l, e, R, s, m, args, below, meth, c, D, ad, cI, cZ, cJ, A, h0, M, post, px, mc, ret⟩ := X
  intro H locs ls a1 a2 a3 a4 a5 a6 a7 a8
  exact kk a4 a5 a6 H locs ls a1 a2 a3 a4 a5 a6 a7 a8
theorem s_istore_n {q : Fin 4} {x : Int} (C : CX X cc own f n nL) (d : decode cc pc = .ok (.istore_n q, 1)) (hn : (q : Nat) < nL) (kk : ∀ y, y = x → Wh X (pc + 1) (((q : Nat), vi y) :: L.filter (fun w => !(w.1 == (q : Nat)))) st h k) : Wh X pc L (vi x :: st) h k := r_istore_n C d hn rfl (kk x rfl)
theorem s_istore {i : Nat} {x : Int} (C : CX X cc own f n nL) (d : decode cc pc = .ok (.istore i, 2)) (hn : i < nL) (kk : ∀ y, y = x → Wh X (pc + 2) ((i, vi y) :: L.filter (fun w => !(w.1 == i))) st h k) : Wh X pc L (vi x :: st) h k := r_istore C d hn rfl (kk x rfl)
theorem s_iinc {i : Nat} {z x : Int} (j : Nat) (C : CX X cc own f n nL) (d : decode cc pc = .ok (.iinc i z, 3)) (hj : L[j]? = some (i, vi x)) (hn : i < nL) (o : InR (x + z)) (kk : ∀ y, y = x + z → Wh X (pc + 3) ((i, vi y) :: L.filter (fun w => !(w.1 == i))) st h k) : Wh X pc L st h k := r_iinc j C d hj hn o rfl (kk _ rfl)
theorem s_iastore {r N : Nat} {i x : Int} {M : List Nat} (C : CX X cc own f n nL) (d : decode cc pc = .ok (.iastore, 1)) (hy : lay[r]? = some (.inl (0, N))) (hM : XM X = M) (hr : r ∈ M) (o : 0 ≤ i ∧ i < N) (kk : ∀ h1, h1 = hup h r i x → Wh X (pc + 1) L st h1 k) : Wh X pc L (vi x :: vi i :: vr r :: st) h k := r_iastore C d hy hM hr o (kk _ rfl)
theorem s_bastore {r N : Nat} {i x : Int} {M : List Nat} (C : CX X cc own f n nL) (d : decode cc pc = .ok (.bastore, 1)) (hy : lay[r]? = some (.inl (1, N))) (hM : XM X = M) (hr : r ∈ M) (o : 0 ≤ i ∧ i < N) (o1 : x = 0 ∨ x = 1) (kk : ∀ h1, h1 = hup h r i x → Wh X (pc + 1) L st h1 k) : Wh X pc L (vi x :: vi i :: vr r :: st) h k := r_bastore C d hy hM hr o o1 (kk _ rfl)
theorem s_putI {r i idx ci N : Nat} {x : Int} {fs : List (Option Nat)} {Cn : String} {T : u_T} {ty0 : Nat → FieldType} {M : List Nat} (C : CX X cc own f n nL) (d : decode cc pc = .ok (.putfield idx, 3)) (hy : lay[r]? = some (.inr (ci, fs))) (hc : vwCl[ci]? = some (Cn, T, N)) (hi : i < N) (hf : fs[i]? = some none) (hin : ∀ w ∈ u_ws Cn T N, w ∈ wsL_law) (hl : Cond.fieldLink own idx (T i).1 (T i).2.1 (T i).2.2.1 ∈ wsL_law)
    (hty : ∀ k, k < N → parseFieldDescriptor (T k).2.2.1 = some (ty0 k)) (hnm : ∀ a, a < N → ∀ b, b < N → a ≠ b → (T a).2.1 ≠ (T b).2.1) (hfin : (T i).2.2.2 = false) (hint : parseFieldDescriptor (T i).2.2.1 = some .int) (hM : XM X = M) (hr : r ∈ M)
    (kk : ∀ h1, h1 = hup h r i x → Wh X (pc + 3) L st h1 k) : Wh X pc L (vi x :: vr r :: st) h k := r_putI C d hy hc hi hf hin hl hty hnm hfin hint hM hr (kk _ rfl)
theorem v1s (xs : List Int) : ∀ v ∈ xs.map vi, v1 v := by
  intro v hv
  obtain ⟨x, -, rfl⟩ := List.mem_map.mp hv
  exact trivial
theorem fr0 {h h1 : Hp} (a : Fr [] h h1) : h1 = h := funext fun q => a q (fun z => by cases z)
/-- a call of a method that returns an int (or a boolean), and changes cells -/
theorem s_calli {y : MethodName} {ccY : ByteArray} {nLY : Nat} {tyY : FieldType} {fY nY idx r ci N : Nat} {Cn : String} {T : u_T} {fs : List (Option Nat)} (xs : List Int) (rest : List Vv) {MY : List Nat} {postY : Int → Hp → Prop}
    (C : CX X cc own f n nL) (d : decode cc pc = .ok (.invokevirtual idx, 3)) (ok : CallOk y ccY nLY (some tyY) Cn own idx xs.length) (hy : lay[r]? = some (.inr (ci, fs))) (hc : vwCl[ci]? = some (Cn, T, N)) (hf : fY + 1 ≤ f) (hn : 8 + (nLY + 11) + nY ≤ n) (hrest : rest.length ≤ 4) (hst : st = (xs.map vi).reverse ++ vr r :: rest) {M : List Nat} (hXM : XM X = M) (hM : ∀ a ∈ MY, a ∈ M)
    (hC : Ct (Xl X) y ccY nLY (some tyY) fY nY 0 (vr r :: xs.map vi) h MY postY (fun _ => False))
    (kk : ∀ (r' : Int) (h' : Hp), Fr MY h h' → RH h' → InR r' → postY r' h' → Wh X (pc + 3) L (vi r' :: rest) h' 0) : Wh X pc L st h 0 :=
  r_calli (k := 0) (mcY := 0) (av := xs.map vi) (rest := rest) C d hC (by rw [List.length_map]; exact ok) hst hy hc (v1s xs) hf hn hrest (Nat.zero_le _) (by rw [hXM]; exact hM) (fun E hE => absurd hE id) kk
/-- .. and changes none -/
theorem s_calli0 {y : MethodName} {ccY : ByteArray} {nLY : Nat} {tyY : FieldType} {fY nY idx r ci N : Nat} {Cn : String} {T : u_T} {fs : List (Option Nat)} (xs : List Int) (rest : List Vv) {postY : Int → Hp → Prop}
    (C : CX X cc own f n nL) (d : decode cc pc = .ok (.invokevirtual idx, 3)) (ok : CallOk y ccY nLY (some tyY) Cn own idx xs.length) (hy : lay[r]? = some (.inr (ci, fs))) (hc : vwCl[ci]? = some (Cn, T, N)) (hf : fY + 1 ≤ f) (hn : 8 + (nLY + 11) + nY ≤ n) (hrest : rest.length ≤ 4) (hst : st = (xs.map vi).reverse ++ vr r :: rest)
    (hC : Ct (Xl X) y ccY nLY (some tyY) fY nY 0 (vr r :: xs.map vi) h [] postY (fun _ => False))
    (kk : ∀ (r' : Int), InR r' → postY r' h → Wh X (pc + 3) L (vi r' :: rest) h 0) : Wh X pc L st h 0 :=
  r_calli (k := 0) (mcY := 0) (av := xs.map vi) (rest := rest) C d hC (by rw [List.length_map]; exact ok) hst hy hc (v1s xs) hf hn hrest (Nat.zero_le _) (fun _ q => by cases q) (fun E hE => absurd hE id) (fun r' h' g1 _ g3 g4 => by cases fr0 g1; exact kk r' g3 g4)
/-- a call of a void method that changes cells -/
theorem s_callv {y : MethodName} {ccY : ByteArray} {nLY : Nat} {fY nY idx r ci N : Nat} {Cn : String} {T : u_T} {fs : List (Option Nat)} (xs : List Int) (rest : List Vv) {MY : List Nat} {postY : Int → Hp → Prop}
    (C : CX X cc own f n nL) (d : decode cc pc = .ok (.invokevirtual idx, 3)) (ok : CallOk y ccY nLY none Cn own idx xs.length) (hy : lay[r]? = some (.inr (ci, fs))) (hc : vwCl[ci]? = some (Cn, T, N)) (hf : fY + 1 ≤ f) (hn : 8 + (nLY + 11) + nY ≤ n) (hrest : rest.length ≤ 4) (hst : st = (xs.map vi).reverse ++ vr r :: rest) {M : List Nat} (hXM : XM X = M) (hM : ∀ a ∈ MY, a ∈ M)
    (hC : Ct (Xl X) y ccY nLY none fY nY 0 (vr r :: xs.map vi) h MY postY (fun _ => False))
    (kk : ∀ (h' : Hp), Fr MY h h' → RH h' → postY 0 h' → Wh X (pc + 3) L rest h' 0) : Wh X pc L st h 0 :=
  r_callv (k := 0) (mcY := 0) (av := xs.map vi) (rest := rest) C d hC (by rw [List.length_map]; exact ok) hst hy hc (v1s xs) hf hn hrest (Nat.zero_le _) (by rw [hXM]; exact hM) (fun E hE => absurd hE id) kk
/-- a call of a void method that throws E0 where tf holds, and changes nothing -/
theorem s_callx {y : MethodName} {ccY : ByteArray} {nLY : Nat} {fY nY idx r ci N : Nat} {Cn : String} {T : u_T} {fs : List (Option Nat)} (xs : List Int) (rest : List Vv) {postY : Int → Hp → Prop}
    (C : CX X cc own f n nL) (d : decode cc pc = .ok (.invokevirtual idx, 3)) (ok : CallOk y ccY nLY none Cn own idx xs.length) (hy : lay[r]? = some (.inr (ci, fs))) (hc : vwCl[ci]? = some (Cn, T, N)) (hf : fY + 1 ≤ f) (hn : 8 + (nLY + 11) + nY ≤ n) (hrest : rest.length ≤ 4) (hst : st = (xs.map vi).reverse ++ vr r :: rest) {tf : Prop} {E0 : String}
    (hC : ∀ mc, (tf → 1 ≤ mc) → Ct (Xl X) y ccY nLY none fY nY mc (vr r :: xs.map vi) h [] (fun r' h' => ¬ tf ∧ postY r' h') (fun E => tf ∧ E = E0))
    (kx : tf → XX X E0 ∧ h = Xh X ∧ 1 ≤ Xc X)
    (kk : ¬ tf → postY 0 h → Wh X (pc + 3) L rest h 0) : Wh X pc L st h 0 :=
  Classical.byCases (fun ht : tf => r_callv (k := 0) (mcY := 1) (av := xs.map vi) (rest := rest) C d (hC 1 (fun _ => Nat.le_refl 1)) (by rw [List.length_map]; exact ok) hst hy hc (v1s xs) hf hn hrest (kx ht).2.2 (fun _ q => by cases q) (fun E hE => by rw [hE.2]; exact ⟨(kx ht).1, (kx ht).2.1⟩) (fun h' _ _ g => absurd ht g.1))
    (fun ht : ¬ tf => r_callv (k := 0) (mcY := 0) (av := xs.map vi) (rest := rest) C d (hC 0 (fun z => absurd z ht)) (by rw [List.length_map]; exact ok) hst hy hc (v1s xs) hf hn hrest (Nat.zero_le _) (fun _ q => by cases q) (fun E hE => absurd hE.1 ht) (fun h' g1 _ g => by cases fr0 g1; exact kk ht g.2))
end EngineS

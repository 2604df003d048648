/-! the engine's rows: division, bits, stack, branches, fields, arrays, returns -/
def bop (o : Int32 → Int32 → Int32) (x y : Int) : Int := (o (i32 x) (i32 y)).toInt
theorem bop_R (o : Int32 → Int32 → Int32) (x y : Int) : InR (bop o x y) := inR_toInt _
theorem bop_i (o : Int32 → Int32 → Int32) (x y : Int) : i32 (bop o x y) = o (i32 x) (i32 y) := i32_of _
def jand (x y : Int) : Int := bop (fun a b => a &&& b) x y
def jor (x y : Int) : Int := bop (fun a b => a ||| b) x y
def jxor (x y : Int) : Int := bop (fun a b => a ^^^ b) x y
def jshl (x y : Int) : Int := bop (fun a b => a <<< (b &&& 31)) x y
def jshr (x y : Int) : Int := bop (fun a b => a >>> (b &&& 31)) x y
def jushr (x y : Int) : Int := bop (fun a b => (a.toUInt32 >>> (b.toUInt32 &&& Int32.toUInt32 31)).toInt32) x y
section EngineRows2
variable {X : CxT} {cc : ByteArray} {own : String} {f n nL pc k : Nat} {L : List (Nat × Vv)} {st : List Vv} {h : Hp}
theorem r_idiv {x y : Int} (C : CX X cc own f n nL) (d : decode cc pc = .ok (.idiv, 1)) (o : 0 < y ∧ InR (x.tdiv y)) (kk : Wh X (pc + 1) L (vi (x.tdiv y) :: st) h k) : Wh X pc L (vi y :: vi x :: st) h k := by
  obtain ⟨p, l, e, R, s, m, args, below, meth, c, D, ad, cI, cZ, cJ, A, h0, M, post, px, mc, ret⟩ := X
  intro H locs ls a1 a2 a3 a4 a5 a6 a7 a8
  obtain ⟨hx, hb, -⟩ := C
  have hy : InR y := okH a7
  have hX : InR x := okH (okT a7)
  have e1 : i32 (x.tdiv y) = i32 x / i32 y := by
    rw [← Int32.toInt_inj, i32_toInt o.2, Int32.toInt_div_of_ne_right _ _ (fun q => ?_), i32_toInt hX, i32_toInt hy]
    have h2 := congrArg Int32.toInt q
    rw [i32_toInt hy] at h2
    have h3 : (-1 : Int32).toInt = -1 := by decide
    omega
  refine lv_idiv (x := i32 x) (y := i32 y) hx hb d (fun q => ?_) ?_
  · have h2 := (i32_eq hy inR_0).mp q
    omega
  · rw [← e1]
    exact kk H locs ls a1 a2 a3 a4 a5 a6 (okS1 (v := vi (x.tdiv y)) o.2 (okT (okT a7))) a8
theorem r_irem {x y : Int} (C : CX X cc own f n nL) (d : decode cc pc = .ok (.irem, 1)) (o : 0 < y ∧ InR (x.tmod y)) (kk : Wh X (pc + 1) L (vi (x.tmod y) :: st) h k) : Wh X pc L (vi y :: vi x :: st) h k := by
  obtain ⟨p, l, e, R, s, m, args, below, meth, c, D, ad, cI, cZ, cJ, A, h0, M, post, px, mc, ret⟩ := X
  intro H locs ls a1 a2 a3 a4 a5 a6 a7 a8
  obtain ⟨hx, hb, -⟩ := C
  have hy : InR y := okH a7
  have hX : InR x := okH (okT a7)
  have e1 : i32 (x.tmod y) = i32 x - i32 x / i32 y * i32 y := by
    rw [← Int32.toInt_inj, i32_toInt o.2, rem_toInt, i32_toInt hX, i32_toInt hy]
  refine lv_irem (x := i32 x) (y := i32 y) hx hb d (fun q => ?_) ?_
  · have h2 := (i32_eq hy inR_0).mp q
    omega
  · rw [← e1]
    exact kk H locs ls a1 a2 a3 a4 a5 a6 (okS1 (v := vi (x.tmod y)) o.2 (okT (okT a7))) a8
theorem r_iand {x y : Int} (C : CX X cc own f n nL) (d : decode cc pc = .ok (.iand, 1)) (kk : Wh X (pc + 1) L (vi (jand x y) :: st) h k) : Wh X pc L (vi y :: vi x :: st) h k := by
  obtain ⟨p, l, e, R, s, m, args, below, meth, c, D, ad, cI, cZ, cJ, A, h0, M, post, px, mc, ret⟩ := X
  intro H locs ls a1 a2 a3 a4 a5 a6 a7 a8
  obtain ⟨hx, hb, -⟩ := C
  refine lv_iand (x := i32 x) (y := i32 y) hx hb d ?_
  rw [← bop_i (fun a b => a &&& b) x y]
  exact kk H locs ls a1 a2 a3 a4 a5 a6 (okS1 (v := vi (jand x y)) (bop_R _ _ _) (okT (okT a7))) a8
theorem r_ior {x y : Int} (C : CX X cc own f n nL) (d : decode cc pc = .ok (.ior, 1)) (kk : Wh X (pc + 1) L (vi (jor x y) :: st) h k) : Wh X pc L (vi y :: vi x :: st) h k := by
  obtain ⟨p, l, e, R, s, m, args, below, meth, c, D, ad, cI, cZ, cJ, A, h0, M, post, px, mc, ret⟩ := X
  intro H locs ls a1 a2 a3 a4 a5 a6 a7 a8
  obtain ⟨hx, hb, -⟩ := C
  refine lv_ior (x := i32 x) (y := i32 y) hx hb d ?_
  rw [← bop_i (fun a b => a ||| b) x y]
  exact kk H locs ls a1 a2 a3 a4 a5 a6 (okS1 (v := vi (jor x y)) (bop_R _ _ _) (okT (okT a7))) a8
theorem r_ixor {x y : Int} (C : CX X cc own f n nL) (d : decode cc pc = .ok (.ixor, 1)) (kk : Wh X (pc + 1) L (vi (jxor x y) :: st) h k) : Wh X pc L (vi y :: vi x :: st) h k := by
  obtain ⟨p, l, e, R, s, m, args, below, meth, c, D, ad, cI, cZ, cJ, A, h0, M, post, px, mc, ret⟩ := X
  intro H locs ls a1 a2 a3 a4 a5 a6 a7 a8
  obtain ⟨hx, hb, -⟩ := C
  refine lv_ixor (x := i32 x) (y := i32 y) hx hb d ?_
  rw [← bop_i (fun a b => a ^^^ b) x y]
  exact kk H locs ls a1 a2 a3 a4 a5 a6 (okS1 (v := vi (jxor x y)) (bop_R _ _ _) (okT (okT a7))) a8
theorem r_ishl {x y : Int} (C : CX X cc own f n nL) (d : decode cc pc = .ok (.ishl, 1)) (kk : Wh X (pc + 1) L (vi (jshl x y) :: st) h k) : Wh X pc L (vi y :: vi x :: st) h k := by
  obtain ⟨p, l, e, R, s, m, args, below, meth, c, D, ad, cI, cZ, cJ, A, h0, M, post, px, mc, ret⟩ := X
  intro H locs ls a1 a2 a3 a4 a5 a6 a7 a8
  obtain ⟨hx, hb, -⟩ := C
  refine lv_ishl (x := i32 x) (y := i32 y) hx hb d ?_
  rw [← bop_i (fun a b => a <<< (b &&& 31)) x y]
  exact kk H locs ls a1 a2 a3 a4 a5 a6 (okS1 (v := vi (jshl x y)) (bop_R _ _ _) (okT (okT a7))) a8
theorem r_ishr {x y : Int} (C : CX X cc own f n nL) (d : decode cc pc = .ok (.ishr, 1)) (kk : Wh X (pc + 1) L (vi (jshr x y) :: st) h k) : Wh X pc L (vi y :: vi x :: st) h k := by
  obtain ⟨p, l, e, R, s, m, args, below, meth, c, D, ad, cI, cZ, cJ, A, h0, M, post, px, mc, ret⟩ := X
  intro H locs ls a1 a2 a3 a4 a5 a6 a7 a8
  obtain ⟨hx, hb, -⟩ := C
  refine lv_ishr (x := i32 x) (y := i32 y) hx hb d ?_
  rw [← bop_i (fun a b => a >>> (b &&& 31)) x y]
  exact kk H locs ls a1 a2 a3 a4 a5 a6 (okS1 (v := vi (jshr x y)) (bop_R _ _ _) (okT (okT a7))) a8
theorem r_iushr {x y : Int} (C : CX X cc own f n nL) (d : decode cc pc = .ok (.iushr, 1)) (kk : Wh X (pc + 1) L (vi (jushr x y) :: st) h k) : Wh X pc L (vi y :: vi x :: st) h k := by
  obtain ⟨p, l, e, R, s, m, args, below, meth, c, D, ad, cI, cZ, cJ, A, h0, M, post, px, mc, ret⟩ := X
  intro H locs ls a1 a2 a3 a4 a5 a6 a7 a8
  obtain ⟨hx, hb, -⟩ := C
  refine lv_iushr (x := i32 x) (y := i32 y) (v := i32 (jushr x y)) hx hb d (bop_i (fun a b => (a.toUInt32 >>> (b.toUInt32 &&& Int32.toUInt32 31)).toInt32) x y).symm ?_
  exact kk H locs ls a1 a2 a3 a4 a5 a6 (okS1 (v := vi (jushr x y)) (bop_R _ _ _) (okT (okT a7))) a8
def v1 (v : Vv) : Prop := match v with
  | .inl _ => True
  | .inr (.inl _) => False
  | .inr (.inr _) => True
theorem v1_cat {ad : Nat → Nat} {v : Vv} (hv : v1 v) : (cV ad v).category = 1 := by
  obtain x | x | x := v
  · rfl
  · exact absurd hv (by exact id)
  · rfl
theorem r_dup {v : Vv} (C : CX X cc own f n nL) (d : decode cc pc = .ok (.dup, 1)) (hv : v1 v) (kk : Wh X (pc + 1) L (v :: v :: st) h k) : Wh X pc L (v :: st) h k := by
  obtain ⟨p, l, e, R, s, m, args, below, meth, c, D, ad, cI, cZ, cJ, A, h0, M, post, px, mc, ret⟩ := X
  intro H locs ls a1 a2 a3 a4 a5 a6 a7 a8
  obtain ⟨hx, hb, -⟩ := C
  exact lv_dup hx hb d (v1_cat hv) (kk H locs ls a1 a2 a3 a4 a5 a6 (okS1 (okH a7) a7) a8)
theorem r_dup2 {v w : Vv} (C : CX X cc own f n nL) (d : decode cc pc = .ok (.dup2, 1)) (hv : v1 v) (hw : v1 w) (kk : Wh X (pc + 1) L (v :: w :: v :: w :: st) h k) : Wh X pc L (v :: w :: st) h k := by
  obtain ⟨p, l, e, R, s, m, args, below, meth, c, D, ad, cI, cZ, cJ, A, h0, M, post, px, mc, ret⟩ := X
  intro H locs ls a1 a2 a3 a4 a5 a6 a7 a8
  obtain ⟨hx, hb, -⟩ := C
  exact lv_dup2_11 hx hb d (v1_cat hv) (v1_cat hw) (kk H locs ls a1 a2 a3 a4 a5 a6 (okS1 (okH a7) (okS1 (okH (okT a7)) a7)) a8)
theorem r_goto {off : Int} {tgt : Nat} (C : CX X cc own f n nL) (d : decode cc pc = .ok (.goto off, 3)) (ht : (pc : Int) + off = (tgt : Int)) (kk : Wh X tgt L st h k) : Wh X pc L st h k := by
  obtain ⟨p, l, e, R, s, m, args, below, meth, c, D, ad, cI, cZ, cJ, A, h0, M, post, px, mc, ret⟩ := X
  intro H locs ls a1 a2 a3 a4 a5 a6 a7 a8
  obtain ⟨hx, hb, -⟩ := C
  exact lv_goto hx hb d ht (kk H locs ls a1 a2 a3 a4 a5 a6 a7 a8)
theorem r_icmp_eq {x y : Int} {off : Int} {tgt : Nat} (C : CX X cc own f n nL) (d : decode cc pc = .ok (.if_icmp .eq off, 3)) (ht : (pc : Int) + off = (tgt : Int)) (kt : x = y → Wh X tgt L st h k) (kf : ¬ x = y → Wh X (pc + 3) L st h k) : Wh X pc L (vi y :: vi x :: st) h k := by
  obtain ⟨p, l, e, R, s, m, args, below, meth, c, D, ad, cI, cZ, cJ, A, h0, M, post, px, mc, ret⟩ := X
  intro H locs ls a1 a2 a3 a4 a5 a6 a7 a8
  obtain ⟨hx, hb, -⟩ := C
  have hy : InR y := okH a7
  have hX : InR x := okH (okT a7)
  exact lv_icmp_eq (x := i32 x) (y := i32 y) hx hb d ht (fun q => kt ((i32_eq hX hy).mp q) H locs ls a1 a2 a3 a4 a5 a6 (okT (okT a7)) a8) (fun q => kf (fun z => q ((i32_eq hX hy).mpr z)) H locs ls a1 a2 a3 a4 a5 a6 (okT (okT a7)) a8)
theorem r_icmp_lt {x y : Int} {off : Int} {tgt : Nat} (C : CX X cc own f n nL) (d : decode cc pc = .ok (.if_icmp .lt off, 3)) (ht : (pc : Int) + off = (tgt : Int)) (kt : x < y → Wh X tgt L st h k) (kf : ¬ x < y → Wh X (pc + 3) L st h k) : Wh X pc L (vi y :: vi x :: st) h k := by
  obtain ⟨p, l, e, R, s, m, args, below, meth, c, D, ad, cI, cZ, cJ, A, h0, M, post, px, mc, ret⟩ := X
  intro H locs ls a1 a2 a3 a4 a5 a6 a7 a8
  obtain ⟨hx, hb, -⟩ := C
  have hy : InR y := okH a7
  have hX : InR x := okH (okT a7)
  exact lv_icmp_lt (x := i32 x) (y := i32 y) hx hb d ht (fun q => kt ((i32_lt hX hy).mp q) H locs ls a1 a2 a3 a4 a5 a6 (okT (okT a7)) a8) (fun q => kf (fun z => q ((i32_lt hX hy).mpr z)) H locs ls a1 a2 a3 a4 a5 a6 (okT (okT a7)) a8)
theorem r_icmp_ge {x y : Int} {off : Int} {tgt : Nat} (C : CX X cc own f n nL) (d : decode cc pc = .ok (.if_icmp .ge off, 3)) (ht : (pc : Int) + off = (tgt : Int)) (kt : y ≤ x → Wh X tgt L st h k) (kf : ¬ y ≤ x → Wh X (pc + 3) L st h k) : Wh X pc L (vi y :: vi x :: st) h k := by
  obtain ⟨p, l, e, R, s, m, args, below, meth, c, D, ad, cI, cZ, cJ, A, h0, M, post, px, mc, ret⟩ := X
  intro H locs ls a1 a2 a3 a4 a5 a6 a7 a8
  obtain ⟨hx, hb, -⟩ := C
  have hy : InR y := okH a7
  have hX : InR x := okH (okT a7)
  exact lv_icmp_ge (x := i32 x) (y := i32 y) hx hb d ht (fun q => kt ((i32_le hy hX).mp q) H locs ls a1 a2 a3 a4 a5 a6 (okT (okT a7)) a8) (fun q => kf (fun z => q ((i32_le hy hX).mpr z)) H locs ls a1 a2 a3 a4 a5 a6 (okT (okT a7)) a8)
theorem r_icmp_gt {x y : Int} {off : Int} {tgt : Nat} (C : CX X cc own f n nL) (d : decode cc pc = .ok (.if_icmp .gt off, 3)) (ht : (pc : Int) + off = (tgt : Int)) (kt : y < x → Wh X tgt L st h k) (kf : ¬ y < x → Wh X (pc + 3) L st h k) : Wh X pc L (vi y :: vi x :: st) h k := by
  obtain ⟨p, l, e, R, s, m, args, below, meth, c, D, ad, cI, cZ, cJ, A, h0, M, post, px, mc, ret⟩ := X
  intro H locs ls a1 a2 a3 a4 a5 a6 a7 a8
  obtain ⟨hx, hb, -⟩ := C
  have hy : InR y := okH a7
  have hX : InR x := okH (okT a7)
  exact lv_icmp_gt (x := i32 x) (y := i32 y) hx hb d ht (fun q => kt ((i32_lt hy hX).mp q) H locs ls a1 a2 a3 a4 a5 a6 (okT (okT a7)) a8) (fun q => kf (fun z => q ((i32_lt hy hX).mpr z)) H locs ls a1 a2 a3 a4 a5 a6 (okT (okT a7)) a8)
theorem r_icmp_le {x y : Int} {off : Int} {tgt : Nat} (C : CX X cc own f n nL) (d : decode cc pc = .ok (.if_icmp .le off, 3)) (ht : (pc : Int) + off = (tgt : Int)) (kt : x ≤ y → Wh X tgt L st h k) (kf : ¬ x ≤ y → Wh X (pc + 3) L st h k) : Wh X pc L (vi y :: vi x :: st) h k := by
  obtain ⟨p, l, e, R, s, m, args, below, meth, c, D, ad, cI, cZ, cJ, A, h0, M, post, px, mc, ret⟩ := X
  intro H locs ls a1 a2 a3 a4 a5 a6 a7 a8
  obtain ⟨hx, hb, -⟩ := C
  have hy : InR y := okH a7
  have hX : InR x := okH (okT a7)
  exact lv_icmp_le (x := i32 x) (y := i32 y) hx hb d ht (fun q => kt ((i32_le hX hy).mp q) H locs ls a1 a2 a3 a4 a5 a6 (okT (okT a7)) a8) (fun q => kf (fun z => q ((i32_le hX hy).mpr z)) H locs ls a1 a2 a3 a4 a5 a6 (okT (okT a7)) a8)
theorem r_icmp_ne {x y : Int} {off : Int} {tgt : Nat} (C : CX X cc own f n nL) (d : decode cc pc = .ok (.if_icmp .ne off, 3)) (ht : (pc : Int) + off = (tgt : Int)) (kt : ¬ x = y → Wh X tgt L st h k) (kf : x = y → Wh X (pc + 3) L st h k) : Wh X pc L (vi y :: vi x :: st) h k := by
  obtain ⟨p, l, e, R, s, m, args, below, meth, c, D, ad, cI, cZ, cJ, A, h0, M, post, px, mc, ret⟩ := X
  intro H locs ls a1 a2 a3 a4 a5 a6 a7 a8
  obtain ⟨hx, hb, -⟩ := C
  have hy : InR y := okH a7
  have hX : InR x := okH (okT a7)
  exact lv_icmp_ne (x := i32 x) (y := i32 y) hx hb d ht (fun q => kt (fun z => q ((i32_eq hX hy).mpr z)) H locs ls a1 a2 a3 a4 a5 a6 (okT (okT a7)) a8) (fun q => kf ((i32_eq hX hy).mp q) H locs ls a1 a2 a3 a4 a5 a6 (okT (okT a7)) a8)
theorem r_if_eq {x : Int} {off : Int} {tgt : Nat} (C : CX X cc own f n nL) (d : decode cc pc = .ok (.ifCond .eq off, 3)) (ht : (pc : Int) + off = (tgt : Int)) (kt : x = 0 → Wh X tgt L st h k) (kf : ¬ x = 0 → Wh X (pc + 3) L st h k) : Wh X pc L (vi x :: st) h k := by
  obtain ⟨p, l, e, R, s, m, args, below, meth, c, D, ad, cI, cZ, cJ, A, h0, M, post, px, mc, ret⟩ := X
  intro H locs ls a1 a2 a3 a4 a5 a6 a7 a8
  obtain ⟨hx, hb, -⟩ := C
  have hX : InR x := okH a7
  exact lv_if_eq (x := i32 x) hx hb d ht (fun q => kt ((i32_eq hX inR_0).mp q) H locs ls a1 a2 a3 a4 a5 a6 (okT a7) a8) (fun q => kf (fun z => q ((i32_eq hX inR_0).mpr z)) H locs ls a1 a2 a3 a4 a5 a6 (okT a7) a8)
theorem r_if_lt {x : Int} {off : Int} {tgt : Nat} (C : CX X cc own f n nL) (d : decode cc pc = .ok (.ifCond .lt off, 3)) (ht : (pc : Int) + off = (tgt : Int)) (kt : x < 0 → Wh X tgt L st h k) (kf : ¬ x < 0 → Wh X (pc + 3) L st h k) : Wh X pc L (vi x :: st) h k := by
  obtain ⟨p, l, e, R, s, m, args, below, meth, c, D, ad, cI, cZ, cJ, A, h0, M, post, px, mc, ret⟩ := X
  intro H locs ls a1 a2 a3 a4 a5 a6 a7 a8
  obtain ⟨hx, hb, -⟩ := C
  have hX : InR x := okH a7
  exact lv_if_lt (x := i32 x) hx hb d ht (fun q => kt ((i32_lt hX inR_0).mp q) H locs ls a1 a2 a3 a4 a5 a6 (okT a7) a8) (fun q => kf (fun z => q ((i32_lt hX inR_0).mpr z)) H locs ls a1 a2 a3 a4 a5 a6 (okT a7) a8)
theorem r_if_ge {x : Int} {off : Int} {tgt : Nat} (C : CX X cc own f n nL) (d : decode cc pc = .ok (.ifCond .ge off, 3)) (ht : (pc : Int) + off = (tgt : Int)) (kt : 0 ≤ x → Wh X tgt L st h k) (kf : ¬ 0 ≤ x → Wh X (pc + 3) L st h k) : Wh X pc L (vi x :: st) h k := by
  obtain ⟨p, l, e, R, s, m, args, below, meth, c, D, ad, cI, cZ, cJ, A, h0, M, post, px, mc, ret⟩ := X
  intro H locs ls a1 a2 a3 a4 a5 a6 a7 a8
  obtain ⟨hx, hb, -⟩ := C
  have hX : InR x := okH a7
  exact lv_if_ge (x := i32 x) hx hb d ht (fun q => kt ((i32_le inR_0 hX).mp q) H locs ls a1 a2 a3 a4 a5 a6 (okT a7) a8) (fun q => kf (fun z => q ((i32_le inR_0 hX).mpr z)) H locs ls a1 a2 a3 a4 a5 a6 (okT a7) a8)
theorem r_if_gt {x : Int} {off : Int} {tgt : Nat} (C : CX X cc own f n nL) (d : decode cc pc = .ok (.ifCond .gt off, 3)) (ht : (pc : Int) + off = (tgt : Int)) (kt : 0 < x → Wh X tgt L st h k) (kf : ¬ 0 < x → Wh X (pc + 3) L st h k) : Wh X pc L (vi x :: st) h k := by
  obtain ⟨p, l, e, R, s, m, args, below, meth, c, D, ad, cI, cZ, cJ, A, h0, M, post, px, mc, ret⟩ := X
  intro H locs ls a1 a2 a3 a4 a5 a6 a7 a8
  obtain ⟨hx, hb, -⟩ := C
  have hX : InR x := okH a7
  exact lv_if_gt (x := i32 x) hx hb d ht (fun q => kt ((i32_lt inR_0 hX).mp q) H locs ls a1 a2 a3 a4 a5 a6 (okT a7) a8) (fun q => kf (fun z => q ((i32_lt inR_0 hX).mpr z)) H locs ls a1 a2 a3 a4 a5 a6 (okT a7) a8)
theorem r_if_le {x : Int} {off : Int} {tgt : Nat} (C : CX X cc own f n nL) (d : decode cc pc = .ok (.ifCond .le off, 3)) (ht : (pc : Int) + off = (tgt : Int)) (kt : x ≤ 0 → Wh X tgt L st h k) (kf : ¬ x ≤ 0 → Wh X (pc + 3) L st h k) : Wh X pc L (vi x :: st) h k := by
  obtain ⟨p, l, e, R, s, m, args, below, meth, c, D, ad, cI, cZ, cJ, A, h0, M, post, px, mc, ret⟩ := X
  intro H locs ls a1 a2 a3 a4 a5 a6 a7 a8
  obtain ⟨hx, hb, -⟩ := C
  have hX : InR x := okH a7
  exact lv_if_le (x := i32 x) hx hb d ht (fun q => kt ((i32_le hX inR_0).mp q) H locs ls a1 a2 a3 a4 a5 a6 (okT a7) a8) (fun q => kf (fun z => q ((i32_le hX inR_0).mpr z)) H locs ls a1 a2 a3 a4 a5 a6 (okT a7) a8)
theorem r_if_ne {x : Int} {off : Int} {tgt : Nat} (C : CX X cc own f n nL) (d : decode cc pc = .ok (.ifCond .ne off, 3)) (ht : (pc : Int) + off = (tgt : Int)) (kt : ¬ x = 0 → Wh X tgt L st h k) (kf : x = 0 → Wh X (pc + 3) L st h k) : Wh X pc L (vi x :: st) h k := by
  obtain ⟨p, l, e, R, s, m, args, below, meth, c, D, ad, cI, cZ, cJ, A, h0, M, post, px, mc, ret⟩ := X
  intro H locs ls a1 a2 a3 a4 a5 a6 a7 a8
  obtain ⟨hx, hb, -⟩ := C
  have hX : InR x := okH a7
  exact lv_if_ne (x := i32 x) hx hb d ht (fun q => kt (fun z => q ((i32_eq hX inR_0).mpr z)) H locs ls a1 a2 a3 a4 a5 a6 (okT a7) a8) (fun q => kf ((i32_eq hX inR_0).mp q) H locs ls a1 a2 a3 a4 a5 a6 (okT a7) a8)
end EngineRows2

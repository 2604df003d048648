/-! The class's own calls that look up, colour, part -/
def IOB : String := "java/lang/IndexOutOfBoundsException"
theorem ct_degree {l : Launch} (hst : l.stackTraces = false) (v : Int) (h : Hp) (hp : CS h) : Ct l yX5_degree cX5_degree 2 (some .int) 7 103 1 [vr 0, vi v] h [] (fun r _ => vOK h v ∧ r = h 11 v) (fun E => ¬ vOK h v ∧ E = "java/lang/IndexOutOfBoundsException") := by
  obtain ⟨⟨R, G⟩, -, -, -, -⟩ := hp
  have g1 := G.1
  refine w_X5_degree _ _ h 1 pT1 tV v (ct_checkVertex hst) (fun _ _ => ?_)
  unfold V_X5_degree
  refine ⟨trivial, fun z => ⟨⟨z, rfl⟩, rfl, Nat.le_refl 1⟩, fun c => ?_⟩
  have hv : vOK h v := Classical.byContradiction c
  have hv' := hv
  unfold vOK at hv'
  exact ⟨by omega, hv, rfl⟩
def rnd (h : Hp) (v k : Int) : Prop := vOK h v ∧ 0 ≤ k ∧ k < h 11 v
theorem ct_round {l : Launch} (hst : l.stackTraces = false) (v k : Int) (h : Hp) (hp : CS h) : Ct l yX5_round cX5_round 5 (some .int) 7 103 1 [vr 0, vi v, vi k] h [] (fun r _ => rnd h v k ∧ r = sk h v k.toNat / 2) (fun E => ¬ rnd h v k ∧ E = "java/lang/IndexOutOfBoundsException") := by
  obtain ⟨⟨R, G⟩, -, -, -, -⟩ := hp
  have g1 := G.1
  refine w_X5_round _ _ h 1 pT1 tV (fun n g x2 x3 x4 => g = h ∧ x2 = k ∧ rnd h v k ∧ ∃ i : Nat, x4 = i ∧ (i : Int) ≤ k ∧ x3 = sk h v i ∧ n = (k - i).toNat) v k (ct_checkVertex hst) ?_ hst (fun _ _ _ => ?_)
  · rintro n g x2 x3 x4 - F - - - ⟨rfl, rfl, hr, i, rfl, i1, rfl, i2⟩
    obtain ⟨hv, k0, k1⟩ := id hr
    have hs := sk_S G hv (k := i) (by omega)
    have ls := Sd_lt G hs.1
    unfold V_X5_round_45
    rw [tdiv2 ls.1]
    refine ⟨fun c => ⟨⟨by omega, by unfold InR; omega⟩, hr, ?_⟩, fun c => ⟨ls, fun z4 e4 => ⟨by have := (G.deg hv).2; unfold InR; omega, fun z5 e5 => ⟨(x2 - ((i + 1 : Nat) : Int)).toNat, by omega, rfl, rfl, hr, i + 1, by omega, by omega, e4, rfl⟩⟩⟩⟩
    rw [show x2.toNat = i by omega]
  · unfold V_X5_round V_X5_round_22
    have bad : ¬ rnd h v k → (¬ rnd h v k ∧ "java/lang/IndexOutOfBoundsException" = "java/lang/IndexOutOfBoundsException") ∧ h = h ∧ 1 ≤ 1 := fun z => ⟨⟨z, rfl⟩, rfl, Nat.le_refl 1⟩
    refine ⟨trivial, fun z => bad (fun y => z y.1), fun c => ?_⟩
    have hv : vOK h v := Classical.byContradiction c
    have hv' := hv
    unfold vOK at hv'
    exact ⟨fun d => bad (fun y => by have := y.2.1; omega), fun d => ⟨by omega, fun d1 => ⟨by omega, fun z12 e12 z13 e13 => ⟨(k - 0).toNat, rfl, rfl, ⟨hv, by omega, d1⟩, 0, e13, by omega, e12, rfl⟩⟩, fun d1 => bad (fun y => d1 y.2.2)⟩⟩
theorem ct_end {l : Launch} (hst : l.stackTraces = false) (e s : Int) (h : Hp) (hp : CS h) : Ct l yX5_end cX5_end 3 (some .int) 7 103 1 [vr 0, vi e, vi s] h [] (fun r _ => eOK h e ∧ r = h 6 (if s = 0 then 2 * e else 2 * e + 1)) (fun E => ¬ eOK h e ∧ E = "java/lang/IndexOutOfBoundsException") := by
  obtain ⟨⟨R, G⟩, -, -, -, -⟩ := hp
  have g2 := G.2.1
  refine w_X5_end _ _ h 1 pE1 tE e s (ct_checkEdge hst) (fun _ _ _ => ?_)
  unfold V_X5_end V_X5_end_27
  refine ⟨⟨R, G⟩, fun z => ⟨⟨z, rfl⟩, rfl, Nat.le_refl 1⟩, fun c => ?_⟩
  have he : eOK h e := Classical.byContradiction c
  have he1 := he.1
  exact ⟨fun d => ⟨by unfold InR; omega, by omega, he, by rw [if_pos d]⟩, fun d => ⟨by unfold InR; omega, by unfold InR; omega, by omega, he, by rw [if_neg d]⟩⟩
theorem ct_faces {l : Launch} (h : Hp) (hp : CS h) : Ct l yX5_faces cX5_faces 1 (some .int) 0 0 0 [vr 0] h [] (fun r _ => r = nF h) (fun _ => False) := by
  refine w_X5_faces _ h (fun _ => ?_)
  unfold V_X5_faces
  exact hp.2.1.1
def fsd (h : Hp) (f : Int) (n : Nat) : Prop := ∃ t, LdF h t ∧ cntP (LdF h) t.toNat = f ∧ Per (ph h) t n
theorem face_ex {h : Hp} {R : Int → Nat → Int} (G : GI h R) (fok : FOK h h) {f : Int} (hf : fOK h f) : ∃ t n, LdF h t ∧ cntP (LdF h) t.toNat = f ∧ Per (ph h) t n ∧ n ≤ 200 ∧ h 13 f = t ∧ h 14 f = n := by
  obtain ⟨a, a1, ta, e⟩ := cntP_ex (p := LdF h) (2 * h 1 7).toNat f hf.1 hf.2
  obtain ⟨o1, ⟨n, pn, o2⟩, o3⟩ := fok.2 a ta
  have ea : ((a : Int)).toNat = a := by omega
  rw [ea, e] at o1 o2
  refine ⟨a, n, ta, by rw [ea]; exact e, pn, ?_, o1, o2⟩
  obtain ⟨n', pn', hn'⟩ := (ph_perm G).per ta.1
  rw [pn.uniq pn']
  exact hn'
theorem ct_sides {l : Launch} (hst : l.stackTraces = false) (f : Int) (h : Hp) (hp : CS h) : Ct l yX5_sides cX5_sides 2 (some .int) 7 103 1 [vr 0, vi f] h [] (fun r _ => fOK h f ∧ ∃ t n, LdF h t ∧ cntP (LdF h) t.toNat = f ∧ Per (ph h) t n ∧ r = (n : Nat)) (fun E => ¬ fOK h f ∧ E = "java/lang/IndexOutOfBoundsException") := by
  obtain ⟨⟨R, G⟩, fok, -, -, -⟩ := hp
  have nf := nF_le G
  have e24 : h 2 4 = nF h := fok.1
  have tf : tF f h ↔ ¬ fOK h f := by unfold tF fOK; rw [e24]
  refine w_X5_sides _ _ h 1 pT1 tF f (ct_checkFace hst) (fun _ _ => ?_)
  unfold V_X5_sides
  refine ⟨trivial, fun z => ⟨⟨tf.mp z, rfl⟩, rfl, Nat.le_refl 1⟩, fun c => ?_⟩
  have hf : fOK h f := Classical.byContradiction (fun z => c (tf.mpr z))
  have hf' := hf
  unfold fOK at hf'
  obtain ⟨t, n, a1, a2, a3, -, -, a4⟩ := face_ex G fok hf
  exact ⟨by omega, hf, t, n, a1, a2, a3, a4⟩
def frOK (h : Hp) (f k r : Int) : Prop := fOK h f ∧ 0 ≤ k ∧ ∃ t n, LdF h t ∧ cntP (LdF h) t.toNat = f ∧ Per (ph h) t n ∧ k < (n : Nat) ∧ r = h 6 (itF (ph h) k.toNat t)
def frNo (h : Hp) (f k : Int) : Prop := fOK h f → 0 ≤ k → ∃ t n, LdF h t ∧ cntP (LdF h) t.toNat = f ∧ Per (ph h) t n ∧ ((n : Nat) : Int) ≤ k
theorem ct_from {l : Launch} (hst : l.stackTraces = false) (f k : Int) (h : Hp) (hp : CS h) : Ct l yX5_from cX5_from 5 (some .int) 7 103 1 [vr 0, vi f, vi k] h [] (fun r _ => frOK h f k r) (fun E => frNo h f k ∧ E = "java/lang/IndexOutOfBoundsException") := by
  obtain ⟨⟨R, G⟩, fok, -, -, -⟩ := hp
  have nf := nF_le G
  have e24 : h 2 4 = nF h := fok.1
  have tf : tF f h ↔ ¬ fOK h f := by unfold tF fOK; rw [e24]
  refine w_X5_from _ _ h 1 pT1 tF p_sideBehind q_sideBehind (fun m g x2 x3 x4 => g = h ∧ x2 = k ∧ ∃ (t : Int) (n : Nat) (i : Nat), fOK h f ∧ LdF h t ∧ cntP (LdF h) t.toNat = f ∧ Per (ph h) t n ∧ k < (n : Nat) ∧ n ≤ 200 ∧ x4 = i ∧ (i : Int) ≤ k ∧ x3 = itF (ph h) i t ∧ m = (k - i).toNat) f k (ct_checkFace hst) ct_sideBehind ?_ hst (fun _ _ _ => ?_)
  · rintro m g x2 x3 x4 - F - - - ⟨rfl, rfl, t, n, i, hf, a1, a2, a3, a4, a5, rfl, i1, rfl, i2⟩
    have hs := (ph_perm G).it a1.1 i
    have ls := Sd_lt G hs
    unfold V_X5_from_45
    refine ⟨fun c => ⟨ls, hf, by omega, t, n, a1, a2, a3, a4, ?_⟩, fun c => ⟨ls, fun r4 _ q4 z5 e5 => ⟨by unfold InR; omega, fun z6 e6 => ⟨(x2 - ((i + 1 : Nat) : Int)).toNat, by omega, rfl, rfl, t, n, i + 1, hf, a1, a2, a3, a4, a5, by omega, by omega, ?_, rfl⟩⟩⟩⟩
    · rw [show x2.toNat = i by omega]
    · have q4 : r4 = g 7 (tw (itF (ph g) i t)) := q4
      rw [e5, q4]
      rfl
  · unfold V_X5_from V_X5_from_22
    have bad : frNo h f k → (frNo h f k ∧ "java/lang/IndexOutOfBoundsException" = "java/lang/IndexOutOfBoundsException") ∧ h = h ∧ 1 ≤ 1 := fun z => ⟨⟨z, rfl⟩, rfl, Nat.le_refl 1⟩
    refine ⟨trivial, fun z => bad (fun y => absurd y (tf.mp z)), fun c => ?_⟩
    have hf : fOK h f := Classical.byContradiction (fun z => c (tf.mpr z))
    have hf' := hf
    unfold fOK at hf'
    obtain ⟨t, n, a1, a2, a3, a5, a6, a4⟩ := face_ex G fok hf
    rw [a4, a6]
    exact ⟨fun d => bad (fun _ y => by omega), fun d => ⟨by omega, fun d1 => ⟨by omega, fun z13 e13 z14 e14 => ⟨(k - 0).toNat, rfl, rfl, t, n, 0, hf, a1, a2, a3, d1, a5, e14, by omega, e13, rfl⟩⟩, fun d1 => bad (fun _ _ => ⟨t, n, a1, a2, a3, by omega⟩)⟩⟩
theorem ct_parts {l : Launch} (h : Hp) (hp : CS h) : Ct l yX5_parts cX5_parts 1 (some .int) 0 0 0 [vr 0] h [] (fun r _ => r = tr h 3 7) (fun _ => False) := by
  refine w_X5_parts _ h (fun _ => ?_)
  unfold V_X5_parts
  exact hp.2.2.1.1
theorem CS.gen {h : Hp} (c : CS h) : p_genus h := ⟨c.1, c.2.1, c.2.2.1⟩
-- colour
def q_colour (h : Hp) (r : Int) (h1 : Hp) : Prop := gnF h = 0 ∧ ColA h (nc h1 20) (h1 4 8) ∧ r = ccF (nc h1 20) ∧ CR (nc h1 20) ∧ 0 ≤ h1 4 8 ∧ h1 4 8 ≤ 30
theorem ct_colour {l : Launch} (hst : l.stackTraces = false) (h : Hp) (hp : CS h) : Ct l yX5_colour cX5_colour 1 (some .int) 7 139 1 [vr 0] h [4, 20, 21, 22, 23, 24, 25] (fun r h1 => q_colour h r h1) (fun E => gnF h ≠ 0 ∧ E = "java/lang/IllegalStateException") := by
  obtain ⟨R, G⟩ := hp.1
  refine w_X5_colour _ _ h 1 p_genus tP p_colourAll q_colourAll p_used q_used (ct_checkPlane hst) ct_colourAll ct_used (fun _ => ?_)
  unfold V_X5_colour
  refine ⟨hp.gen, fun z => ⟨⟨z, rfl⟩, rfl, Nat.le_refl 1⟩, fun c => ?_⟩
  have gz : gnF h = 0 := Classical.byContradiction c
  refine ⟨⟨⟨R, G⟩, EU_of G gz⟩, fun h3 f3 _ q3 => ⟨⟨⟨R, Gs_GI (Gs.of f3 (by decide)) G⟩, q3.2.1⟩, fun r5 _ q5 => ⟨gz, q3.1, q5, q3.2⟩⟩⟩
theorem ct_colourOf {l : Launch} (hst : l.stackTraces = false) (v : Int) (h : Hp) (hp : CS h) : Ct l yX5_colourOf cX5_colourOf 2 (some .int) 7 103 1 [vr 0, vi v] h [] (fun r _ => vOK h v ∧ r = nc h 20 v) (fun E => ¬ vOK h v ∧ E = "java/lang/IndexOutOfBoundsException") := by
  obtain ⟨⟨R, G⟩, -, -, -, -⟩ := hp
  have g1 := G.1
  refine w_X5_colourOf _ _ h 1 pT1 tV v (ct_checkVertex hst) (fun _ _ => ?_)
  unfold V_X5_colourOf
  refine ⟨trivial, fun z => ⟨⟨z, rfl⟩, rfl, Nat.le_refl 1⟩, fun c => ?_⟩
  have hv : vOK h v := Classical.byContradiction c
  have hv' := hv
  unfold vOK at hv'
  exact ⟨by omega, hv, (nc_v hv).symm⟩
theorem ct_exchanges {l : Launch} (h : Hp) : Ct l yX5_exchanges cX5_exchanges 1 (some .int) 0 0 0 [vr 0] h [] (fun r _ => r = h 4 8) (fun _ => False) := by
  refine w_X5_exchanges _ h (fun _ => ?_)
  unfold V_X5_exchanges
  rfl
-- exchange
def q_exch (v y : Int) (h : Hp) (r : Int) (h1 : Hp) : Prop := vOK h v ∧ XC h (nc h 20) v y ∧ r = (CH h (nc h 20) v y).length ∧ nc h1 20 = Sw (nc h 20) (CH h (nc h 20) v y) (nc h 20 v) y ∧ h1 4 8 = h 4 8
def x_exch (v y : Int) (h : Hp) (E : String) : Prop := (E = "java/lang/IndexOutOfBoundsException" ∧ ¬ vOK h v) ∨ (E = "java/lang/IllegalArgumentException" ∧ vOK h v ∧ ¬ XC h (nc h 20) v y)
theorem ct_exch {l : Launch} (hst : l.stackTraces = false) (v y : Int) (h : Hp) (hp : CS h) : Ct l yX5_exchange cX5_exchange 4 (some .int) 7 103 1 [vr 0, vi v, vi y] h [4, 20, 24, 25] (fun r h1 => q_exch v y h r h1) (fun E => x_exch v y h E) := by
  obtain ⟨⟨R, G⟩, -, -, cr, -⟩ := hp
  have g1 := G.1
  refine w_X5_exchange _ _ h 1 pT1 tV p_collect q_collect p_swap q_swap v y (ct_checkVertex hst) ct_collect ct_swap hst (fun _ _ _ => ?_)
  unfold V_X5_exchange V_X5_exchange_44
  refine ⟨trivial, fun z => ⟨Or.inl ⟨rfl, z⟩, rfl, Nat.le_refl 1⟩, fun c => ?_⟩
  have hv : vOK h v := Classical.byContradiction c
  have hv' := hv
  unfold vOK at hv'
  have bad : ¬ XC h (nc h 20) v y → x_exch v y h "java/lang/IllegalArgumentException" ∧ h = h ∧ 1 ≤ 1 := fun z => ⟨Or.inr ⟨rfl, hv, z⟩, rfl, Nat.le_refl 1⟩
  rw [← nc_v (k := 20) hv]
  refine ⟨by omega, fun z3 e3 => ⟨fun d => ⟨fun d1 => bad (fun z => by have := z.2.1; omega), fun d1 => ⟨fun d2 => bad (fun z => by have := z.2.2.1; omega), fun d2 => ⟨fun d3 => ?_, fun d3 => bad (fun z => z.2.2.2 (d3.trans e3))⟩⟩⟩, fun d => bad (fun z => z.1 (e3.symm.trans d))⟩⟩
  have xc : XC h (nc h 20) v y := ⟨by rw [← e3]; exact d, by omega, by omega, by rw [← e3]; exact d3⟩
  refine ⟨⟨⟨R, G⟩, hv⟩, fun h9 f9 _ q9 => ?_⟩
  have gs9 : Gs h h9 := Gs.of f9 (by decide)
  obtain ⟨ch1, ch2⟩ := CH_ok G (c := nc h 20) (y := y) hv
  have enc : nc h9 20 = nc h 20 := nc_cong (f9 20 (by decide)) (f9 1 (by decide))
  refine ⟨⟨⟨R, Gs_GI gs9 G⟩, _, q9.1, ⟨ch1.1, fun w hw => ?_⟩, fun w hw => ?_⟩, fun h11 f11 _ q11 => ?_⟩
  · have := ch1.2 w hw
    unfold vOK at this ⊢
    rw [gs9.1]
    exact this
  · rw [enc, e3]
    exact ch2 w hw
  · obtain ⟨L, l1, l2⟩ := q11
    rw [ChI_uniq l1 q9.1, enc, e3] at l2
    refine ⟨hv, xc, ?_, l2, ?_⟩
    · rw [f11 4 (by decide)]
      exact q9.1.1
    · rw [f11 4 (by decide)]
      exact q9.2 8 (by decide)
theorem ct_clashes {l : Launch} (h : Hp) (hp : CS h) : Ct l yX5_clashes cX5_clashes 1 (some .int) 1 23 0 [vr 0] h [] (fun r _ => r = clF h (nc h 20)) (fun _ => False) := by
  refine w_X5_clashes _ p_equalEnds q_equalEnds h ct_equalEnds (fun _ => ?_)
  unfold V_X5_clashes
  exact ⟨hp.1, fun r _ q => q⟩
theorem ct_above {l : Launch} (hst : l.stackTraces = false) (v : Int) (h : Hp) (hp : CS h) : Ct l yX5_above cX5_above 2 (some .int) 7 103 1 [vr 0, vi v] h [] (fun r _ => vOK h v ∧ r = tr h 15 v) (fun E => ¬ vOK h v ∧ E = "java/lang/IndexOutOfBoundsException") := by
  obtain ⟨⟨R, G⟩, -, ts, -, -⟩ := hp
  have g1 := G.1
  refine w_X5_above _ _ h 1 pT1 tV v (ct_checkVertex hst) (fun _ _ => ?_)
  unfold V_X5_above
  refine ⟨trivial, fun z => ⟨⟨z, rfl⟩, rfl, Nat.le_refl 1⟩, fun c => ?_⟩
  have hv : vOK h v := Classical.byContradiction c
  have hv' := hv
  unfold vOK at hv'
  exact ⟨by omega, hv, (ts.2 v hv).2.1⟩
theorem ct_cycle {l : Launch} (hst : l.stackTraces = false) (e : Int) (h : Hp) (hp : CS h) : Ct l yX5_cycle cX5_cycle 2 (some .int) 7 103 1 [vr 0, vi e] h [5, 26, 27] (fun r _ => eOK h e ∧ ((inT h e ∧ r = 0) ∨ (¬ inT h e ∧ r = (cyV h e).length))) (fun E => ¬ eOK h e ∧ E = "java/lang/IndexOutOfBoundsException") := by
  obtain ⟨⟨R, G⟩, -, ts, -, -⟩ := hp
  refine w_X5_cycle _ _ h 1 pE1 tE p_holds q_holds p_mark q_mark e (ct_checkEdge hst) ct_holds ct_mark (fun _ _ => ?_)
  unfold V_X5_cycle
  refine ⟨⟨R, G⟩, fun z => ⟨⟨z, rfl⟩, rfl, Nat.le_refl 1⟩, fun c => ?_⟩
  have he : eOK h e := Classical.byContradiction c
  refine ⟨⟨⟨R, G⟩, ts, he⟩, fun r3 _ q3 => ⟨fun d => ⟨⟨⟨R, G⟩, ts, he⟩, fun h6 f6 _ q6 => ⟨he, Or.inr ⟨?_, q6.2.2.1⟩⟩⟩, fun d => ⟨he, Or.inl ⟨?_, rfl⟩⟩⟩⟩
  · rcases q3 with q | q
    · omega
    · exact q.2
  · rcases q3 with q | q
    · exact q.2
    · exact absurd q.1 d
-- side
def q_side (e b : Int) (h : Hp) (r : Int) : Prop := eOK h e ∧ gnF h = 0 ∧ ((inT h e ∧ r = 0) ∨ (¬ inT h e ∧ r = if b = 0 then cntOut h e else cntIn h e))
def x_side (e : Int) (h : Hp) (E : String) : Prop := (E = "java/lang/IndexOutOfBoundsException" ∧ ¬ eOK h e) ∨ (E = "java/lang/IllegalStateException" ∧ eOK h e ∧ gnF h ≠ 0)
theorem ct_side {l : Launch} (hst : l.stackTraces = false) (e b : Int) (h : Hp) (hp : CS h) : Ct l yX5_side cX5_side 3 (some .int) 7 103 1 [vr 0, vi e, vi b] h [5, 26, 27, 28, 29] (fun r _ => q_side e b h r) (fun E => x_side e h E) := by
  obtain ⟨⟨R, G⟩, fok, ts, -, -⟩ := id hp
  refine w_X5_side _ _ h 1 pE1 tE p_genus tP p_holds q_holds p_partBy q_partBy e b (ct_checkEdge hst) (ct_checkPlane hst) ct_holds ct_partBy (fun _ _ _ => ?_)
  unfold V_X5_side V_X5_side_51
  refine ⟨⟨R, G⟩, fun z => ⟨Or.inl ⟨rfl, z⟩, rfl, Nat.le_refl 1⟩, fun c => ?_⟩
  have he : eOK h e := Classical.byContradiction c
  refine ⟨hp.gen, fun z => ⟨Or.inr ⟨rfl, he, z⟩, rfl, Nat.le_refl 1⟩, fun c1 => ?_⟩
  have gz : gnF h = 0 := Classical.byContradiction c1
  refine ⟨⟨⟨R, G⟩, ts, he⟩, fun r4 _ q4 => ⟨fun d => ⟨⟨⟨R, G⟩, ts, fok, he⟩, fun h7 f7 _ q7 => ⟨fun d1 => ⟨he, gz, Or.inr ⟨?_, ?_⟩⟩, fun d1 => ⟨he, gz, Or.inr ⟨?_, ?_⟩⟩⟩⟩, fun d => ⟨he, gz, Or.inl ⟨?_, rfl⟩⟩⟩⟩
  · rcases q4 with q | q
    · omega
    · exact q.2
  · rw [q7.2.2, if_pos d1]
  · rcases q4 with q | q
    · omega
    · exact q.2
  · rw [q7.2.1, if_neg d1]
  · rcases q4 with q | q
    · exact q.2
    · exact absurd q.1 d
-- best
def q_best (h : Hp) (r : Int) : Prop := gnF h = 0 ∧ ∃ w s, Bs h (h 1 7).toNat r w s
set_option maxHeartbeats 1000000 in
theorem ct_best {l : Launch} (hst : l.stackTraces = false) (h : Hp) (hp : CS h) : Ct l yX5_best cX5_best 7 (some .int) 7 102 1 [vr 0] h [5, 26, 27, 28, 29] (fun r _ => q_best h r) (fun E => gnF h ≠ 0 ∧ E = "java/lang/IllegalStateException") := by
  obtain ⟨⟨R, G⟩, fok, ts, -, -⟩ := id hp
  have g2 := G.2.1
  refine w_X5_best _ _ h 1 p_genus tP p_holds q_holds p_partBy q_partBy (fun n g x1 x2 x3 x4 => gnF h = 0 ∧ ∃ k : Nat, x4 = k ∧ (k : Int) ≤ h 1 7 ∧ Bs h k x1 x2 x3 ∧ n = 100 - k) (ct_checkPlane hst) ct_holds ct_partBy ?_ (fun _ => ?_)
  · rintro n g x1 x2 x3 x4 - F - - - - ⟨gz, k, rfl, i1, i2, i3⟩
    have gs : Gs h g := Gs.of F (by decide)
    have Gg := Gs_GI gs G
    have tsg : TS g := TS_gs G gs ts (fun q hq => F q (by
      simp only [List.mem_cons, List.not_mem_nil, or_false] at hq ⊢
      omega))
    have fokg : FOK g g := FOK_gs gs fok (F 2 (by decide)) (F 12 (by decide)) (F 13 (by decide)) (F 14 (by decide))
    have next : (k : Int) < h 1 7 → ∀ (g' : Hp) (b w s : Int), Bs h (k + 1) b w s → V_X5_best_135 (fun r _ => q_best h r) (fun E => gnF h ≠ 0 ∧ E = "java/lang/IllegalStateException") h 1 p_genus tP p_holds q_holds p_partBy q_partBy (fun n g x1 x2 x3 x4 => gnF h = 0 ∧ ∃ k : Nat, x4 = k ∧ (k : Int) ≤ h 1 7 ∧ Bs h k x1 x2 x3 ∧ n = 100 - k) n g' b w s k := by
      intro hk g' b w s a5
      unfold V_X5_best_135
      exact ⟨by unfold InR; omega, fun z ez => ⟨100 - (k + 1), by omega, gz, k + 1, by omega, by omega, a5, rfl⟩⟩
    unfold V_X5_best_13
    rw [gs.1, gs.2.2.2.2.1]
    refine ⟨fun c => ⟨gz, x2, x3, ?_⟩, fun c => ⟨by omega, fun c1 => next (by omega) g x1 x2 x3 ⟨x1, x2, x3, i2, Or.inl ⟨fun z => ?_, rfl, rfl, rfl⟩⟩, fun c1 => ?_⟩⟩
    · rw [show (h 1 7).toNat = k by omega]
      exact i2
    · have := z.1.2
      omega
    have he : eOK h k := ⟨⟨by omega, by omega⟩, by
      rcases G.2.2.1 k (by omega) (by omega) with q | q
      · exact absurd q c1
      · exact q⟩
    have heg : eOK g k := (eOK_cong gs.1 gs.2.2.2.2.1).mpr he
    refine ⟨⟨⟨R, Gg⟩, tsg, heg⟩, fun r13 _ q13 => ⟨fun c2 => ⟨⟨⟨R, Gg⟩, tsg, fokg, heg⟩, fun h16 f16 _ q16 z17 e17 => ?_⟩, fun c2 => next (by omega) g x1 x2 x3 ⟨x1, x2, x3, i2, Or.inl ⟨fun z => z.2 ?_, rfl, rfl, rfl⟩⟩⟩⟩
    · have nt : ¬ inT h k := by
        rcases q13 with q | q
        · omega
        · exact fun z => q.2 ((inT_gs G gs he).mpr z)
      obtain ⟨u1, u2, u3⟩ := q16
      obtain ⟨n1, n2⟩ := n_gs G gs he
      rw [n1] at u2
      rw [n2] at u3
      rw [cyV_gs G gs he] at u1
      have e58 : h16 5 8 = leF h k := u1
      have ew : z17 = woF h k := by
        rw [e17, u2, u3]
        unfold woF
        by_cases z : cntIn h k ≤ cntOut h k
        · rw [if_pos z]; omega
        · rw [if_neg z]; omega
      have yes : Bet h k x1 x2 x3 → V_X5_best_121 (fun r _ => q_best h r) (fun E => gnF h ≠ 0 ∧ E = "java/lang/IllegalStateException") h 1 p_genus tP p_holds q_holds p_partBy q_partBy (fun n g x1 x2 x3 x4 => gnF h = 0 ∧ ∃ k : Nat, x4 = k ∧ (k : Int) ≤ h 1 7 ∧ Bs h k x1 x2 x3 ∧ n = 100 - k) n h16 k z17 := by
        intro hb
        unfold V_X5_best_121
        exact fun z3 e3 z4 e4 z5 e5 => next (by omega) h16 z3 z4 z5 ⟨x1, x2, x3, i2, Or.inr ⟨⟨he, nt⟩, Or.inl ⟨hb, e3, e4.trans ew, e5.trans e58⟩⟩⟩
      have no : ¬ Bet h k x1 x2 x3 → V_X5_best_135 (fun r _ => q_best h r) (fun E => gnF h ≠ 0 ∧ E = "java/lang/IllegalStateException") h 1 p_genus tP p_holds q_holds p_partBy q_partBy (fun n g x1 x2 x3 x4 => gnF h = 0 ∧ ∃ k : Nat, x4 = k ∧ (k : Int) ≤ h 1 7 ∧ Bs h k x1 x2 x3 ∧ n = 100 - k) n h16 x1 x2 x3 k := fun hb => next (by omega) h16 x1 x2 x3 ⟨x1, x2, x3, i2, Or.inr ⟨⟨he, nt⟩, Or.inr ⟨hb, rfl, rfl, rfl⟩⟩⟩
      rw [e58]
      unfold V_X5_best_104 V_X5_best_108 V_X5_best_109
      have cond : (woF h k < x2 ∨ (woF h k = x2 ∧ leF h k < x3)) → ∀ z6 : Int, z6 = 1 → (x1 = -1 → V_X5_best_121 (fun r _ => q_best h r) (fun E => gnF h ≠ 0 ∧ E = "java/lang/IllegalStateException") h 1 p_genus tP p_holds q_holds p_partBy q_partBy (fun n g x1 x2 x3 x4 => gnF h = 0 ∧ ∃ k : Nat, x4 = k ∧ (k : Int) ≤ h 1 7 ∧ Bs h k x1 x2 x3 ∧ n = 100 - k) n h16 k z17) ∧ (¬ x1 = -1 → (z6 = 0 → V_X5_best_135 (fun r _ => q_best h r) (fun E => gnF h ≠ 0 ∧ E = "java/lang/IllegalStateException") h 1 p_genus tP p_holds q_holds p_partBy q_partBy (fun n g x1 x2 x3 x4 => gnF h = 0 ∧ ∃ k : Nat, x4 = k ∧ (k : Int) ≤ h 1 7 ∧ Bs h k x1 x2 x3 ∧ n = 100 - k) n h16 x1 x2 x3 k) ∧ (¬ z6 = 0 → V_X5_best_121 (fun r _ => q_best h r) (fun E => gnF h ≠ 0 ∧ E = "java/lang/IllegalStateException") h 1 p_genus tP p_holds q_holds p_partBy q_partBy (fun n g x1 x2 x3 x4 => gnF h = 0 ∧ ∃ k : Nat, x4 = k ∧ (k : Int) ≤ h 1 7 ∧ Bs h k x1 x2 x3 ∧ n = 100 - k) n h16 k z17)) := fun hb z6 e6 => ⟨fun _ => yes (Or.inr hb), fun _ => ⟨fun z => by omega, fun _ => yes (Or.inr hb)⟩⟩
      have ncond : ¬ (woF h k < x2 ∨ (woF h k = x2 ∧ leF h k < x3)) → ∀ z6 : Int, z6 = 0 → (x1 = -1 → V_X5_best_121 (fun r _ => q_best h r) (fun E => gnF h ≠ 0 ∧ E = "java/lang/IllegalStateException") h 1 p_genus tP p_holds q_holds p_partBy q_partBy (fun n g x1 x2 x3 x4 => gnF h = 0 ∧ ∃ k : Nat, x4 = k ∧ (k : Int) ≤ h 1 7 ∧ Bs h k x1 x2 x3 ∧ n = 100 - k) n h16 k z17) ∧ (¬ x1 = -1 → (z6 = 0 → V_X5_best_135 (fun r _ => q_best h r) (fun E => gnF h ≠ 0 ∧ E = "java/lang/IllegalStateException") h 1 p_genus tP p_holds q_holds p_partBy q_partBy (fun n g x1 x2 x3 x4 => gnF h = 0 ∧ ∃ k : Nat, x4 = k ∧ (k : Int) ≤ h 1 7 ∧ Bs h k x1 x2 x3 ∧ n = 100 - k) n h16 x1 x2 x3 k) ∧ (¬ z6 = 0 → V_X5_best_121 (fun r _ => q_best h r) (fun E => gnF h ≠ 0 ∧ E = "java/lang/IllegalStateException") h 1 p_genus tP p_holds q_holds p_partBy q_partBy (fun n g x1 x2 x3 x4 => gnF h = 0 ∧ ∃ k : Nat, x4 = k ∧ (k : Int) ≤ h 1 7 ∧ Bs h k x1 x2 x3 ∧ n = 100 - k) n h16 k z17)) := fun hb z6 e6 => ⟨fun z => yes (Or.inl z), fun z => ⟨fun _ => no (fun y => by rcases y with y | y; exact z y; exact hb y), fun q => absurd e6 q⟩⟩
      refine ⟨fun d => cond (Or.inl (by omega)), fun d => ⟨fun d1 => ncond (fun z => by omega), fun d1 => ⟨fun d2 => ncond (fun z => by omega), fun d2 => cond (Or.inr ⟨by omega, by omega⟩)⟩⟩⟩
    · rcases q13 with q | q
      · exact (inT_gs G gs he).mp q.2
      · exact absurd q.1 c2
  · unfold V_X5_best
    refine ⟨hp.gen, fun z => ⟨⟨z, rfl⟩, rfl, Nat.le_refl 1⟩, fun c z22 e22 z23 e23 z24 e24 z25 e25 => ⟨100, Classical.byContradiction c, 0, e25, by omega, ⟨e22, e23, e24⟩, rfl⟩⟩
-- told
def q_told (w : Int) (h : Hp) (r : Int) : Prop := (w = 0 ∧ r = h 1 6) ∨ (w = 1 ∧ r = h 1 8) ∨ (w = 2 ∧ ((gnF h = 0 ∧ r = 1) ∨ (gnF h ≠ 0 ∧ r = 0))) ∨ (w = 3 ∧ r = ccF (nc h 20)) ∨ ((w < 0 ∨ 3 < w) ∧ r = -1)
theorem ct_told {l : Launch} (w : Int) (h : Hp) (hp : CS h) : Ct l yX5_told cX5_told 2 (some .int) 3 63 0 [vr 0, vi w] h [] (fun r _ => q_told w h r) (fun _ => False) := by
  obtain ⟨⟨R, G⟩, -, -, cr, -⟩ := id hp
  refine w_X5_told _ p_used q_used p_genus q_isPlane h w ct_used ct_isPlane (fun _ _ => ?_)
  unfold V_X5_told V_X5_told_60
  refine ⟨fun c => Or.inl ⟨c, rfl⟩, fun c => Or.inr (Or.inl ⟨c, rfl⟩), fun c => ⟨hp.gen, fun r _ q => ⟨fun d => Or.inr (Or.inr (Or.inl ⟨c, Or.inr ⟨?_, rfl⟩⟩)), fun d => Or.inr (Or.inr (Or.inl ⟨c, Or.inl ⟨?_, rfl⟩⟩))⟩⟩, fun c => ⟨⟨⟨R, G⟩, cr⟩, fun r _ q => Or.inr (Or.inr (Or.inr (Or.inl ⟨c, q⟩)))⟩, fun c => Or.inr (Or.inr (Or.inr (Or.inr ⟨c, rfl⟩)))⟩
  · rcases q with q | q
    · omega
    · exact q.2
  · rcases q with q | q
    · exact q.2
    · exact absurd q.1 d

/-! Colouring: one vertex brought back, and all of them -/
theorem CH_gs {h h' : Hp} (g : Gs h h') {c : Int → Int} {a y : Int} : CH h' c a y = CH h c a y := bfs_gs g 30
theorem CH_ok {h : Hp} {R : Int → Nat → Int} (G : GI h R) {c : Int → Int} {a y : Int} (ha : vOK h a) : VL h (CH h c a y) ∧ ∀ w ∈ CH h c a y, c w = c a ∨ c w = y :=
  ⟨bfs_ok G ha 30, fun w hw => okC_t.mp (bfs_ok2 G ha (okC_t.mpr (Or.inl rfl)) 30 w hw)⟩
/-- which two neighbours' colours are exchanged -/
def SEL (g : Hp) (c : Int → Int) (v a b : Int) : Prop := ∃ a0 b0 a1 b1, (NB g c v)[0]? = some a0 ∧ (NB g c v)[2]? = some b0 ∧ (NB g c v)[1]? = some a1 ∧ (NB g c v)[3]? = some b1 ∧ ((b0 ∉ CH g c a0 (c b0) ∧ a = a0 ∧ b = b0) ∨ (b0 ∈ CH g c a0 (c b0) ∧ a = a1 ∧ b = b1))
theorem SEL_uniq {g : Hp} {c : Int → Int} {v a b a' b' : Int} (x : SEL g c v a b) (y : SEL g c v a' b') : a = a' ∧ b = b' := by
  obtain ⟨p0, p1, p2, p3, e0, e1, e2, e3, x⟩ := x
  obtain ⟨q0, q1, q2, q3, f0, f1, f2, f3, y⟩ := y
  have z0 := Option.some.inj (e0.symm.trans f0)
  have z1 := Option.some.inj (e1.symm.trans f1)
  have z2 := Option.some.inj (e2.symm.trans f2)
  have z3 := Option.some.inj (e3.symm.trans f3)
  subst z0 z1 z2 z3
  rcases x with ⟨x1, x2, x3⟩ | ⟨x1, x2, x3⟩ <;> rcases y with ⟨y1, y2, y3⟩ | ⟨y1, y2, y3⟩
  · exact ⟨x2.trans y2.symm, x3.trans y3.symm⟩
  · exact absurd y1 x1
  · exact absurd x1 y1
  · exact ⟨x2.trans y2.symm, x3.trans y3.symm⟩
theorem SEL_v {h : Hp} {R : Int → Nat → Int} (G : GI h R) {c : Int → Int} {v a b : Int} (hv : vOK h v) (x : SEL h c v a b) : (vOK h a ∧ c a ≠ 0) ∧ vOK h b ∧ c b ≠ 0 := by
  obtain ⟨p0, p1, p2, p3, e0, e1, e2, e3, x⟩ := x
  rcases x with ⟨-, x2, x3⟩ | ⟨-, x2, x3⟩
  · rw [x2, x3]
    exact ⟨NB_v G hv (List.mem_of_getElem? e0), NB_v G hv (List.mem_of_getElem? e1)⟩
  · rw [x2, x3]
    exact ⟨NB_v G hv (List.mem_of_getElem? e2), NB_v G hv (List.mem_of_getElem? e3)⟩
/-- a vertex is brought back: the colours then, and whether a chain was changed -/
def BB (g : Hp) (c : Int → Int) (v : Int) (c' : Int → Int) (x : Int) : Prop := (∃ r, Fre g c v r ∧ c' = upc c v r ∧ x = 0) ∨ (Nof g c v ∧ ∃ a b, SEL g c v a b ∧ c' = upc (Sw c (CH g c a (c b)) (c a) (c b)) v (c a) ∧ x = 1)
theorem Fre_uniq {g : Hp} {c : Int → Int} {v r s : Int} (a : Fre g c v r) (b : Fre g c v s) : r = s := by
  rcases Int.lt_trichotomy r s with z | z | z
  · exact absurd (b.2.2 r a.1.1 z) a.2.1
  · exact z
  · exact absurd (a.2.2 s b.1.1 z) b.2.1
theorem Fre_nof {g : Hp} {c : Int → Int} {v r : Int} (a : Fre g c v r) (b : Nof g c v) : False := a.2.1 (b r a.1.1 a.1.2)
theorem BB_uniq {g : Hp} {c : Int → Int} {v : Int} {c1 c2 : Int → Int} {x1 x2 : Int} (a : BB g c v c1 x1) (b : BB g c v c2 x2) : c1 = c2 ∧ x1 = x2 := by
  rcases a with ⟨r, r1, r2, r3⟩ | ⟨n, p, q, r1, r2, r3⟩ <;> rcases b with ⟨s, s1, s2, s3⟩ | ⟨m, p', q', s1, s2, s3⟩
  · rw [r2, s2, r3, s3, Fre_uniq r1 s1]
    exact ⟨rfl, rfl⟩
  · exact (Fre_nof r1 m).elim
  · exact (Fre_nof s1 n).elim
  · obtain ⟨u1, u2⟩ := SEL_uniq r1 s1
    rw [r2, s2, r3, s3, u1, u2]
    exact ⟨rfl, rfl⟩
theorem Sw_at {c : Int → Int} {L : List Int} {x y u : Int} (hL : ∀ w ∈ L, c w = x ∨ c w = y) : (u ∉ L ∧ Sw c L x y u = c u) ∨ (u ∈ L ∧ ((c u = x ∧ Sw c L x y u = y) ∨ (c u = y ∧ Sw c L x y u = x))) := by
  unfold Sw
  by_cases w : u ∈ L
  · right
    rw [if_pos w]
    refine ⟨w, ?_⟩
    rcases hL u w with e | e
    · left; omega
    · right; omega
  · left
    exact ⟨w, if_neg w⟩
theorem BB_ok {h : Hp} {R : Int → Nat → Int} (G : GI h R) {c c' : Int → Int} {v x : Int} (hv : vOK h v) (cr : CR c) (b : BB h c v c' x) : CR c' ∧ (0 ≤ x ∧ x ≤ 1) ∧ (∀ u, c' u ≠ 0 ↔ (c u ≠ 0 ∨ u = v)) := by
  rcases b with ⟨r, r1, rfl, r3⟩ | ⟨n, a, b, r1, rfl, r3⟩
  · have := r1.1
    refine ⟨fun u => ?_, by omega, fun u => ?_⟩
    · unfold upc
      split
      · omega
      · exact cr u
    · unfold upc
      split
      · next e => exact ⟨fun _ => Or.inr e, fun _ => by omega⟩
      · next e => exact ⟨Or.inl, fun z => z.resolve_right e⟩
  · obtain ⟨⟨a1, a2⟩, b1, b2⟩ := SEL_v G hv r1
    have hL := (CH_ok G (c := c) (y := c b) a1).2
    refine ⟨fun u => ?_, by omega, fun u => ?_⟩
    · unfold upc
      split
      · exact cr a
      · rcases Sw_at (u := u) hL with ⟨-, e⟩ | ⟨-, ⟨-, e⟩ | ⟨-, e⟩⟩
        · rw [e]; exact cr u
        · rw [e]; exact cr b
        · rw [e]; exact cr a
    · unfold upc
      split
      · next e => exact ⟨fun _ => Or.inr e, fun _ => a2⟩
      · next e =>
        rcases Sw_at (u := u) hL with ⟨-, z⟩ | ⟨-, ⟨z1, z⟩ | ⟨z1, z⟩⟩
        · rw [z]; exact ⟨Or.inl, fun z => z.resolve_right e⟩
        · rw [z]; exact ⟨fun _ => Or.inl (by rw [z1]; exact a2), fun _ => b2⟩
        · rw [z]; exact ⟨fun _ => Or.inl (by rw [z1]; exact b2), fun _ => a2⟩
theorem Nof_gs {h h' : Hp} (g : Gs h h') {c : Int → Int} {v : Int} : Nof h' c v ↔ Nof h c v := by
  unfold Nof
  exact forall_congr' (fun x => imp_congr Iff.rfl (imp_congr Iff.rfl (Us_gs g c v x)))
theorem Fre_gs {h h' : Hp} (g : Gs h h') {c : Int → Int} {v r : Int} : Fre h' c v r ↔ Fre h c v r := by
  unfold Fre
  exact and_congr Iff.rfl (and_congr (not_congr (Us_gs g c v r)) (forall_congr' (fun x => imp_congr Iff.rfl (imp_congr Iff.rfl (Us_gs g c v x)))))
theorem SEL_gs {h h' : Hp} (g : Gs h h') {c : Int → Int} {v a b : Int} : SEL h' c v a b ↔ SEL h c v a b := by
  unfold SEL
  rw [NB_gs g]
  refine exists_congr (fun a0 => exists_congr (fun b0 => ?_))
  rw [CH_gs g]
theorem BB_gs {h h' : Hp} (g : Gs h h') {c c' : Int → Int} {v x : Int} : BB h' c v c' x ↔ BB h c v c' x := by
  unfold BB
  refine or_congr (exists_congr (fun r => and_congr (Fre_gs g) Iff.rfl)) (and_congr (Nof_gs g) (exists_congr (fun a => exists_congr (fun b => ?_))))
  rw [CH_gs g]
  exact and_congr (SEL_gs g) Iff.rfl
-- colourFreedByChain
def p_freed (v : Int) (h : Hp) : Prop := (∃ R, GI h R) ∧ vOK h v ∧ Nof h (nc h 20) v ∧ 0 ≤ h 4 8 ∧ h 4 8 ≤ 1000
def q_freed (v : Int) (h : Hp) (r : Int) (h' : Hp) : Prop := ∃ a b, SEL h (nc h 20) v a b ∧ r = nc h 20 a ∧ nc h' 20 = Sw (nc h 20) (CH h (nc h 20) a (nc h 20 b)) (nc h 20 a) (nc h 20 b) ∧ h' 4 8 = h 4 8 + 1
set_option maxHeartbeats 1000000 in
theorem ct_freed {l : Launch} (v : Int) (h : Hp) (hb : p_freed v h) : Ct l yX0_colourFreedByChain cX0_colourFreedByChain 4 (some .int) 3 72 0 [vr 4, vi v] h [4, 20, 23, 24, 25] (fun r h1 => q_freed v h r h1) (fun _ => False) := by
  obtain ⟨⟨R, G⟩, hv, n5, hx⟩ := hb
  have g1 := G.1
  have l5 := NB_five n5
  obtain ⟨c, ec⟩ : ∃ c, c = nc h 20 := ⟨_, rfl⟩
  rw [← ec] at n5 l5
  have fin : ∀ (g : Hp) (x2 : Int), Gs h g → g 20 = h 20 → g 4 8 = h 4 8 → (0 ≤ x2 ∧ x2 ≤ 1) → SEL h c v (g 23 x2) (g 23 (x2 + 2)) → CLi g (CH h c (g 23 x2) (c (g 23 (x2 + 2)))) → V_X0_colourFreedByChain_65 (fun r h1 => q_freed v h r h1) p_listFive q_listFive p_collect q_collect p_swap q_swap g x2 := by
    intro g x2 gs e20 e48 hx2 sel cl
    obtain ⟨⟨va, -⟩, vb, -⟩ := SEL_v G hv sel
    have enc : nc g 20 = c := by rw [ec]; exact nc_cong e20 gs.1
    have ea : g 20 (g 23 x2) = c (g 23 x2) := by rw [e20, ec, nc_v va]
    have eb : g 20 (g 23 (x2 + 2)) = c (g 23 (x2 + 2)) := by rw [e20, ec, nc_v vb]
    have va' := va
    have vb' := vb
    unfold vOK at va' vb'
    obtain ⟨ch1, ch2⟩ := CH_ok G (c := c) (y := c (g 23 (x2 + 2))) va
    unfold V_X0_colourFreedByChain_65
    rw [ea, eb]
    refine ⟨by omega, by omega, fun z3 e3 => ⟨by unfold InR; omega, by omega, by omega, ⟨⟨R, Gs_GI gs G⟩, _, cl, ⟨ch1.1, fun w hw => ?_⟩, fun w hw => ?_⟩, fun h8 f8 _ q8 => ?_⟩⟩
    · have := ch1.2 w hw
      unfold vOK at this ⊢
      rw [gs.1]
      exact this
    · rw [enc, e3]
      exact ch2 w hw
    · obtain ⟨L, l1, l2⟩ := q8
      rw [ChI_uniq l1 cl, enc, e3] at l2
      have e8 : h8 4 8 = h 4 8 := by rw [f8 4 (by decide)]; exact e48
      rw [e8]
      refine ⟨by unfold InR; omega, fun h10 e10 => ⟨g 23 x2, g 23 (x2 + 2), ?_⟩⟩
      rw [← ec]
      refine ⟨sel, e3, ?_, by rw [e10, hup_s]⟩
      rw [nc_cong (h := h8) (by rw [e10, hup_k (by decide)]) (by rw [e10, hup_k (by decide)])]
      exact l2
  refine w_X0_colourFreedByChain _ p_listFive q_listFive p_collect q_collect p_swap q_swap h v ct_listFive ct_collect ct_swap (fun _ _ => ?_)
  unfold V_X0_colourFreedByChain
  refine ⟨⟨⟨R, G⟩, hv⟩, fun h12 f12 _ q12 => ?_⟩
  have q12 : ∀ i : Nat, i < 5 → i < (NB h (nc h 20) v).length → (NB h (nc h 20) v)[i]? = some (h12 23 i) := q12
  rw [← ec] at q12
  have gs12 : Gs h h12 := Gs.of f12 (by decide)
  have enc12 : nc h12 20 = c := by rw [ec]; exact nc_cong (f12 20 (by decide)) gs12.1
  have n0 := q12 0 (by omega) (by omega)
  have n1 := q12 1 (by omega) (by omega)
  have n2 := q12 2 (by omega) (by omega)
  have n3 := q12 3 (by omega) (by omega)
  have n0 : (NB h c v)[0]? = some (h12 23 0) := n0
  have n1 : (NB h c v)[1]? = some (h12 23 1) := n1
  have n2 : (NB h c v)[2]? = some (h12 23 2) := n2
  have n3 : (NB h c v)[3]? = some (h12 23 3) := n3
  have v0 := (NB_v G hv (List.mem_of_getElem? n0)).1
  have v1 := (NB_v G hv (List.mem_of_getElem? n1)).1
  have v2 := (NB_v G hv (List.mem_of_getElem? n2)).1
  have v3 := (NB_v G hv (List.mem_of_getElem? n3)).1
  have v0' := v0
  have v1' := v1
  have v2' := v2
  have v3' := v3
  unfold vOK at v0' v1' v2' v3'
  have e2 : h12 20 (h12 23 2) = c (h12 23 2) := by rw [f12 20 (by decide), ec, nc_v v2]
  rw [e2]
  refine ⟨by omega, by omega, by omega, ⟨⟨R, Gs_GI gs12 G⟩, by unfold vOK; rw [gs12.1]; exact v0⟩, fun h17 f17 _ q17 z18 e18 => ?_⟩
  have gs17 : Gs h h17 := gs12.tr (Gs.of f17 (by decide))
  have k23 : h17 23 = h12 23 := f17 23 (by decide)
  have k20 : h17 20 = h 20 := by rw [f17 20 (by decide), f12 20 (by decide)]
  have k48 : h17 4 8 = h 4 8 := by rw [q17.2 8 (by decide), f12 4 (by decide)]
  have cl := q17.1
  rw [enc12, CH_gs gs12] at cl
  have e3 : h17 20 (h12 23 3) = c (h12 23 3) := by rw [k20, ec, nc_v v3]
  have m2 := cl.2.2 (h12 23 2) v2'.1 (by rw [gs17.1]; exact v2'.2)
  rw [k23]
  refine ⟨by omega, by omega, fun c1 => ?_, fun c1 z22 e22 => ⟨by omega, by omega, by omega, ⟨⟨R, Gs_GI gs17 G⟩, by unfold vOK; rw [gs17.1]; exact v1⟩, fun h27 f27 _ q27 => ?_⟩⟩
  · subst e18
    refine fin h17 0 gs17 k20 k48 (by omega) ?_ ?_
    · rw [k23]
      refine ⟨_, _, _, _, n0, n2, n1, n3, Or.inl ⟨fun z => ?_, rfl, rfl⟩⟩
      rw [m2, if_pos z] at c1
      omega
    · rw [k23]
      exact cl
  · subst e22
    have gs27 : Gs h h27 := gs17.tr (Gs.of f27 (by decide))
    have k23' : h27 23 = h12 23 := by rw [f27 23 (by decide), k23]
    have k20' : h27 20 = h 20 := by rw [f27 20 (by decide), k20]
    have enc17 : nc h17 20 = c := by rw [ec]; exact nc_cong k20 gs17.1
    have cl2 := q27.1
    rw [enc17, CH_gs gs17, e3] at cl2
    refine fin h27 1 gs27 k20' (by rw [q27.2 8 (by decide)]; exact k48) (by omega) ?_ ?_
    · rw [k23']
      refine ⟨_, _, _, _, n0, n2, n1, n3, Or.inr ⟨Classical.byContradiction (fun z => ?_), rfl, rfl⟩⟩
      rw [m2, if_neg z] at c1
      exact c1 rfl
    · rw [k23']
      exact cl2
-- bringBack
def p_bring (v : Int) (h : Hp) : Prop := (∃ R, GI h R) ∧ vOK h v ∧ CR (nc h 20) ∧ 0 ≤ h 4 8 ∧ h 4 8 ≤ 1000
def q_bring (v : Int) (h h' : Hp) : Prop := ∃ x, BB h (nc h 20) v (nc h' 20) x ∧ h' 4 8 = h 4 8 + x
theorem ct_bring {l : Launch} (v : Int) (h : Hp) (hb : p_bring v h) : Ct l yX0_bringBack cX0_bringBack 3 none 4 95 0 [vr 4, vi v] h [4, 20, 23, 24, 25] (fun _ h1 => q_bring v h h1) (fun _ => False) := by
  obtain ⟨⟨R, G⟩, hv, cr, hx⟩ := hb
  have g1 := G.1
  have hv' := hv
  unfold vOK at hv'
  refine w_X0_bringBack _ p_lfc q_lfc p_freed q_freed h v ct_lfc ct_freed (fun _ _ => ?_)
  unfold V_X0_bringBack V_X0_bringBack_25
  refine ⟨⟨⟨R, G⟩, hv, cr⟩, fun r4 _ q4 z5 e5 => ⟨fun c1 => ?_, fun c1 => ⟨by omega, fun h2 e2 => ⟨0, Or.inl ⟨r4, ?_, ?_, rfl⟩, ?_⟩⟩⟩⟩
  · have nf : Nof h (nc h 20) v := by
      rcases q4 with q | q
      · have := q.1; omega
      · exact q.2
    refine ⟨⟨⟨R, G⟩, hv, nf, hx⟩, fun r8 h9 f9 _ _ q9 => ⟨by omega, fun h2 e2 => ?_⟩⟩
    obtain ⟨a, b, s1, s2, s3, s4⟩ := q9
    refine ⟨1, Or.inr ⟨nf, a, b, s1, ?_, rfl⟩, ?_⟩
    · rw [nc_up (h := h9) (by unfold vOK; rw [f9 1 (by decide)]; exact hv) e2 (by decide), s3, s2]
    · rw [e2, hup_k (by decide), s4]
  · rcases q4 with q | q
    · exact q
    · exact absurd (e5.trans q.1) c1
  · rw [nc_up hv e2 (by decide), e5]
  · rw [e2, hup_k (by decide)]
    omega
/-- all from place i of the order down to the first -/
def BBs (g : Hp) (L : List Int) : Nat → (Int → Int) → Int → (Int → Int) → Int → Prop
  | 0, c, x, c', x' => c' = c ∧ x' = x
  | i + 1, c, x, c', x' => ∃ v c1 x1, L[i]? = some v ∧ BB g c v c1 x1 ∧ BBs g L i c1 (x + x1) c' x'
theorem BBs_uniq {g : Hp} {L : List Int} : ∀ (i : Nat) {c : Int → Int} {x : Int} {c1 c2 : Int → Int} {x1 x2 : Int}, BBs g L i c x c1 x1 → BBs g L i c x c2 x2 → c1 = c2 ∧ x1 = x2 := by
  intro i
  induction i with
  | zero => intro c x c1 c2 x1 x2 a b; exact ⟨a.1.trans b.1.symm, a.2.trans b.2.symm⟩
  | succ i ih =>
    intro c x c1 c2 x1 x2 a b
    obtain ⟨v, d1, y1, a1, a2, a3⟩ := a
    obtain ⟨w, d2, y2, b1, b2, b3⟩ := b
    have e := Option.some.inj (a1.symm.trans b1)
    subst e
    obtain ⟨e1, e2⟩ := BB_uniq a2 b2
    subst e1 e2
    exact ih a3 b3
/-- what colour makes of a graph: colours and exchanges -/
def ColA (g : Hp) (c : Int → Int) (x : Int) : Prop := ∃ L, Ord g L ∧ (L.length : Int) = g 1 6 ∧ BBs g L L.length (fun _ => 0) 0 c x
theorem ColA_uniq {g : Hp} {c1 c2 : Int → Int} {x1 x2 : Int} (a : ColA g c1 x1) (b : ColA g c2 x2) : c1 = c2 ∧ x1 = x2 := by
  obtain ⟨L, a1, a2, a3⟩ := a
  obtain ⟨M, b1, b2, b3⟩ := b
  have e := Ord_uniq a1 b1 (by omega)
  subst e
  exact BBs_uniq _ a3 b3
def p_colourAll (h : Hp) : Prop := (∃ R, GI h R) ∧ EU h
def q_colourAll (h h' : Hp) : Prop := ColA h (nc h' 20) (h' 4 8) ∧ CR (nc h' 20) ∧ 0 ≤ h' 4 8 ∧ h' 4 8 ≤ 30
set_option maxHeartbeats 1000000 in
theorem ct_colourAll {l : Launch} (h : Hp) (hb : p_colourAll h) : Ct l yX0_colourAll cX0_colourAll 3 none 5 117 0 [vr 4] h [4, 20, 21, 22, 23, 24, 25] (fun _ h1 => q_colourAll h h1) (fun _ => False) := by
  obtain ⟨⟨R, G⟩, eu⟩ := hb
  have g1 := G.1
  refine w_X0_colourAll _ p_forget q_forget p_takeAll q_takeAll p_bring q_bring
    (fun n g x2 => ∃ (L : List Int) (i : Nat), x2 = (i : Int) - 1 ∧ i ≤ L.length ∧ Ord h L ∧ (L.length : Int) = h 1 6 ∧ (∀ j : Nat, j < L.length → L[j]? = some (g 22 j)) ∧ CR (nc g 20) ∧ (0 ≤ g 4 8 ∧ g 4 8 ≤ (L.length : Int) - i) ∧ (∀ c' x', BBs h L i (nc g 20) (g 4 8) c' x' → BBs h L L.length (fun _ => 0) 0 c' x') ∧ n = i) h ct_forget ct_takeAll ct_bring ?_ (fun _ => ?_)
  · rintro n g x2 - F - ⟨L, i, rfl, i1, i2, i3, i4, i5, i6, i7, i8⟩
    have gs : Gs h g := Gs.of F (by decide)
    unfold V_X0_colourAll_13
    refine ⟨fun c => ⟨⟨L, i2, i3, ?_⟩, i5, by omega⟩, fun c => ?_⟩
    · have : i = 0 := by omega
      subst this
      exact i7 _ _ ⟨rfl, rfl⟩
    · have ei : (i : Int) - 1 = ((i - 1 : Nat) : Int) := by omega
      have li := i4 (i - 1) (by omega)
      rw [← ei] at li
      have hv : vOK h (g 22 ((i : Int) - 1)) := (Ord_VL i2).2 _ (List.mem_of_getElem? li)
      refine ⟨by omega, ⟨⟨R, Gs_GI gs G⟩, by unfold vOK; rw [gs.1]; exact hv, i5, by omega⟩, fun h4 f4 _ q4 => ⟨by unfold InR; omega, fun z5 e5 => ⟨i - 1, by omega, L, i - 1, by omega, by omega, i2, i3, ?_, ?_⟩⟩⟩
      · intro j hj
        rw [f4 22 (by decide)]
        exact i4 j hj
      · obtain ⟨x, b1, b2⟩ := q4
        have b1 := (BB_gs gs).mp b1
        obtain ⟨ok1, ok2, ok3⟩ := BB_ok G hv i5 b1
        refine ⟨ok1, by omega, fun c' x' z => i7 c' x' ?_, rfl⟩
        rw [show i = (i - 1) + 1 by omega]
        exact ⟨_, _, x, li, b1, by rw [b2] at z; exact z⟩
  · unfold V_X0_colourAll
    refine ⟨⟨R, G⟩, fun h8 f8 _ q8 => ?_⟩
    have gs8 : Gs h h8 := Gs.of f8 (by decide)
    refine ⟨⟨⟨R, Gs_GI gs8 G⟩, EU_gs gs8 eu⟩, fun r10 h11 f11 _ _ q11 z12 e12 => ?_⟩
    obtain ⟨L, l1, l2, l3, l4⟩ := q11
    rw [gs8.1] at l2 l3
    have gs8' : Gs h8 h := ⟨gs8.1.symm, gs8.2.1.symm, gs8.2.2.1.symm, gs8.2.2.2.1.symm, gs8.2.2.2.2.1.symm, gs8.2.2.2.2.2.1.symm, gs8.2.2.2.2.2.2.symm⟩
    have e0 : nc h11 20 = fun _ => 0 := by
      funext u
      rw [nc_cong (f11 20 (by decide)) (f11 1 (by decide))]
      exact q8.1 u
    have e48 : h11 4 8 = 0 := by rw [f11 4 (by decide)]; exact q8.2.1
    refine ⟨by unfold InR; omega, fun z14 e14 => ⟨L.length, L, L.length, by omega, Nat.le_refl _, Ord_gs gs8' l1, l2, l4, ?_, by omega, ?_, rfl⟩⟩
    · rw [e0]
      intro u
      show (0 : Int) ≤ 0 ∧ (0 : Int) ≤ 5
      omega
    · intro c' x' z
      rw [e0, e48] at z
      exact z

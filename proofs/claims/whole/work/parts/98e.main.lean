/-! The class's own calls: checks, survey, and the calls that change the graph -/
/-- what holds of the class's cells between calls -/
def CS (h : Hp) : Prop := (∃ R, GI h R) ∧ FOK h h ∧ TS h ∧ CR (nc h 20) ∧ 0 ≤ h 4 8 ∧ h 4 8 ≤ 30
def tV (v : Int) (h : Hp) : Prop := ¬ vOK h v
def pT1 (_ : Int) (_ : Hp) : Prop := True
theorem ct_checkVertex {l : Launch} (hst : l.stackTraces = false) (v : Int) (h : Hp) (mc : Nat) (_ : pT1 v h) (hm : tV v h → 1 ≤ mc) : Ct l yX5_checkVertex cX5_checkVertex 2 none 6 82 mc [vr 0, vi v] h [] (fun _ _ => ¬ tV v h ∧ True) (fun E => tV v h ∧ E = "java/lang/IndexOutOfBoundsException") := by
  refine w_X5_checkVertex _ _ h mc v hst (fun _ _ => ?_)
  unfold V_X5_checkVertex V_X5_checkVertex_15
  have bad : ¬ vOK h v → (tV v h ∧ "java/lang/IndexOutOfBoundsException" = "java/lang/IndexOutOfBoundsException") ∧ h = h ∧ 1 ≤ mc := fun z => ⟨⟨z, rfl⟩, rfl, hm z⟩
  refine ⟨fun c => bad (fun z => by have := z.1; omega), fun c => ⟨fun c1 => ⟨fun z => z ⟨by omega, c1⟩, trivial⟩, fun c1 => bad (fun z => c1 z.2)⟩⟩
def tE (e : Int) (h : Hp) : Prop := ¬ eOK h e
def pE1 (_ : Int) (h : Hp) : Prop := ∃ R, GI h R
theorem ct_checkEdge {l : Launch} (hst : l.stackTraces = false) (e : Int) (h : Hp) (mc : Nat) (hp : pE1 e h) (hm : tE e h → 1 ≤ mc) : Ct l yX5_checkEdge cX5_checkEdge 2 none 6 82 mc [vr 0, vi e] h [] (fun _ _ => ¬ tE e h ∧ True) (fun E => tE e h ∧ E = "java/lang/IndexOutOfBoundsException") := by
  obtain ⟨R, G⟩ := hp
  have g2 := G.2.1
  refine w_X5_checkEdge _ _ h mc e hst (fun _ _ => ?_)
  unfold V_X5_checkEdge V_X5_checkEdge_27
  have bad : ¬ eOK h e → (tE e h ∧ "java/lang/IndexOutOfBoundsException" = "java/lang/IndexOutOfBoundsException") ∧ h = h ∧ 1 ≤ mc := fun z => ⟨⟨z, rfl⟩, rfl, hm z⟩
  refine ⟨fun c => bad (fun z => by have := z.1.1; omega), fun c => ⟨fun c1 => bad (fun z => by have := z.1.2; omega), fun c1 => ⟨by omega, fun c2 => ⟨fun z => z ⟨⟨by omega, by omega⟩, ?_⟩, trivial⟩, fun c2 => bad (fun z => by have := z.2; omega)⟩⟩⟩
  rcases G.2.2.1 e (by omega) (by omega) with q | q
  · exact absurd q c2
  · exact q
def tN (e : Int) (h : Hp) : Prop := e ≠ -1 ∧ ¬ eOK h e
theorem ct_checkEdgeOrNone {l : Launch} (hst : l.stackTraces = false) (e : Int) (h : Hp) (mc : Nat) (hp : pE1 e h) (hm : tN e h → 1 ≤ mc) : Ct l yX5_checkEdgeOrNone cX5_checkEdgeOrNone 2 none 7 103 mc [vr 0, vi e] h [] (fun _ _ => ¬ tN e h ∧ True) (fun E => tN e h ∧ E = "java/lang/IndexOutOfBoundsException") := by
  refine w_X5_checkEdgeOrNone _ _ h mc pE1 tE e (ct_checkEdge hst) (fun _ _ => ?_)
  unfold V_X5_checkEdgeOrNone V_X5_checkEdgeOrNone_10
  exact ⟨fun c => ⟨fun z => z.1 c, trivial⟩, fun c => ⟨hp, fun z => ⟨⟨⟨c, z⟩, rfl⟩, rfl, hm ⟨c, z⟩⟩, fun z => ⟨fun y => z y.2, trivial⟩⟩⟩
def tF (f : Int) (h : Hp) : Prop := ¬ (0 ≤ f ∧ f < h 2 4)
theorem ct_checkFace {l : Launch} (hst : l.stackTraces = false) (f : Int) (h : Hp) (mc : Nat) (_ : pT1 f h) (hm : tF f h → 1 ≤ mc) : Ct l yX5_checkFace cX5_checkFace 2 none 6 82 mc [vr 0, vi f] h [] (fun _ _ => ¬ tF f h ∧ True) (fun E => tF f h ∧ E = "java/lang/IndexOutOfBoundsException") := by
  refine w_X5_checkFace _ _ h mc f hst (fun _ _ => ?_)
  unfold V_X5_checkFace V_X5_checkFace_15
  have bad : ¬ (0 ≤ f ∧ f < h 2 4) → (tF f h ∧ "java/lang/IndexOutOfBoundsException" = "java/lang/IndexOutOfBoundsException") ∧ h = h ∧ 1 ≤ mc := fun z => ⟨⟨z, rfl⟩, rfl, hm z⟩
  refine ⟨fun c => bad (fun z => by have := z.1; omega), fun c => ⟨fun c1 => ⟨fun z => z ⟨by omega, c1⟩, trivial⟩, fun c1 => bad (fun z => c1 z.2)⟩⟩
def p_genus (h : Hp) : Prop := (∃ R, GI h R) ∧ FOK h h ∧ TS h
def q_genus (h : Hp) (r : Int) : Prop := r = gnF h
theorem ct_genus {l : Launch} (h : Hp) (hp : p_genus h) : Ct l yX5_genus cX5_genus 2 (some .int) 1 22 0 [vr 0] h [] (fun r _ => q_genus h r) (fun _ => False) := by
  obtain ⟨⟨R, G⟩, fok, ts⟩ := hp
  have g1 := G.1
  have g2 := G.2.1
  have hl := cnt_le (fun e => h 9 e = 1) (h 1 7).toNat
  have g7 := G.2.2.2.2.2.2
  have n1 := nF_le G
  have n2 := tr_37 G
  have n3 := cnt_le (fun v => h 11 v = 0) (h 1 6).toNat
  refine w_X5_genus _ p_lonely q_lonely h ct_lonely (fun _ => ?_)
  unfold V_X5_genus
  refine ⟨g1, fun r2 _ q2 => ?_⟩
  have q2 : r2 = cnt (fun v => h 11 v = 0) (h 1 6).toNat := q2
  have e24 : h 2 4 = nF h := fok.1
  rw [e24, ts.1]
  refine ⟨by unfold InR; omega, fun z4 e4 => ?_⟩
  have td : -1000 ≤ (h 1 6 - h 1 8 + z4).tdiv 2 ∧ (h 1 6 - h 1 8 + z4).tdiv 2 ≤ 1000 := td2 (by omega)
  refine ⟨by unfold InR; omega, by unfold InR; omega, ⟨by omega, by unfold InR; omega⟩, by unfold InR; omega, ?_⟩
  show _ = gnF h
  unfold gnF
  rw [e4, q2, ← Int.add_assoc]
def q_isPlane (h : Hp) (r : Int) : Prop := (r = 1 ∧ gnF h = 0) ∨ (r = 0 ∧ gnF h ≠ 0)
theorem ct_isPlane {l : Launch} (h : Hp) (hp : p_genus h) : Ct l yX5_isPlane cX5_isPlane 1 (some .boolean) 2 43 0 [vr 0] h [] (fun r _ => q_isPlane h r) (fun _ => False) := by
  refine w_X5_isPlane _ p_genus q_genus h ct_genus (fun _ => ?_)
  unfold V_X5_isPlane V_X5_isPlane_12
  exact ⟨hp, fun r _ q => ⟨fun c => ⟨Or.inl rfl, Or.inr ⟨rfl, fun z => c (q.trans z)⟩⟩, fun c => ⟨Or.inr rfl, Or.inl ⟨rfl, q.symm.trans c⟩⟩⟩⟩
def tP (h : Hp) : Prop := gnF h ≠ 0
theorem ct_checkPlane {l : Launch} (hst : l.stackTraces = false) (h : Hp) (mc : Nat) (hp : p_genus h) (hm : tP h → 1 ≤ mc) : Ct l yX5_checkPlane cX5_checkPlane 1 none 6 82 mc [vr 0] h [] (fun _ _ => ¬ tP h ∧ True) (fun E => tP h ∧ E = "java/lang/IllegalStateException") := by
  refine w_X5_checkPlane _ _ h mc p_genus q_isPlane ct_isPlane hst (fun _ => ?_)
  unfold V_X5_checkPlane
  refine ⟨hp, fun r _ q => ⟨fun c => ⟨fun z => ?_, trivial⟩, fun c => ?_⟩⟩
  · rcases q with q | q
    · exact z q.2
    · exact c q.1
  · have t : tP h := by
      rcases q with q | q
      · omega
      · exact q.2
    exact ⟨⟨t, rfl⟩, rfl, hm t⟩
def p_sAg (h : Hp) : Prop := ∃ R, GI h R
def q_sAg (_ h' : Hp) : Prop := FOK h' h' ∧ TS h'
theorem ct_sAg {l : Launch} (h : Hp) (hp : p_sAg h) : Ct l yX5_surveyAgain cX5_surveyAgain 1 none 4 91 0 [vr 0] h [2, 3, 12, 13, 14, 15, 16, 17, 18, 19] (fun _ h1 => q_sAg h h1) (fun _ => False) := by
  obtain ⟨R, G⟩ := hp
  refine w_X5_surveyAgain _ p_fsurvey q_fsurvey p_tsurvey q_tsurvey h ct_fsurvey ct_tsurvey (fun _ => ?_)
  unfold V_X5_surveyAgain
  refine ⟨⟨R, G⟩, fun h2 f2 _ q2 => ?_⟩
  have gs2 : Gs h h2 := Gs.of f2 (by decide)
  have G2 := Gs_GI gs2 G
  refine ⟨⟨R, G2⟩, fun h4 f4 _ q4 => ⟨?_, ?_⟩⟩
  · exact FOK_gs (gs2.tr (Gs.of f4 (by decide))) q2 (f4 2 (by decide)) (f4 12 (by decide)) (f4 13 (by decide)) (f4 14 (by decide))
  · have q4 : h4 = survH h2 := q4
    rw [q4]
    exact TS_surv G2
-- vertex
def q_vertex (h : Hp) (r : Int) (h1 : Hp) : Prop := h 1 6 < 30 ∧ r = h 1 6 ∧ Gs (vtxH h) h1 ∧ FOK h1 h1 ∧ TS h1 ∧ nc h1 20 = nc h 20 ∧ h1 4 = h 4
theorem ct_vertex {l : Launch} (hst : l.stackTraces = false) (h : Hp) (hp : CS h) : Ct l yX5_vertex cX5_vertex 2 (some .int) 6 111 1 [vr 0] h [1, 2, 3, 10, 11, 12, 13, 14, 15, 16, 17, 18, 19, 20] (fun r h1 => q_vertex h r h1) (fun E => ¬ h 1 6 < 30 ∧ E = "java/lang/UnsupportedOperationException") := by
  obtain ⟨⟨R, G⟩, -, -, -, -⟩ := hp
  have g1 := G.1
  refine w_X5_vertex _ _ h 1 p_addVertex q_addVertex p_sAg q_sAg ct_addVertex ct_sAg hst (fun _ => ?_)
  unfold V_X5_vertex
  refine ⟨fun c => ⟨⟨g1.1, c⟩, fun r3 h4 f4 _ _ q4 z5 e5 => ?_⟩, fun c => ⟨⟨c, rfl⟩, rfl, Nat.le_refl 1⟩⟩
  obtain ⟨q1, q2⟩ := q4
  have q2 : h4 = vtxH h := q2
  have e5 : z5 = h 1 6 := e5.trans q1
  subst e5
  refine ⟨by omega, fun h7 e7 => ?_⟩
  have G4 : GI h4 R := by rw [q2]; exact GI_vtx G c
  have gs7 : Gs h4 h7 := by rw [e7]; exact Gs.of (M := [20]) (Fr.rf.up (by decide)) (by decide)
  refine ⟨⟨R, Gs_GI gs7 G4⟩, fun h9 f9 _ q9 => ⟨c, rfl, ?_, q9.1, q9.2, ?_, ?_⟩⟩
  · rw [← q2]
    exact gs7.tr (Gs.of f9 (by decide))
  · have e1 : h9 1 6 = h 1 6 + 1 := by rw [f9 1 (by decide), e7, hup_k (by decide), q2]; unfold vtxH; rw [hup_s]
    funext v
    unfold nc
    rw [e1, f9 20 (by decide), e7]
    by_cases z : v = h 1 6
    · rw [z, hup_s, if_neg (show ¬ (0 ≤ h 1 6 ∧ h 1 6 < h 1 6) by omega)]
      split <;> rfl
    · rw [hup_o (fun y => z y.2), q2]
      have e20 : vtxH h 20 = h 20 := by unfold vtxH; rw [hup_k (by decide), hup_k (by decide), hup_k (by decide)]
      rw [e20]
      by_cases y : 0 ≤ v ∧ v < h 1 6
      · rw [if_pos y, if_pos (by omega)]
      · rw [if_neg y, if_neg (by omega)]
  · rw [f9 4 (by decide), e7, hup_k (by decide), f4 4 (by decide)]
-- edge
def q_edge (a b ba bb : Int) (h : Hp) (r : Int) (h1 : Hp) : Prop := EC h a b ba bb 0 ∧ r = h 1 7 ∧ Gs (addH h a b ba bb) h1 ∧ FOK h1 h1 ∧ TS h1 ∧ (∀ v, nc h1 20 v = 0) ∧ h1 4 8 = 0
def x_edge (a b ba bb : Int) (h : Hp) (E : String) : Prop := (E = "java/lang/IndexOutOfBoundsException" ∧ EC h a b ba bb 1) ∨ (E = "java/lang/IllegalArgumentException" ∧ EC h a b ba bb 2) ∨ (E = "java/lang/UnsupportedOperationException" ∧ EC h a b ba bb 3)
set_option maxHeartbeats 1000000 in
theorem ct_edge {l : Launch} (hst : l.stackTraces = false) (a b ba bb : Int) (h : Hp) (hp : CS h) : Ct l yX5_edge cX5_edge 6 (some .int) 8 124 1 [vr 0, vi a, vi b, vi ba, vi bb] h [1, 2, 3, 4, 6, 7, 8, 9, 10, 11, 12, 13, 14, 15, 16, 17, 18, 19, 20] (fun r h1 => q_edge a b ba bb h r h1) (fun E => x_edge a b ba bb h E) := by
  obtain ⟨⟨R, G⟩, -, -, -, -⟩ := hp
  have g1 := G.1
  have g2 := G.2.1
  refine w_X5_edge _ _ h 1 pT1 tV pE1 tN p_areJoined q_areJoined p_mayFollow q_mayFollow p_addEdge q_addEdge p_forget q_forget p_sAg q_sAg a b ba bb (ct_checkVertex hst) (ct_checkEdgeOrNone hst) ct_areJoined ct_mayFollow ct_addEdge ct_forget ct_sAg hst (fun _ _ _ _ _ => ?_)
  have bad : ¬ ET h a b ba bb → x_edge a b ba bb h "java/lang/IndexOutOfBoundsException" ∧ h = h ∧ 1 ≤ 1 := fun z => ⟨Or.inl ⟨rfl, Or.inl ⟨rfl, z⟩⟩, rfl, Nat.le_refl 1⟩
  unfold V_X5_edge V_X5_edge_38 V_X5_edge_73
  refine ⟨trivial, fun z => bad (fun y => z y.1), fun c1 => ⟨trivial, fun z => bad (fun y => z y.2.1), fun c2 => ⟨⟨R, G⟩, fun z => bad (fun y => ?_), fun c3 => ⟨⟨R, G⟩, fun z => bad (fun y => ?_), fun c4 => ?_⟩⟩⟩⟩
  · rcases y.2.2.1 with q | q
    · exact z.1 q
    · exact z.2 q
  · rcases y.2.2.2 with q | q
    · exact z.1 q
    · exact z.2 q
  have va : vOK h a := Classical.byContradiction c1
  have vb : vOK h b := Classical.byContradiction c2
  have ea : ba = -1 ∨ eOK h ba := by
    by_cases q : ba = -1
    · exact Or.inl q
    · exact Or.inr (Classical.byContradiction (fun z => c3 ⟨q, z⟩))
  have eb : bb = -1 ∨ eOK h bb := by
    by_cases q : bb = -1
    · exact Or.inl q
    · exact Or.inr (Classical.byContradiction (fun z => c4 ⟨q, z⟩))
  have et : ET h a b ba bb := ⟨va, vb, ea, eb⟩
  have bad2 : EA h a b ba bb → x_edge a b ba bb h "java/lang/IllegalArgumentException" ∧ h = h ∧ 1 ≤ 1 := fun z => ⟨Or.inr (Or.inl ⟨rfl, Or.inr (Or.inl ⟨rfl, et, z⟩)⟩), rfl, Nat.le_refl 1⟩
  have ma : p_mayFollow a ba h := by
    rcases ea with q | q
    · exact Or.inl q
    · have := q.1; exact Or.inr (by omega)
  have mb : p_mayFollow b bb h := by
    rcases eb with q | q
    · exact Or.inl q
    · have := q.1; exact Or.inr (by omega)
  refine ⟨fun d => bad2 (Or.inl d), fun d => ⟨⟨R, G, va⟩, fun r7 _ q7 => ⟨fun d1 => ⟨ma, fun r10 _ q10 => ⟨fun d2 => bad2 ?_, fun d2 => ⟨mb, fun r13 _ q13 => ⟨fun d3 => ?_, fun d3 => bad2 ?_⟩⟩⟩⟩, fun d1 => bad2 ?_⟩⟩⟩
  · rcases q10 with q | q
    · omega
    · exact Or.inr (Or.inr (Or.inl q.2))
  · have nea : ¬ EA h a b ba bb := by
      rintro (z | z | z | z)
      · exact d z
      · rcases q7 with q | q
        · omega
        · exact q.2 z
      · rcases q10 with q | q
        · exact z q.2
        · omega
      · rcases q13 with q | q
        · exact z q.2
        · omega
    refine ⟨fun d4 => ?_, fun d4 => ⟨Or.inr (Or.inr ⟨rfl, Or.inr (Or.inr (Or.inl ⟨rfl, et, nea, by omega⟩))⟩), rfl, Nat.le_refl 1⟩⟩
    have ec : EC h a b ba bb 0 := Or.inr (Or.inr (Or.inr ⟨rfl, et, nea, d4⟩))
    obtain ⟨p1, p2, ao⟩ := addOk_ex G ec
    refine ⟨⟨R, p1, p2, ao⟩, fun r17 h18 f18 _ _ q18 z19 e19 => ?_⟩
    obtain ⟨u1, u2⟩ := q18
    have G18 : GI h18 (addR h R a b p1 p2) := by rw [u2]; exact GI_add ao
    refine ⟨⟨_, G18⟩, fun h21 f21 _ q21 => ?_⟩
    have gs21 : Gs h18 h21 := Gs.of f21 (by decide)
    refine ⟨⟨_, Gs_GI gs21 G18⟩, fun h23 f23 _ q23 => ⟨ec, e19.trans u1, ?_, q23.1, q23.2, fun v => ?_, ?_⟩⟩
    · rw [← u2]
      exact gs21.tr (Gs.of f23 (by decide))
    · rw [nc_cong (h := h21) (f23 20 (by decide)) (f23 1 (by decide))]
      exact q21.1 v
    · rw [f23 4 (by decide)]
      exact q21.2.1
  · rcases q13 with q | q
    · omega
    · exact Or.inr (Or.inr (Or.inr q.2))
  · rcases q7 with q | q
    · exact Or.inr (Or.inl q.2)
    · exact absurd q.1 d1
-- remove
def q_remove (e : Int) (h : Hp) (r : Int) (h1 : Hp) : Prop := eOK h e ∧ r = h 1 8 - 1 ∧ Gs (dropH h e) h1 ∧ FOK h1 h1 ∧ TS h1 ∧ (∀ v, nc h1 20 v = 0) ∧ h1 4 8 = 0
theorem dropOk_ex {h : Hp} {R : Int → Nat → Int} (G : GI h R) {e : Int} (he : eOK h e) : ∃ p1 p2, DropOk h R e p1 p2 := by
  obtain ⟨⟨s1, s2⟩, hu, hv, -⟩ := edge_ok G he
  obtain ⟨i, i1, i2⟩ := sk_all G hu s1 rfl
  obtain ⟨j, j1, j2⟩ := sk_all G hv s2 rfl
  rw [sk_R G hu i i1] at i2
  rw [sk_R G hv j j1] at j2
  exact ⟨i, j, G, he.1, he.2, ⟨i1, i2⟩, j1, j2⟩
theorem ct_remove {l : Launch} (hst : l.stackTraces = false) (e : Int) (h : Hp) (hp : CS h) : Ct l yX5_remove cX5_remove 2 (some .int) 7 111 1 [vr 0, vi e] h [1, 2, 3, 4, 7, 8, 9, 10, 11, 12, 13, 14, 15, 16, 17, 18, 19, 20] (fun r h1 => q_remove e h r h1) (fun E => ¬ eOK h e ∧ E = "java/lang/IndexOutOfBoundsException") := by
  obtain ⟨⟨R, G⟩, -, -, -, -⟩ := hp
  refine w_X5_remove _ _ h 1 pE1 tE p_dropEdge q_dropEdge p_forget q_forget p_sAg q_sAg e (ct_checkEdge hst) ct_dropEdge ct_forget ct_sAg (fun _ _ => ?_)
  unfold V_X5_remove
  refine ⟨⟨R, G⟩, fun z => ⟨⟨z, rfl⟩, rfl, Nat.le_refl 1⟩, fun c => ?_⟩
  have he : eOK h e := Classical.byContradiction c
  obtain ⟨p1, p2, dk⟩ := dropOk_ex G he
  refine ⟨⟨R, G, he.1, he.2⟩, fun h3 f3 _ q3 => ?_⟩
  have q3 : h3 = dropH h e := q3
  have G3 : GI h3 (dropR h R e p1 p2) := by rw [q3]; exact GI_drop dk
  refine ⟨⟨_, G3⟩, fun h5 f5 _ q5 => ?_⟩
  have gs5 : Gs h3 h5 := Gs.of f5 (by decide)
  refine ⟨⟨_, Gs_GI gs5 G3⟩, fun h7 f7 _ q7 => ⟨he, ?_, ?_, q7.1, q7.2, fun v => ?_, ?_⟩⟩
  · rw [f7 1 (by decide), f5 1 (by decide), q3]
    unfold dropH
    rw [hup_s]
  · rw [← q3]
    exact gs5.tr (Gs.of f7 (by decide))
  · rw [nc_cong (h := h5) (f7 20 (by decide)) (f7 1 (by decide))]
    exact q5.1 v
  · rw [f7 4 (by decide)]
    exact q5.2.1
-- clear
def q_clear (h1 : Hp) : Prop := h1 1 6 = 0 ∧ h1 1 7 = 0 ∧ h1 1 8 = 0 ∧ FOK h1 h1 ∧ TS h1 ∧ h1 4 8 = 0
theorem GI_0 {h : Hp} (e6 : h 1 6 = 0) (e7 : h 1 7 = 0) (e8 : h 1 8 = 0) : GI h (fun _ _ => 0) := by
  have noS : ∀ s, ¬ Sd h s := fun s hs => by
    have := hs.1
    have := hs.2.1
    omega
  refine ⟨by omega, by omega, fun e a b => by omega, fun s hs => absurd hs (noS s), fun s t hs => absurd hs (noS s), fun v a b => by omega, ?_⟩
  rw [e8, e7]
  rfl
theorem ct_clear {l : Launch} (h : Hp) (hp : CS h) : Ct l yX5_clear cX5_clear 1 none 5 111 0 [vr 0] h [1, 2, 3, 4, 12, 13, 14, 15, 16, 17, 18, 19, 20] (fun _ h1 => q_clear h1) (fun _ => False) := by
  obtain ⟨⟨R, G⟩, -, -, -, -⟩ := hp
  refine w_X5_clear _ p_forget q_forget (fun _ => True) q_dropAll p_sAg q_sAg h ct_forget (fun h _ => ct_dropAll h) ct_sAg (fun _ => ?_)
  unfold V_X5_clear
  refine ⟨⟨R, G⟩, fun h2 f2 _ q2 => ⟨trivial, fun h4 f4 _ q4 => ?_⟩⟩
  have q4 : h4 = hup (hup (hup h2 1 6 0) 1 7 0) 1 8 0 := q4
  have e6 : h4 1 6 = 0 := by rw [q4, hup_o (fun z => by have := z.2; omega), hup_o (fun z => by have := z.2; omega), hup_s]
  have e7 : h4 1 7 = 0 := by rw [q4, hup_o (fun z => by have := z.2; omega), hup_s]
  have e8 : h4 1 8 = 0 := by rw [q4, hup_s]
  refine ⟨⟨_, GI_0 e6 e7 e8⟩, fun h6 f6 _ q6 => ⟨by rw [f6 1 (by decide)]; exact e6, by rw [f6 1 (by decide)]; exact e7, by rw [f6 1 (by decide)]; exact e8, q6.1, q6.2, ?_⟩⟩
  rw [f6 4 (by decide), f4 4 (by decide)]
  exact q2.2.1

/-! The reference's isTree, depth, findCycle, cycle -/
/-- the reference's tree rows are the tree's -/
def MT (h : Hp) : Prop := ∀ v, vOK h v → h 39 v = tr h 18 v ∧ h 38 v = tr h 15 v
theorem MT_of {h h' : Hp} {R : Int → Nat → Int} (G : GI h R) (t : TMr h' (tr h)) (e : ∀ k, k < 30 → h' k = h k) : MT h' := by
  intro v hv
  have hv' : vOK h v := by unfold vOK at hv ⊢; rw [e 1 (by decide)] at hv; exact hv
  have a := t.1 v hv.1 hv.2
  have b := ((tr_facts G).1 v hv').1
  rw [if_neg (by omega)] at a
  rw [tr_cong e]
  exact a
theorem MT_cong {h h' : Hp} (t : MT h) (e : ∀ k, k < 30 → h' k = h k) (e38 : h' 38 = h 38) (e39 : h' 39 = h 39) : MT h' := by
  intro v hv
  have hv' : vOK h v := by unfold vOK at hv ⊢; rw [e 1 (by decide)] at hv; exact hv
  rw [tr_cong e, e38, e39]
  exact t v hv'
def p_isTree (e : Int) (h : Hp) : Prop := Sy h ∧ MT h ∧ eOK h e
def q_isTree (e : Int) (h : Hp) (r : Int) : Prop := (r = 1 ∧ inT h e) ∨ (r = 0 ∧ ¬ inT h e)
theorem ct_isTree {l : Launch} (e : Int) (h : Hp) (hb : p_isTree e h) : Ct l yX6_isTree cX6_isTree 2 (some .boolean) 0 0 0 [vr 30, vi e] h [] (fun r _ => q_isTree e h r) (fun _ => False) := by
  obtain ⟨⟨R, G, m⟩, mt, he⟩ := hb
  obtain ⟨⟨s1, s2⟩, hu, hv, -⟩ := edge_ok G he
  have g1 := G.1
  have g2 := G.2.1
  obtain ⟨he1, he2⟩ := he
  obtain ⟨e31, e32, -⟩ := m.2.2.2.1 e he1.1 he1.2
  have hu' := hu
  have hv' := hv
  unfold vOK at hu' hv'
  refine w_X6_isTree _ h e (fun _ _ => ?_)
  unfold V_X6_isTree V_X6_isTree_40 V_X6_isTree_45
  rw [e31, e32, (mt _ hu).2, (mt _ hv).2]
  refine ⟨by omega, by omega, by omega, fun c => ⟨Or.inr rfl, Or.inl ⟨rfl, Or.inl c⟩⟩, fun c => ⟨by omega, by omega, by omega, fun c1 => ⟨Or.inl rfl, Or.inr ⟨rfl, ?_⟩⟩, fun c1 => ⟨Or.inr rfl, Or.inl ⟨rfl, Or.inr c1⟩⟩⟩⟩
  rintro (z | z)
  · exact c z
  · exact c1 z
def p_depth (v : Int) (h : Hp) : Prop := (∃ R, GI h R) ∧ MT h ∧ vOK h v
def q_depth (v : Int) (h : Hp) (r : Int) : Prop := r = tr h 17 v
theorem ct_depth {l : Launch} (v : Int) (h : Hp) (hb : p_depth v h) : Ct l yX6_depth cX6_depth 4 (some .int) 0 0 0 [vr 30, vi v] h [] (fun r _ => q_depth v h r) (fun _ => False) := by
  obtain ⟨⟨R, G⟩, mt, hv⟩ := hb
  have g1 := G.1
  have T := tr_facts G
  refine w_X6_depth _ (fun n g x2 x3 => g = h ∧ vOK h x3 ∧ x2 + tr h 17 x3 = tr h 17 v ∧ 0 ≤ x2 ∧ (n : Int) = tr h 17 x3) h v ?_ (fun _ _ => ?_)
  · rintro n g x2 x3 - F - - ⟨rfl, i1, i2, i3, i4⟩
    have i1' := i1
    unfold vOK at i1'
    have lv := (T.1 v hv).2.2
    have lx := (T.1 x3 i1).2.2
    unfold V_X6_depth_4
    rw [(mt _ i1).2]
    refine ⟨by omega, fun c => ?_, fun c => ⟨by unfold InR; omega, fun z3 e3 => ⟨by omega, fun z6 e6 => ?_⟩⟩⟩
    · show x2 = tr g 17 v
      rcases (T.1 x3 i1).2.1 with a | a
      · have := a.2.2; omega
      · have := a.1.1; omega
    · rcases (T.1 x3 i1).2.1 with a | a
      · exact absurd a.1 c
      · have := (T.1 _ a.1).2.2
        have l1 := a.2.2.1
        rw [← e6] at this l1
        exact ⟨n - 1, by omega, rfl, by rw [e6]; exact a.1, by omega, by omega, by omega⟩
  · unfold V_X6_depth
    intro z7 e7 z8 e8
    have := (T.1 v hv).2.2
    rw [e8]
    exact ⟨(tr h 17 v).toNat, rfl, hv, by omega, by omega, by omega⟩
/-- the edge between a vertex and the one above it -/
theorem between_up {h a : Hp} {R : Int → Nat → Int} (G : GI h R) (m : MR h h R) {u r s : Int} (hu : vOK h u) (hs : Sd h s) (s2 : h 6 s = tr h 15 u) (s3 : h 6 (tw s) = u) (e31 : a 31 = h 31) (e32 : a 32 = h 32) (e34 : a 34 = h 34) (e35 : a 35 = h 35) (q : q_between u (tr h 15 u) a r) : r = s / 2 := by
  have md := mr_deg G m hu
  have far : ∀ k : Nat, (k : Int) < h 11 u → farF a (row h u k) u = nbr h u k := fun k hk => far_at G m hu hk e31 e32 rfl
  rcases q with ⟨-, q⟩ | ⟨p, p1, p2, p3⟩
  · exfalso
    obtain ⟨j, j1, j2⟩ := sk_all G hu (Sd_tw hs) s3
    have := q j (by rw [e35, md.1]; exact j1)
    rw [e34] at this
    refine this ?_
    have f := far j j1
    unfold row at f
    rw [f]
    unfold nbr
    rw [j2, tw_tw]
    exact s2
  · rw [e35, md.1] at p1
    rw [e34] at p2 p3
    have f := far p p1
    unfold row at f
    rw [f] at p3
    have ss := sk_S G hu p1
    have : sk h u p = tw s := G.2.2.2.2.1 _ _ ss.1 (Sd_tw hs) (ss.2.trans s3.symm) (by rw [tw_tw, s2]; exact p3)
    have rw' := (m.2.2.2.2 u hu.1 hu.2).2 p p1
    unfold row at rw'
    rw [p2, rw', ← sk_R G hu p p1, this, tw_div]
def p_findCycle (e : Int) (h : Hp) : Prop := Sy h ∧ MT h ∧ eOK h e
def q_findCycle (e : Int) (h : Hp) (r : Int) (h' : Hp) : Prop := (∀ v, vOK h v → h' 44 v = if v ∈ cyV h e then 1 else 0) ∧ (∀ k, 0 ≤ k → k < h 1 7 → h' 45 k = if k ∈ cyE h e then 1 else 0) ∧ r = (cyV h e).length
set_option maxHeartbeats 1000000 in
theorem ct_findCycle {l : Launch} (e : Int) (h : Hp) (hb : p_findCycle e h) : Ct l yX6_findCycle cX6_findCycle 7 (some .int) 2 45 0 [vr 30, vi e] h [44, 45] (fun r h1 => q_findCycle e h r h1) (fun _ => False) := by
  obtain ⟨⟨R, G, m⟩, mt, he⟩ := hb
  obtain ⟨⟨s1, s2⟩, hu, hv, ep⟩ := edge_ok G he
  have g1 := G.1
  have g2 := G.2.1
  have T := tr_facts G
  have call := CI_all G hu hv ep
  obtain ⟨X, eX⟩ : ∃ X, X = cst (tr h) (h 6 (2 * e)) (h 6 (2 * e + 1)) := ⟨_, rfl⟩
  rw [← eX] at call
  have eF : cyF h e = X 30 := by rw [eX]; rfl
  obtain ⟨he1, he2⟩ := id he
  obtain ⟨e31, e32, -⟩ := m.2.2.2.1 e he1.1 he1.2
  refine w_X6_findCycle _ p_depth q_depth p_between q_between
    (fun n g x1 x2 => x1 = e ∧ ∃ k : Nat, x2 = k ∧ k ≤ 30 ∧ (∀ w : Int, 0 ≤ w → w < k → g 44 w = 0) ∧ n = 30 - k)
    (fun n g x1 x2 => x1 = e ∧ ∃ k : Nat, x2 = k ∧ k ≤ 100 ∧ (∀ w : Int, 0 ≤ w → w < 30 → g 44 w = 0) ∧ (∀ w : Int, 0 ≤ w → w < k → g 45 w = 0) ∧ n = 100 - k)
    (fun n g x2 x3 x4 => ∃ i : Nat, x4 = (i : Int) + 1 ∧ x2 = (X i).1 ∧ x3 = (X i).2.1 ∧ (X i).2.2.length = i ∧ (∀ v, vOK h v → g 44 v = if v ∈ (X i).2.2 then 1 else 0) ∧ (∀ k, 0 ≤ k → k < h 1 7 → g 45 k = if k ∈ e :: (X i).2.2.map (tr h 16) then 1 else 0) ∧ n = 30 - i) h e ct_depth ct_between ?_ ?_ ?_ (fun _ _ => ?_)
  · rintro n g x1 x2 - F - - ⟨rfl, k, rfl, i1, i2, i3⟩
    unfold V_X6_findCycle_2
    refine ⟨fun c z e' => ⟨100, rfl, 0, e', by omega, fun w w1 w2 => i2 w w1 (by omega), fun w w1 w2 => by omega, rfl⟩, fun c => ⟨by omega, fun h42 e42 => ⟨by unfold InR; omega, fun z ez => ⟨30 - (k + 1), by omega, rfl, k + 1, by omega, by omega, fun w w1 w2 => ?_, rfl⟩⟩⟩⟩
    rw [e42]
    by_cases z : w = k
    · rw [z, hup_s]
    · rw [hup_o (fun q => z q.2)]
      exact i2 w w1 (by omega)
  · rintro n g x1 x2 - F - - ⟨rfl, k, rfl, i1, i2, i3, i4⟩
    unfold V_X6_findCycle_23
    refine ⟨fun c => ⟨by omega, fun h29 e29 => ?_⟩, fun c => ⟨by omega, fun h36 e36 => ⟨by unfold InR; omega, fun z ez => ⟨100 - (k + 1), by omega, rfl, k + 1, by omega, by omega, fun w w1 w2 => by rw [e36, hup_k (by decide)]; exact i2 w w1 w2, fun w w1 w2 => ?_, rfl⟩⟩⟩⟩
    · have k31 : h29 31 = h 31 := by rw [e29, hup_k (by decide), F 31 (by decide)]
      have k32 : h29 32 = h 32 := by rw [e29, hup_k (by decide), F 32 (by decide)]
      rw [k31, k32, e31, e32]
      refine ⟨by omega, fun z31 f31 => ⟨by omega, fun z33 f33 z34 f34 => ⟨30, 0, f34, by rw [f31, eX]; rfl, by rw [f33, eX]; rfl, by rw [eX]; rfl, fun v hv => ?_, fun j j1 j2 => ?_, rfl⟩⟩⟩
      · have := hv.2
        rw [e29, hup_k (by decide), i2 v hv.1 (by omega), eX]
        show (0 : Int) = if v ∈ [] then 1 else 0
        rw [if_neg List.not_mem_nil]
      · rw [e29, eX]
        show hup g 45 x1 1 45 j = if j ∈ [x1] then 1 else 0
        by_cases z : j = x1
        · rw [z, hup_s, if_pos (List.mem_singleton.mpr rfl)]
        · rw [hup_o (fun q => z q.2), i3 j j1 (by omega), if_neg (fun q => z (List.mem_singleton.mp q))]
    · rw [e36]
      by_cases z : w = k
      · rw [z, hup_s]
      · rw [hup_o (fun q => z q.2)]
        exact i3 w w1 (by omega)
  · rintro n g x2 x3 x4 - F - - - ⟨i, rfl, rfl, rfl, i1, i2, i3, i6⟩
    have f30 : ∀ k, k < 30 → g k = h k := lt30 F (by decide)
    have gs : Gs h g := Gs.of F (by decide)
    have mtg : MT g := MT_cong mt f30 (F 38 (by decide)) (F 39 (by decide))
    have etr : tr g = tr h := tr_cong f30
    have c := call i
    have hl := CI_len G c
    obtain ⟨⟨c1, c2, c3⟩, c4, c5, -⟩ := id c
    have c1' := c1
    have c2' := c2
    unfold vOK at c1' c2'
    have c1g : vOK g (X i).1 := by unfold vOK; rw [gs.1]; exact c1
    have c2g : vOK g (X i).2.1 := by unfold vOK; rw [gs.1]; exact c2
    have step : (X i).1 ≠ (X i).2.1 → X (i + 1) = cstep (tr h) (X i) := fun _ => by rw [eX]; rfl
    unfold V_X6_findCycle_66 V_X6_findCycle_89 V_X6_findCycle_101 V_X6_findCycle_145 V_X6_findCycle_161
    refine ⟨fun d => ⟨by omega, fun h21 e21 => ?_⟩, fun d => ⟨⟨⟨R, Gs_GI gs G⟩, mtg, c1g⟩, fun r23 _ q23 => ⟨⟨⟨R, Gs_GI gs G⟩, mtg, c2g⟩, fun r25 _ q25 => ?_⟩⟩⟩
    · have ef : cyF h e = X i := by
        rw [eF]
        have := cst_stop (t := tr h) (u := h 6 (2 * e)) (v := h 6 (2 * e + 1)) (n := i) (by rw [← eX]; exact d) (30 - i)
        rw [show i + (30 - i) = 30 by omega, ← eX] at this
        exact this
      refine ⟨fun v hv => ?_, fun k k1 k2 => ?_, ?_⟩
      · unfold cyV
        rw [ef]
        refine mark_add (f := g 44) (i2 v hv) (fun z => ?_) (fun z => ?_)
        · rw [e21, z, hup_s]
        · rw [e21, hup_o (fun q => z q.2)]
      · unfold cyE
        rw [ef, e21, hup_k (by decide)]
        exact i3 k k1 k2
      · unfold cyV
        rw [ef, List.length_append, i1]
        rfl
    · have q23 : r23 = tr g 17 (X i).1 := q23
      have q25 : r25 = tr g 17 (X i).2.1 := q25
      rw [etr] at q23 q25
      have pb : ∀ (g' : Hp) (w : Int), vOK h w → Fr [44, 45] h g' → p_between w (g' 38 w) g' := by
        intro g' w hw F'
        have md := mr_deg G m hw
        unfold p_between
        rw [F' 35 (by decide), F' 34 (by decide), md.1]
        have := hw.1
        have := hw.2
        refine ⟨by omega, by omega, fun k hk => ?_⟩
        exact (mr_nbr G m hw hk).1
      refine ⟨fun d2 => ?_, fun d2 => ?_⟩
      · refine fun z17 e17 => ⟨fun d3 z7 e7 => ?_, fun d3 => absurd e17 d3⟩
        have ne := d
        obtain ⟨n1, n2, n3, n4, s, q1, q2, q3, q4⟩ := not_root G c2 c1 c3.symm (fun z => d z.symm) (by omega)
        have ls := Sd_lt G q1
        have len := (CI_step G c ne).2
        rw [← step ne] at len
        have sx : X (i + 1) = ((X i).1, tr h 15 (X i).2.1, (X i).2.2 ++ [(X i).2.1]) := by
          rw [step ne]
          unfold cstep
          rw [if_neg ne, if_pos (by omega)]
        subst e7
        refine ⟨by omega, fun h9 e9 => ⟨by omega, ?_⟩⟩
        have F9 : Fr [44, 45] h h9 := by rw [e9]; exact F.up (by decide)
        have k38 : h9 38 (X i).2.1 = tr h 15 (X i).2.1 := by rw [F9 38 (by decide)]; exact (mt _ c2).2
        refine ⟨pb h9 _ c2 F9, fun r12 _ q12 => ?_⟩
        rw [k38] at q12
        have er := between_up G m c2 q1 q2 q3 (F9 31 (by decide)) (F9 32 (by decide)) (F9 34 (by decide)) (F9 35 (by decide)) q12
        refine ⟨by omega, fun h14 e14 => ⟨fun d4 z4 e4 => ⟨fun d5 => ⟨by omega, fun z1 e1 => ⟨by unfold InR; omega, fun z2 e2 => ⟨30 - (i + 1), by omega, i + 1, by omega, ?_, ?_, by omega, fun v hv => ?_, fun k k1 k2 => ?_, rfl⟩⟩⟩, fun d5 => absurd d3 d5⟩, fun d4 => absurd d3 d4⟩⟩
        · rw [sx]; exact e4
        · rw [sx, e1, e14, hup_k (by decide), e9, hup_k (by decide), F 38 (by decide)]
          exact (mt _ c2).2
        · rw [sx]
          show h14 44 v = if v ∈ (X i).2.2 ++ [(X i).2.1] then 1 else 0
          refine mark_add (f := g 44) (i2 v hv) (fun z => ?_) (fun z => ?_)
          · rw [e14, hup_k (by decide), e9, z, hup_s]
          · rw [e14, hup_k (by decide), e9, hup_o (fun q => z q.2)]
        · rw [sx]
          show h14 45 k = if k ∈ e :: ((X i).2.2 ++ [(X i).2.1]).map (tr h 16) then 1 else 0
          rw [List.map_append, ← List.cons_append]
          refine mark_add (f := g 45) (w := tr h 16 (X i).2.1) (i3 k k1 k2) (fun z => ?_) (fun z => ?_)
          · rw [e14, er, z, q4, hup_s]
          · rw [e14, hup_o (fun q => z (by rw [q.2, er, q4])), e9, hup_k (by decide)]
      · refine fun z17 e17 => ⟨fun d3 => by omega, fun d3 z7 e7 => ?_⟩
        have ne := d
        obtain ⟨n1, n2, n3, n4, s, q1, q2, q3, q4⟩ := not_root G c1 c2 c3 d (by omega)
        have ls := Sd_lt G q1
        have len := (CI_step G c ne).2
        rw [← step ne] at len
        have sx : X (i + 1) = (tr h 15 (X i).1, (X i).2.1, (X i).2.2 ++ [(X i).1]) := by
          rw [step ne]
          unfold cstep
          rw [if_neg ne, if_neg (by omega)]
        subst e7
        refine ⟨by omega, fun h9 e9 => ⟨by omega, ?_⟩⟩
        have F9 : Fr [44, 45] h h9 := by rw [e9]; exact F.up (by decide)
        have k38 : h9 38 (X i).1 = tr h 15 (X i).1 := by rw [F9 38 (by decide)]; exact (mt _ c1).2
        refine ⟨pb h9 _ c1 F9, fun r12 _ q12 => ?_⟩
        rw [k38] at q12
        have er := between_up G m c1 q1 q2 q3 (F9 31 (by decide)) (F9 32 (by decide)) (F9 34 (by decide)) (F9 35 (by decide)) q12
        refine ⟨by omega, fun h14 e14 => ⟨fun d4 => absurd d4 d3, fun d4 => ⟨by omega, fun z4 e4 => ⟨fun d5 => absurd d5 d3, fun d5 z1 e1 => ⟨by unfold InR; omega, fun z2 e2 => ⟨30 - (i + 1), by omega, i + 1, by omega, ?_, ?_, by omega, fun v hv => ?_, fun k k1 k2 => ?_, rfl⟩⟩⟩⟩⟩⟩
        · rw [sx, e4, e14, hup_k (by decide), e9, hup_k (by decide), F 38 (by decide)]
          exact (mt _ c1).2
        · rw [sx]; exact e1
        · rw [sx]
          show h14 44 v = if v ∈ (X i).2.2 ++ [(X i).1] then 1 else 0
          refine mark_add (f := g 44) (i2 v hv) (fun z => ?_) (fun z => ?_)
          · rw [e14, hup_k (by decide), e9, z, hup_s]
          · rw [e14, hup_k (by decide), e9, hup_o (fun q => z q.2)]
        · rw [sx]
          show h14 45 k = if k ∈ e :: ((X i).2.2 ++ [(X i).1]).map (tr h 16) then 1 else 0
          rw [List.map_append, ← List.cons_append]
          refine mark_add (f := g 45) (w := tr h 16 (X i).1) (i3 k k1 k2) (fun z => ?_) (fun z => ?_)
          · rw [e14, er, z, q4, hup_s]
          · rw [e14, hup_o (fun q => z (by rw [q.2, er, q4])), e9, hup_k (by decide)]
  · unfold V_X6_findCycle
    exact fun z ez => ⟨30, rfl, 0, ez, by omega, fun w w1 w2 => by omega, rfl⟩
-- cycle
def q_mcycle (e : Int) (h : Hp) (r : Int) (h' : Hp) : Prop := Keep h h' ∧ ((¬ eOK h e ∧ h' 30 0 = 1) ∨ (eOK h e ∧ h' 30 0 = 0 ∧ ((inT h e ∧ r = 0) ∨ (¬ inT h e ∧ r = (cyV h e).length))))
theorem eOK_cong {h h' : Hp} {e : Int} (e1 : h' 1 = h 1) (e9 : h' 9 = h 9) : eOK h' e ↔ eOK h e := by
  unfold eOK
  rw [e1, e9]
theorem inT_cong {h h' : Hp} {e : Int} (x : ∀ k, k < 30 → h' k = h k) : inT h' e ↔ inT h e := by
  unfold inT
  rw [tr_cong x, x 6 (by decide)]
theorem cyV_cong {h h' : Hp} {e : Int} (x : ∀ k, k < 30 → h' k = h k) : cyV h' e = cyV h e ∧ cyE h' e = cyE h e := by
  unfold cyV cyE cyF
  rw [tr_cong x, x 6 (by decide)]
  exact ⟨rfl, rfl⟩
theorem ct_mcycle {l : Launch} (e : Int) (h : Hp) (hb : Sy h) : Ct l yX6_cycle cX6_cycle 2 (some .int) 3 71 0 [vr 30, vi e] h [30, 38, 39, 40, 44, 45] (fun r h1 => q_mcycle e h r h1) (fun _ => False) := by
  obtain ⟨R, G, m⟩ := id hb
  have g1 := G.1
  have g2 := G.2.1
  have m2 : h 30 2 = h 1 7 := m.2.1
  refine w_X6_cycle _ p_isEdge q_isEdge p_findTree q_findTree p_isTree q_isTree p_findCycle q_findCycle h e ct_isEdge ct_findTree ct_isTree ct_findCycle (fun _ _ => ?_)
  unfold V_X6_cycle V_X6_cycle_14 V_X6_cycle_47
  refine ⟨by unfold p_isEdge; omega, fun r12 _ q12 => ⟨fun c h1 e1 => ?_, fun c h1 e1 => ?_⟩⟩
  · have k : h1 30 0 = 1 := by rw [e1, hup_s]
    rw [k]
    refine ⟨fun z => absurd z (by decide), fun _ => ⟨Keep.code e1, Or.inl ⟨fun z => ?_, k⟩⟩⟩
    rcases q12 with ⟨y, -⟩ | ⟨-, y⟩
    · omega
    · exact y ((mr_E G m).mpr z)
  · have he : eOK h e := by
      rcases q12 with ⟨-, y⟩ | ⟨y, -⟩
      · exact (mr_E G m).mp y
      · exact absurd y c
    have k : h1 30 0 = 0 := by rw [e1, hup_s]
    have k1 : Keep h h1 := Keep.code e1
    have f1 : Fr [30, 38, 39, 40] h h1 := by rw [e1]; exact Fr.rf.up (by decide)
    have S1 : Sy h1 := Sy_keep hb f1 (by decide) k1
    rw [k]
    refine ⟨fun _ => ⟨S1, fun h4 f4 _ q4 => ?_⟩, fun z => absurd (Int.le_refl 0) z⟩
    have f4' : Fr [30, 38, 39, 40] h h4 := f1.trans f4 (fun _ z => z)
    have x4 : ∀ k, k < 30 → h4 k = h k := lt30 f4' (by decide)
    have x1 : ∀ k, k < 30 → h1 k = h k := lt30 f1 (by decide)
    have k4 : Keep h h4 := k1.trans (Keep.ft q4.2)
    have S4 : Sy h4 := Sy_keep hb f4' (by decide) k4
    have mt : MT h4 := by
      have t := q4.1
      rw [tr_cong x1] at t
      exact MT_of G t x4
    have he4 : eOK h4 e := (eOK_cong (x4 1 (by decide)) (x4 9 (by decide))).mpr he
    have k0 : h4 30 0 = 0 := by rw [q4.2 0 (by decide)]; exact k
    refine ⟨⟨S4, mt, he4⟩, fun r6 _ q6 => ⟨fun c1 => ⟨⟨S4, mt, he4⟩, fun r9 h10 f10 _ _ q10 => ⟨fun j a b c d => by rw [f10 30 (by decide)]; exact k4 j a b c d, Or.inr ⟨he, by rw [f10 30 (by decide)]; exact k0, Or.inr ⟨?_, ?_⟩⟩⟩⟩, fun c1 => ⟨k4, Or.inr ⟨he, k0, Or.inl ⟨?_, rfl⟩⟩⟩⟩⟩
    · rcases q6 with ⟨y, -⟩ | ⟨-, y⟩
      · omega
      · exact fun z => y ((inT_cong x4).mpr z)
    · rw [q10.2.2, (cyV_cong x4).1]
    · rcases q6 with ⟨-, y⟩ | ⟨y, -⟩
      · exact (inT_cong x4).mp y
      · exact absurd y c1

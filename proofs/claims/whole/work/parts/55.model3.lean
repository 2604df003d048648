/-! The reference: the calls that only look things up; vertex, clear, remove -/
theorem ct_thrown {l : Launch} (h : Hp) : Ct l yX6_thrown cX6_thrown 1 (some .int) 0 0 0 [vr 30] h [] (fun r _ => r = h 30 0) (fun _ => False) := by
  refine w_X6_thrown _ h (fun _ => ?_)
  unfold V_X6_thrown
  rfl
/-- a call's end: a code, and an answer where it is 0 -/
def Look (C : Prop) (h : Hp) (val r : Int) (h' : Hp) : Prop := (C ∧ h' = hup h 30 0 0 ∧ r = val) ∨ (¬ C ∧ h' = hup h 30 0 1)
def p_v30 (h : Hp) : Prop := h 30 1 ≤ 30
theorem ct_mdegree {l : Launch} (v : Int) (h : Hp) (hb : p_v30 h) : Ct l yX6_degree cX6_degree 2 (some .int) 1 21 0 [vr 30, vi v] h [30] (fun r h1 => Look (isV h v) h (h 35 v) r h1) (fun _ => False) := by
  unfold p_v30 at hb
  refine w_X6_degree _ (fun _ _ => True) q_isVertex h v (fun v g _ => ct_isVertex v g) (fun _ _ => ?_)
  unfold V_X6_degree V_X6_degree_14 V_X6_degree_34
  refine ⟨trivial, fun r _ q => ⟨fun c h1 e1 => ?_, fun c h1 e1 => ?_⟩⟩
  · have k : h1 30 0 = 1 := by rw [e1, hup_s]
    rw [k]
    refine ⟨fun z => by omega, fun _ => Or.inr ⟨?_, e1⟩⟩
    rcases q with ⟨y, -⟩ | ⟨-, y⟩
    · omega
    · exact y
  · have k : h1 30 0 = 0 := by rw [e1, hup_s]
    have hv : isV h v := by
      rcases q with ⟨-, y⟩ | ⟨y, -⟩
      · exact y
      · exact absurd y c
    have hv2 := hv.2
    have hv1 := hv.1
    rw [k]
    exact ⟨fun _ => ⟨by omega, Or.inl ⟨hv, e1, by rw [e1, hup_k (by decide)]⟩⟩, fun z => absurd (Int.le_refl 0) z⟩
theorem ct_mcolourOf {l : Launch} (v : Int) (h : Hp) (hb : p_v30 h) : Ct l yX6_colourOf cX6_colourOf 2 (some .int) 1 21 0 [vr 30, vi v] h [30] (fun r h1 => Look (isV h v) h (h 36 v) r h1) (fun _ => False) := by
  unfold p_v30 at hb
  refine w_X6_colourOf _ (fun _ _ => True) q_isVertex h v (fun v g _ => ct_isVertex v g) (fun _ _ => ?_)
  unfold V_X6_colourOf V_X6_colourOf_14 V_X6_colourOf_34
  refine ⟨trivial, fun r _ q => ⟨fun c h1 e1 => ?_, fun c h1 e1 => ?_⟩⟩
  · have k : h1 30 0 = 1 := by rw [e1, hup_s]
    rw [k]
    refine ⟨fun z => by omega, fun _ => Or.inr ⟨?_, e1⟩⟩
    rcases q with ⟨y, -⟩ | ⟨-, y⟩
    · omega
    · exact y
  · have k : h1 30 0 = 0 := by rw [e1, hup_s]
    have hv : isV h v := by
      rcases q with ⟨-, y⟩ | ⟨y, -⟩
      · exact y
      · exact absurd y c
    have hv2 := hv.2
    have hv1 := hv.1
    rw [k]
    exact ⟨fun _ => ⟨by omega, Or.inl ⟨hv, e1, by rw [e1, hup_k (by decide)]⟩⟩, fun z => absurd (Int.le_refl 0) z⟩
def p_mround (h : Hp) : Prop := h 30 1 ≤ 30 ∧ ∀ v, isV h v → h 35 v ≤ 30
theorem ct_mround {l : Launch} (v k : Int) (h : Hp) (hb : p_mround h) : Ct l yX6_round cX6_round 3 (some .int) 1 21 0 [vr 30, vi v, vi k] h [30] (fun r h1 => Look (isV h v ∧ 0 ≤ k ∧ k < h 35 v) h (h 34 (30 * v + k)) r h1) (fun _ => False) := by
  obtain ⟨b1, b2⟩ := hb
  refine w_X6_round _ (fun _ _ => True) q_isVertex h v k (fun v g _ => ct_isVertex v g) (fun _ _ _ => ?_)
  have l27 : ¬ (isV h v ∧ 0 ≤ k ∧ k < h 35 v) → V_X6_round_27 (fun r h1 => Look (isV h v ∧ 0 ≤ k ∧ k < h 35 v) h (h 34 (30 * v + k)) r h1) (fun _ _ => True) q_isVertex h v k := by
    intro hn
    unfold V_X6_round_27 V_X6_round_28 V_X6_round_53
    intro h1 e1
    have k0 : h1 30 0 = 1 := by rw [e1, hup_s]
    rw [k0]
    exact ⟨fun z => by omega, fun _ => Or.inr ⟨hn, e1⟩⟩
  unfold V_X6_round
  refine ⟨trivial, fun r _ q => ⟨fun c => l27 ?_, fun c => ⟨fun c1 => l27 (fun z => by omega), fun c1 => ?_⟩⟩⟩
  · rcases q with ⟨y, -⟩ | ⟨-, y⟩
    · omega
    · exact fun z => y z.1
  · have hv : isV h v := by
      rcases q with ⟨-, y⟩ | ⟨y, -⟩
      · exact y
      · exact absurd y c
    have hv2 := hv.2
    have hv1 := hv.1
    have hd := b2 v hv
    refine ⟨by omega, fun c2 => l27 (fun z => by omega), fun c2 => ?_⟩
    unfold V_X6_round_28 V_X6_round_53 InR
    intro h1 e1
    have k0 : h1 30 0 = 0 := by rw [e1, hup_s]
    rw [k0]
    exact ⟨fun _ => ⟨by omega, by omega, by omega, Or.inl ⟨⟨hv, by omega, by omega⟩, e1, by rw [e1, hup_k (by decide)]⟩⟩, fun z => absurd (Int.le_refl 0) z⟩
theorem ct_mend {l : Launch} (e s : Int) (h : Hp) (hb : p_isEdge e h) : Ct l yX6_end cX6_end 3 (some .int) 1 21 0 [vr 30, vi e, vi s] h [30] (fun r h1 => Look (isE h e) h (if s = 0 then h 31 e else h 32 e) r h1) (fun _ => False) := by
  have hb2 : h 30 2 ≤ 100 := hb
  refine w_X6_end _ p_isEdge q_isEdge h e s ct_isEdge (fun _ _ _ => ?_)
  unfold V_X6_end V_X6_end_14 V_X6_end_47
  refine ⟨hb, fun r _ q => ⟨fun c h1 e1 => ?_, fun c h1 e1 => ?_⟩⟩
  · have k : h1 30 0 = 1 := by rw [e1, hup_s]
    rw [k]
    refine ⟨fun z => by omega, fun _ => Or.inr ⟨?_, e1⟩⟩
    rcases q with ⟨y, -⟩ | ⟨-, y⟩
    · omega
    · exact y
  · have k : h1 30 0 = 0 := by rw [e1, hup_s]
    have he : isE h e := by
      rcases q with ⟨-, y⟩ | ⟨y, -⟩
      · exact y
      · exact absurd y c
    have he1 := he.1
    rw [k]
    refine ⟨fun _ => ⟨fun c1 => ⟨by omega, Or.inl ⟨he, e1, ?_⟩⟩, fun c1 => ⟨by omega, Or.inl ⟨he, e1, ?_⟩⟩⟩, fun z => absurd (Int.le_refl 0) z⟩
    · rw [if_pos c1, e1, hup_k (by decide)]
    · rw [if_neg c1, e1, hup_k (by decide)]
theorem ct_mexchanges {l : Launch} (h : Hp) : Ct l yX6_exchanges cX6_exchanges 1 (some .int) 0 0 0 [vr 30] h [30] (fun r h1 => r = h 30 10 ∧ h1 = hup h 30 0 0) (fun _ => False) := by
  refine w_X6_exchanges _ h (fun _ => ?_)
  unfold V_X6_exchanges
  exact fun h1 e1 => ⟨by rw [e1, hup_o (fun z => by have := z.2; omega)], e1⟩
-- clear
def q_mclear (h h' : Hp) : Prop := h' 30 0 = 0 ∧ h' 30 1 = 0 ∧ h' 30 2 = 0 ∧ h' 30 3 = 0 ∧ h' 30 10 = 0
theorem ct_mclear {l : Launch} (h : Hp) : Ct l yX6_clear cX6_clear 1 none 1 21 0 [vr 30] h [30, 36] (fun _ h1 => q_mclear h h1) (fun _ => False) := by
  refine w_X6_clear _ (fun _ => True) q_mforget h (fun g _ => ct_mforget g) (fun _ => ?_)
  unfold V_X6_clear
  intro h1 e1 h2 e2 h3 e3 h4 e4 h5 e5
  refine ⟨trivial, fun h7 _ _ q => ?_⟩
  subst e1; subst e2; subst e3; subst e4; subst e5
  refine ⟨?_, ?_, ?_, ?_, q.2.1⟩
  · rw [q.2.2 0 (by decide)]; unfold hup; simp
  · rw [q.2.2 1 (by decide)]; unfold hup; simp
  · rw [q.2.2 2 (by decide)]; unfold hup; simp
  · rw [q.2.2 3 (by decide)]; unfold hup; simp
-- vertex
def vtxH (g : Hp) : Hp := hup (hup (hup g 10 (g 1 6) (-1)) 11 (g 1 6) 0) 1 6 (g 1 6 + 1)
theorem GI_vtx {g : Hp} {R : Int → Nat → Int} (G : GI g R) (hn : g 1 6 < 30) : GI (vtxH g) R := by
  obtain ⟨g1, g2, g3, g4, g5, g6, g7⟩ := id G
  have e1 : vtxH g 1 6 = g 1 6 + 1 := by unfold vtxH; rw [hup_s]
  have e17 : vtxH g 1 7 = g 1 7 := by unfold vtxH hup; simp
  have e18 : vtxH g 1 8 = g 1 8 := by unfold vtxH hup; simp
  have k : ∀ a, a ≠ 1 → a ≠ 10 → a ≠ 11 → vtxH g a = g a := fun a h1 h2 h3 => by unfold vtxH; rw [hup_k h1, hup_k h3, hup_k h2]
  have k6 := k 6 (by decide) (by decide) (by decide)
  have k7 := k 7 (by decide) (by decide) (by decide)
  have k8 := k 8 (by decide) (by decide) (by decide)
  have k9 := k 9 (by decide) (by decide) (by decide)
  have hS : ∀ s, Sd (vtxH g) s ↔ Sd g s := fun s => by unfold Sd; rw [e17, k9]
  refine ⟨by rw [e1]; omega, by rw [e17]; exact g2, by rw [e17, k9]; exact g3, ?_, ?_, ?_, ?_⟩
  · intro s hs
    rw [k6, e1]
    have := g4 s ((hS s).mp hs)
    exact ⟨by omega, this.2⟩
  · intro s t hs ht
    rw [k6]
    exact g5 s t ((hS s).mp hs) ((hS t).mp ht)
  · intro v h1 h2
    rw [e1] at h2
    rw [k6, k7, k8]
    by_cases w : v = g 1 6
    · have e11 : vtxH g 11 v = 0 := by unfold vtxH; rw [hup_k (by decide), w, hup_s]
      rw [e11]
      refine Rg.none (fun s hs hv => ?_)
      have := (g4 s ((hS s).mp hs)).1
      omega
    · have e11 : vtxH g 11 v = g 11 v := by unfold vtxH; rw [hup_k (by decide), hup_o (fun z => w z.2), hup_k (by decide)]
      have e10 : vtxH g 10 v = g 10 v := by unfold vtxH; rw [hup_k (by decide), hup_k (by decide), hup_o (fun z => w z.2)]
      rw [e11, e10]
      exact (g6 v h1 (by omega)).same (fun s => by rw [hS]) (fun _ _ _ => rfl) (fun _ _ _ => rfl)
  · rw [e18, e17, k9]; exact g7
def p_mvertex (h : Hp) : Prop := 0 ≤ h 30 1 ∧ h 30 1 ≤ 30
def q_mvertex (h : Hp) (r : Int) (h' : Hp) : Prop := (h 30 1 < 30 ∧ r = h 30 1 ∧ h' = hup (hup (hup (hup h 30 0 0) 35 (h 30 1) 0) 36 (h 30 1) 0) 30 1 (h 30 1 + 1)) ∨ (h 30 1 = 30 ∧ h' = hup h 30 0 1)
theorem ct_mvertex {l : Launch} (h : Hp) (hb : p_mvertex h) : Ct l yX6_vertex cX6_vertex 1 (some .int) 0 0 0 [vr 30] h [30, 35, 36] (fun r h1 => q_mvertex h r h1) (fun _ => False) := by
  unfold p_mvertex at hb
  refine w_X6_vertex _ h (fun _ => ?_)
  unfold V_X6_vertex V_X6_vertex_15
  refine ⟨fun c h1 e1 => ?_, fun c h1 e1 => ?_⟩
  · have k0 : h1 30 0 = 0 := by rw [e1, hup_s]
    have k1 : h1 30 1 = h 30 1 := by rw [e1, hup_o (fun z => by have := z.2; omega)]
    rw [k0, k1]
    refine ⟨fun _ => ⟨by omega, fun h4 e4 => ?_⟩, fun z => absurd (Int.le_refl 0) z⟩
    have k4 : h4 30 1 = h 30 1 := by rw [e4, hup_k (by decide), k1]
    rw [k4]
    refine ⟨by omega, fun h6 e6 => ?_⟩
    have k6 : h6 30 1 = h 30 1 := by rw [e6, hup_k (by decide), k4]
    rw [k6]
    refine ⟨by unfold InR; omega, fun h8 e8 => ?_⟩
    have k8 : h8 30 1 = h 30 1 + 1 := by rw [e8, hup_s]
    rw [k8]
    exact ⟨by unfold InR; omega, Or.inl ⟨by omega, by omega, by rw [e8, e6, e4, e1]⟩⟩
  · have k0 : h1 30 0 = 1 := by rw [e1, hup_s]
    rw [k0]
    exact ⟨fun z => by omega, fun _ => Or.inr ⟨c, e1⟩⟩
theorem MR_vtx {h g : Hp} {R : Int → Nat → Int} (G : GI g R) (m : MR h g R) (hn : g 1 6 < 30) : MR (hup (hup (hup (hup h 30 0 0) 35 (h 30 1) 0) 36 (h 30 1) 0) 30 1 (h 30 1 + 1)) (vtxH g) R := by
  obtain ⟨m1, m2, m3, m4, m5⟩ := m
  have e1 : vtxH g 1 6 = g 1 6 + 1 := by unfold vtxH; rw [hup_s]
  have e17 : vtxH g 1 7 = g 1 7 := by unfold vtxH hup; simp
  have e18 : vtxH g 1 8 = g 1 8 := by unfold vtxH hup; simp
  have k : ∀ a, a ≠ 1 → a ≠ 10 → a ≠ 11 → vtxH g a = g a := fun a h1 h2 h3 => by unfold vtxH; rw [hup_k h1, hup_k h3, hup_k h2]
  have k6 := k 6 (by decide) (by decide) (by decide)
  have k9 := k 9 (by decide) (by decide) (by decide)
  refine ⟨by rw [hup_s, e1, m1], ?_, ?_, ?_, ?_⟩
  · rw [hup_o (fun z => by have := z.2; omega), hup_k (by decide), hup_k (by decide), hup_o (fun z => by have := z.2; omega), e17, m2]
  · rw [hup_o (fun z => by have := z.2; omega), hup_k (by decide), hup_k (by decide), hup_o (fun z => by have := z.2; omega), e18, m3]
  · intro e h1 h2
    rw [e17] at h2
    rw [k6, k9, hup_k (by decide), hup_k (by decide), hup_k (by decide), hup_k (by decide), hup_k (by decide), hup_k (by decide), hup_k (by decide), hup_k (by decide), hup_k (by decide), hup_k (by decide), hup_k (by decide), hup_k (by decide)]
    exact m4 e h1 h2
  · intro v h1 h2
    rw [e1] at h2
    have r34 : ∀ j, row (hup (hup (hup (hup h 30 0 0) 35 (h 30 1) 0) 36 (h 30 1) 0) 30 1 (h 30 1 + 1)) v j = row h v j := fun j => by unfold row; rw [hup_k (by decide), hup_k (by decide), hup_k (by decide), hup_k (by decide)]
    rw [hup_k (by decide), hup_k (by decide)]
    by_cases w : v = g 1 6
    · have e11 : vtxH g 11 v = 0 := by unfold vtxH; rw [hup_k (by decide), w, hup_s]
      rw [e11]
      exact ⟨by rw [m1, w, hup_s], fun k hk => by omega⟩
    · have e11 : vtxH g 11 v = g 11 v := by unfold vtxH; rw [hup_k (by decide), hup_o (fun z => w z.2), hup_k (by decide)]
      rw [e11, m1, hup_o (fun z => w z.2), hup_k (by decide)]
      have := m5 v h1 (by omega)
      rw [m1] at r34
      exact ⟨this.1, fun k hk => by rw [r34]; exact this.2 k hk⟩

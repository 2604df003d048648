/-! Class and reference, call by call: what holds between calls, and that both answer alike -/
def ALL (h : Hp) : Prop := Sy h ∧ FOK h h ∧ TS h ∧ CR (nc h 20) ∧ (0 ≤ h 4 8 ∧ h 4 8 ≤ 30) ∧ nc h 36 = nc h 20 ∧ h 30 10 = h 4 8
theorem ALL.cs {h : Hp} (a : ALL h) : CS h := by
  obtain ⟨⟨R, G, m⟩, a2, a3, a4, a5, -, -⟩ := a
  exact ⟨⟨R, G⟩, a2, a3, a4, a5⟩
/-- cells that calls may use as scratch -/
def scr : List Nat := [5, 21, 22, 23, 24, 25, 26, 27, 28, 29, 30, 37, 38, 39, 40, 41, 42, 43, 44, 45, 46, 47]
theorem ALL_look {h h' : Hp} (a : ALL h) (f : Fr scr h h') (k : Keep h h') : ALL h' := by
  obtain ⟨a1, a2, a3, a4, a5, a6, a7⟩ := a
  obtain ⟨R, G, m⟩ := id a1
  have gs : Gs h h' := Gs.of f (by decide)
  have e20 : nc h' 20 = nc h 20 := nc_cong (f 20 (by decide)) (f 1 (by decide))
  have e36 : nc h' 36 = nc h 36 := nc_cong (f 36 (by decide)) (f 1 (by decide))
  refine ⟨Sy_keep a1 f (by decide) k, FOK_gs gs a2 (f 2 (by decide)) (f 12 (by decide)) (f 13 (by decide)) (f 14 (by decide)), TS_gs G gs a3 (fun q hq => f q ?_), by rw [e20]; exact a4, by rw [f 4 (by decide)]; exact a5, by rw [e20, e36]; exact a6, ?_⟩
  · simp only [List.mem_cons, List.not_mem_nil, or_false] at hq
    rcases hq with rfl | rfl | rfl | rfl | rfl <;> decide
  · rw [k 10 (by decide) (by decide) (by decide) (by decide), f 4 (by decide)]
    exact a7
theorem Fr.mon {M M' : List Nat} {h h' : Hp} (f : Fr M h h') (hs : ∀ k ∈ M, k ∈ M') : Fr M' h h' := fun k hk => f k (fun z => hk (hs k z))
theorem Keep.fr {M : List Nat} {h h' : Hp} (f : Fr M h h') (hM : 30 ∉ M) : Keep h h' := fun j _ _ _ _ => by rw [f 30 hM]
/-- a look-up that the class answers out of h, the reference out of h' -/
theorem ALL_two {M M' : List Nat} {h h' h2 : Hp} (a : ALL h) (f : Fr M h h') (hM : ∀ k ∈ M, k ∈ scr ∧ k ≠ 30) (f2 : Fr M' h' h2) (hM' : ∀ k ∈ M', k ∈ scr) (k : Keep h' h2) : ALL h' ∧ ALL h2 := by
  have k1 : Keep h h' := Keep.fr f (fun z => (hM 30 z).2 rfl)
  have a1 := ALL_look a (f.mon (fun q hq => (hM q hq).1)) k1
  exact ⟨a1, ALL_look a1 (f2.mon hM') k⟩
theorem all_h' {M : List Nat} {h h' : Hp} (a : ALL h) (f : Fr M h h') (hM : ∀ k ∈ M, k ∈ scr ∧ k ≠ 30) : ALL h' := ALL_look a (f.mon (fun q hq => (hM q hq).1)) (Keep.fr f (fun z => (hM 30 z).2 rfl))
theorem gs_sc {M : List Nat} {h h' : Hp} (f : Fr M h h') (hM : ∀ k ∈ M, k ∈ scr) : Gs h h' := Gs.of (f.mon hM) (by decide)
theorem look_k {C : Prop} {h h2 : Hp} {val r : Int} (q : Look C h val r h2) : Keep h h2 ∧ ((C ∧ h2 30 0 = 0 ∧ r = val) ∨ (¬ C ∧ h2 30 0 = 1)) := by
  rcases q with ⟨q1, q2, q3⟩ | ⟨q1, q2⟩
  · exact ⟨Keep.code q2, Or.inl ⟨q1, by rw [q2, hup_s], q3⟩⟩
  · exact ⟨Keep.code q2, Or.inr ⟨q1, by rw [q2, hup_s]⟩⟩
/-- what a call of the reference must give behind a call of the class that answered k, r -/
def Same (h' : Hp) (M : List Nat) (post : Int → Hp → Prop) (k r : Int) : Prop := ∀ b h2, Fr M h' h2 → post b h2 → h2 30 0 = k ∧ (k = 0 → b = r) ∧ ALL h2
-- degree
theorem st_degree {h h' : Hp} {v k r : Int} (a : ALL h) (f : Fr [47] h h') (c : (k = 0 ∧ vOK h v ∧ r = h 11 v) ∨ (k = 1 ∧ ¬ vOK h v)) : p_v30 h' ∧ Same h' [30] (fun b h2 => Look (isV h' v) h' (h' 35 v) b h2) k r := by
  obtain ⟨R, G, m⟩ := id a.1
  have g1 := G.1
  have m1 : h 30 1 = h 1 6 := m.1
  have e30 : h' 30 = h 30 := f 30 (by decide)
  refine ⟨by unfold p_v30; rw [e30, m1]; exact g1.2, fun b h2 f2 q => ?_⟩
  obtain ⟨q0, q⟩ := look_k q
  have A := (ALL_two a f (by decide) f2 (by decide) q0).2
  have iv : isV h' v ↔ vOK h v := by unfold isV vOK; rw [e30, m1]
  rcases c with ⟨rfl, c1, c2⟩ | ⟨rfl, c1⟩
  · rcases q with ⟨q1, q2, q3⟩ | ⟨q1, -⟩
    · refine ⟨q2, fun _ => ?_, A⟩
      rw [q3, c2, f 35 (by decide), (mr_deg G m c1).1]
    · exact absurd (iv.mpr c1) q1
  · rcases q with ⟨q1, -⟩ | ⟨-, q2⟩
    · exact absurd (iv.mp q1) c1
    · exact ⟨q2, fun z => by omega, A⟩
theorem st_colourOf {h h' : Hp} {v k r : Int} (a : ALL h) (f : Fr [47] h h') (c : (k = 0 ∧ vOK h v ∧ r = nc h 20 v) ∨ (k = 1 ∧ ¬ vOK h v)) : p_v30 h' ∧ Same h' [30] (fun b h2 => Look (isV h' v) h' (h' 36 v) b h2) k r := by
  obtain ⟨R, G, m⟩ := id a.1
  have g1 := G.1
  have m1 : h 30 1 = h 1 6 := m.1
  have e30 : h' 30 = h 30 := f 30 (by decide)
  refine ⟨by unfold p_v30; rw [e30, m1]; exact g1.2, fun b h2 f2 q => ?_⟩
  obtain ⟨q0, q⟩ := look_k q
  have A := (ALL_two a f (by decide) f2 (by decide) q0).2
  have iv : isV h' v ↔ vOK h v := by unfold isV vOK; rw [e30, m1]
  rcases c with ⟨rfl, c1, c2⟩ | ⟨rfl, c1⟩
  · rcases q with ⟨q1, q2, q3⟩ | ⟨q1, -⟩
    · refine ⟨q2, fun _ => ?_, A⟩
      have e := congrFun a.2.2.2.2.2.1 v
      rw [q3, c2, f 36 (by decide), ← e, nc_v c1]
    · exact absurd (iv.mpr c1) q1
  · rcases q with ⟨q1, -⟩ | ⟨-, q2⟩
    · exact absurd (iv.mp q1) c1
    · exact ⟨q2, fun z => by omega, A⟩
-- round
theorem st_round {h h' : Hp} {v p k r : Int} (a : ALL h) (f : Fr [47] h h') (c : (k = 0 ∧ rnd h v p ∧ r = sk h v p.toNat / 2) ∨ (k = 1 ∧ ¬ rnd h v p)) : p_mround h' ∧ Same h' [30] (fun b h2 => Look (isV h' v ∧ 0 ≤ p ∧ p < h' 35 v) h' (h' 34 (30 * v + p)) b h2) k r := by
  obtain ⟨R, G, m⟩ := id a.1
  have g1 := G.1
  have m1 : h 30 1 = h 1 6 := m.1
  have e30 : h' 30 = h 30 := f 30 (by decide)
  have iv : ∀ v, isV h' v ↔ vOK h v := fun v => by unfold isV vOK; rw [e30, m1]
  have i2 : (isV h' v ∧ 0 ≤ p ∧ p < h' 35 v) ↔ rnd h v p := by
    unfold rnd
    rw [iv, f 35 (by decide)]
    exact and_congr_right (fun hv => by rw [(mr_deg G m hv).1])
  refine ⟨⟨by rw [e30, m1]; exact g1.2, fun v hv => ?_⟩, fun b h2 f2 q => ?_⟩
  · have md := mr_deg G m ((iv v).mp hv)
    rw [f 35 (by decide), md.1]
    omega
  obtain ⟨q0, q⟩ := look_k q
  have A := (ALL_two a f (by decide) f2 (by decide) q0).2
  rcases c with ⟨rfl, c1, c2⟩ | ⟨rfl, c1⟩
  · rcases q with ⟨q1, q2, q3⟩ | ⟨q1, -⟩
    · refine ⟨q2, fun _ => ?_, A⟩
      obtain ⟨hv, p0, p1⟩ := c1
      have rr := (m.2.2.2.2 v hv.1 hv.2).2 p.toNat (by omega)
      unfold row at rr
      rw [q3, c2, f 34 (by decide), sk_R G hv p.toNat (by omega), ← rr, show ((p.toNat : Nat) : Int) = p by omega]
    · exact absurd (i2.mpr c1) q1
  · rcases q with ⟨q1, -⟩ | ⟨-, q2⟩
    · exact absurd (i2.mp q1) c1
    · exact ⟨q2, fun z => by omega, A⟩
-- end
theorem st_end {h h' : Hp} {e s k r : Int} (a : ALL h) (f : Fr [47] h h') (c : (k = 0 ∧ eOK h e ∧ r = h 6 (if s = 0 then 2 * e else 2 * e + 1)) ∨ (k = 1 ∧ ¬ eOK h e)) : p_isEdge e h' ∧ Same h' [30] (fun b h2 => Look (isE h' e) h' (if s = 0 then h' 31 e else h' 32 e) b h2) k r := by
  obtain ⟨R, G, m⟩ := id a.1
  have g2 := G.2.1
  have m2 : h 30 2 = h 1 7 := m.2.1
  have e30 : h' 30 = h 30 := f 30 (by decide)
  have ie : isE h' e ↔ eOK h e := by
    rw [← mr_E G m]
    unfold isE
    rw [e30, f 33 (by decide)]
  refine ⟨by unfold p_isEdge; rw [e30, m2]; omega, fun b h2 f2 q => ?_⟩
  obtain ⟨q0, q⟩ := look_k q
  have A := (ALL_two a f (by decide) f2 (by decide) q0).2
  rcases c with ⟨rfl, c1, c2⟩ | ⟨rfl, c1⟩
  · rcases q with ⟨q1, q2, q3⟩ | ⟨q1, -⟩
    · refine ⟨q2, fun _ => ?_, A⟩
      obtain ⟨x1, x2, -⟩ := m.2.2.2.1 e c1.1.1 c1.1.2
      rw [q3, c2, f 31 (by decide), f 32 (by decide), x1, x2]
      by_cases z : s = 0
      · rw [if_pos z, if_pos z]
      · rw [if_neg z, if_neg z]
    · exact absurd (ie.mpr c1) q1
  · rcases q with ⟨q1, -⟩ | ⟨-, q2⟩
    · exact absurd (ie.mp q1) c1
    · exact ⟨q2, fun z => by omega, A⟩
/-- calls that throw nothing: the reference right behind the class -/
def Same0 (h' : Hp) (M : List Nat) (post : Int → Hp → Prop) (r : Int) : Prop := ∀ b h2, Fr M h' h2 → post b h2 → b = r ∧ ALL h2
theorem st_faces {h : Hp} {r : Int} (a : ALL h) (c : r = nF h) : Sy h ∧ Same0 h [30, 37] (fun b h2 => q_mfaces h b h2) r := by
  refine ⟨a.1, fun b h2 f2 q => ⟨q.1.trans c.symm, ALL_look a (f2.mon (by decide)) q.2⟩⟩
theorem st_parts {h : Hp} {r : Int} (a : ALL h) (c : r = tr h 3 7) : Sy h ∧ Same0 h [30, 38, 39, 40] (fun b h2 => q_mparts h b h2) r := by
  refine ⟨a.1, fun b h2 f2 q => ⟨q.1.trans c.symm, ALL_look a (f2.mon (by decide)) q.2⟩⟩
theorem st_genus {h : Hp} {r : Int} (a : ALL h) (c : r = gnF h) : Sy h ∧ Same0 h [30, 37, 38, 39, 40] (fun b h2 => q_mgenus h b h2) r := by
  refine ⟨a.1, fun b h2 f2 q => ⟨q.1.trans c.symm, ALL_look a (f2.mon (by decide)) q.2⟩⟩
theorem st_exchanges {h : Hp} {r : Int} (a : ALL h) (c : r = h 4 8) : Same0 h [30] (fun b h2 => b = h 30 10 ∧ h2 = hup h 30 0 0) r := by
  intro b h2 f2 q
  exact ⟨by rw [q.1, c]; exact a.2.2.2.2.2.2, ALL_look a (f2.mon (by decide)) (Keep.code q.2)⟩
theorem st_clashes {h : Hp} {r : Int} (a : ALL h) (c : r = clF h (nc h 20)) : (Sy h ∧ CR (nc h 36)) ∧ Same0 h [30] (fun b h2 => q_mclashes h b h2) r := by
  refine ⟨⟨a.1, by rw [a.2.2.2.2.2.1]; exact a.2.2.2.1⟩, fun b h2 f2 q => ⟨?_, ALL_look a (f2.mon (by decide)) (Keep.code q.2)⟩⟩
  rw [q.1, c, a.2.2.2.2.2.1]
theorem st_told {h : Hp} {w r : Int} (a : ALL h) (c : q_told w h r) : Sy h ∧ Same0 h [30, 37, 38, 39, 40] (fun b h2 => q_mtold w h b h2) r := by
  refine ⟨a.1, fun b h2 f2 q => ⟨?_, ALL_look a (f2.mon (by decide)) q.1⟩⟩
  have e : nc h 36 = nc h 20 := a.2.2.2.2.2.1
  obtain ⟨-, q⟩ := q
  rw [e] at q
  rcases c with ⟨c0, c⟩ | ⟨c0, c⟩ | ⟨c0, c⟩ | ⟨c0, c⟩ | ⟨c0, c⟩ <;> rcases q with ⟨q0, q⟩ | ⟨q0, q⟩ | ⟨q0, q⟩ | ⟨q0, q⟩ | ⟨q0, q1, q2, q3, q⟩ <;> omega
-- sides, from
theorem LdF_gs {h h' : Hp} (g : Gs h h') : LdF h' = LdF h := g.L
theorem st_sides {h h' : Hp} {fa k r : Int} (a : ALL h) (f : Fr [47] h h') (c : (k = 0 ∧ fOK h fa ∧ ∃ t n, LdF h t ∧ cntP (LdF h) t.toNat = fa ∧ Per (ph h) t n ∧ r = (n : Nat)) ∨ (k = 1 ∧ ¬ fOK h fa)) : Sy h' ∧ Same h' [30, 37] (fun b h2 => q_msides fa h' b h2) k r := by
  have A' := all_h' a f (by decide)
  have gs : Gs h h' := gs_sc f (by decide)
  have fo : fOK h' fa ↔ fOK h fa := by unfold fOK; rw [Gs_nF gs]
  refine ⟨A'.1, fun b h2 f2 q => ?_⟩
  obtain ⟨q0, q⟩ := q
  have A := ALL_look A' (f2.mon (by decide)) q0
  rcases c with ⟨rfl, c1, t, n, c2, c3, c4, c5⟩ | ⟨rfl, c1⟩
  · rcases q with ⟨q1, q2, q3⟩ | ⟨q1, -⟩
    · refine ⟨q2, fun _ => ?_, A⟩
      rw [c5]
      exact q3 t n (by rw [gs.L]; exact c2) (by rw [gs.L]; exact c3) (by rw [gs.P]; exact c4)
    · exact absurd (fo.mpr c1) q1
  · rcases q with ⟨q1, -⟩ | ⟨-, q2⟩
    · exact absurd (fo.mp q1) c1
    · exact ⟨q2, fun z => by omega, A⟩
theorem st_from {h h' : Hp} {fa p k r : Int} (a : ALL h) (f : Fr [47] h h') (c : (k = 0 ∧ frOK h fa p r) ∨ (k = 1 ∧ frNo h fa p)) : Sy h' ∧ Same h' [30, 37] (fun b h2 => q_mfrom fa p h' b h2) k r := by
  obtain ⟨R, G, m⟩ := id a.1
  have A' := all_h' a f (by decide)
  have gs : Gs h h' := gs_sc f (by decide)
  have fo : fOK h' fa ↔ fOK h fa := by unfold fOK; rw [Gs_nF gs]
  refine ⟨A'.1, fun b h2 f2 q => ?_⟩
  obtain ⟨q0, q⟩ := q
  rw [gs.L, gs.P, gs.2.1, fo] at q
  have A := ALL_look A' (f2.mon (by decide)) q0
  have uq : ∀ t n t' n', LdF h t → cntP (LdF h) t.toNat = fa → Per (ph h) t n → LdF h t' → cntP (LdF h) t'.toNat = fa → Per (ph h) t' n' → t = t' ∧ n = n' := by
    intro t n t' n' x1 x2 x3 y1 y2 y3
    have e := rank_inj (p := LdF h) (ld_r x1).1 (ld_r y1).1 x1 y1 (x2.trans y2.symm)
    subst e
    exact ⟨rfl, x3.uniq y3⟩
  rcases c with ⟨rfl, c1, c2, t, n, c3, c4, c5, c6, c7⟩ | ⟨rfl, c1⟩
  · rcases q with ⟨q1, q2, q3, q4⟩ | ⟨q1, -⟩
    · refine ⟨q3, fun _ => ?_, A⟩
      rw [c7]
      exact (q4 t n c3 c4 c5).2
    · have := q1 c1 c2 t n c3 c4 c5
      omega
  · rcases q with ⟨q1, q2, q3, q4⟩ | ⟨-, q2⟩
    · obtain ⟨t, n, d1, d2, d3, d4⟩ := c1 q1 q2
      have := (q4 t n d1 d2 d3).1
      omega
    · exact ⟨q2, fun z => by omega, A⟩
-- above
theorem st_above {h h' : Hp} {v k r : Int} (a : ALL h) (f : Fr [47] h h') (c : (k = 0 ∧ vOK h v ∧ r = tr h 15 v) ∨ (k = 1 ∧ ¬ vOK h v)) : Sy h' ∧ Same h' [30, 38, 39, 40] (fun b h2 => q_mabove v h' b h2) k r := by
  obtain ⟨R, G, m⟩ := id a.1
  have A' := all_h' a f (by decide)
  have gs : Gs h h' := gs_sc f (by decide)
  have m1 : h 30 1 = h 1 6 := m.1
  have iv : isV h' v ↔ vOK h v := by unfold isV vOK; rw [f 30 (by decide), m1]
  refine ⟨A'.1, fun b h2 f2 q => ?_⟩
  obtain ⟨q0, q⟩ := q
  have A := ALL_look A' (f2.mon (by decide)) q0
  rcases c with ⟨rfl, c1, c2⟩ | ⟨rfl, c1⟩
  · rcases q with ⟨q1, q2, q3⟩ | ⟨q1, -⟩
    · refine ⟨q2, fun _ => ?_, A⟩
      have T := (tr_gs G gs).2 v c1
      have F := ((tr_facts G).1 v c1).1
      rw [T.1, T.2.1, if_neg (by omega)] at q3
      rw [q3, c2]
    · exact absurd (iv.mpr c1) q1
  · rcases q with ⟨q1, -⟩ | ⟨-, q2⟩
    · exact absurd (iv.mp q1) c1
    · exact ⟨q2, fun z => by omega, A⟩
-- cycle
theorem st_cycle {h h' : Hp} {e k r : Int} (a : ALL h) (f : Fr [5, 26, 27, 47] h h') (c : (k = 0 ∧ eOK h e ∧ ((inT h e ∧ r = 0) ∨ (¬ inT h e ∧ r = (cyV h e).length))) ∨ (k = 1 ∧ ¬ eOK h e)) : Sy h' ∧ Same h' [30, 38, 39, 40, 44, 45] (fun b h2 => q_mcycle e h' b h2) k r := by
  obtain ⟨R, G, m⟩ := id a.1
  have A' := all_h' a f (by decide)
  have gs : Gs h h' := gs_sc f (by decide)
  have eo : eOK h' e ↔ eOK h e := eOK_cong gs.1 gs.2.2.2.2.1
  refine ⟨A'.1, fun b h2 f2 q => ?_⟩
  obtain ⟨q0, q⟩ := q
  have A := ALL_look A' (f2.mon (by decide)) q0
  rcases c with ⟨rfl, c1, c2⟩ | ⟨rfl, c1⟩
  · rcases q with ⟨q1, -⟩ | ⟨q1, q2, q3⟩
    · exact absurd (eo.mpr c1) q1
    · refine ⟨q2, fun _ => ?_, A⟩
      rw [inT_gs G gs c1, cyV_gs G gs c1] at q3
      rcases c2 with ⟨d1, d2⟩ | ⟨d1, d2⟩ <;> rcases q3 with ⟨u1, u2⟩ | ⟨u1, u2⟩
      · omega
      · exact absurd d1 u1
      · exact absurd u1 d1
      · omega
  · rcases q with ⟨-, q2⟩ | ⟨q1, -⟩
    · exact ⟨q2, fun z => by omega, A⟩
    · exact absurd (eo.mp q1) c1
-- side
theorem st_side {h h' : Hp} {e b0 k r : Int} (a : ALL h) (hb : b0 = 0 ∨ b0 = 1) (f : Fr [5, 26, 27, 28, 29, 47] h h') (c : (k = 0 ∧ q_side e b0 h r) ∨ (k = 1 ∧ ¬ eOK h e) ∨ (k = 2 ∧ eOK h e ∧ gnF h ≠ 0)) : p_mside e b0 h' ∧ Same h' [30, 37, 38, 39, 40, 44, 45, 46] (fun b h2 => q_mside e b0 h' b h2) k r := by
  obtain ⟨R, G, m⟩ := id a.1
  have A' := all_h' a f (by decide)
  have gs : Gs h h' := gs_sc f (by decide)
  have eo : eOK h' e ↔ eOK h e := eOK_cong gs.1 gs.2.2.2.2.1
  have eg : gnF h' = gnF h := TF_gs G gs
  refine ⟨⟨A'.1, hb⟩, fun b h2 f2 q => ?_⟩
  obtain ⟨q0, q⟩ := q
  rw [eo, eg] at q
  have A := ALL_look A' (f2.mon (by decide)) q0
  rcases c with ⟨rfl, c1, c2, c3⟩ | ⟨rfl, c1⟩ | ⟨rfl, c1, c2⟩
  · rcases q with ⟨q1, -⟩ | ⟨-, q1, -⟩ | ⟨q1, q2, q3, q4⟩
    · exact absurd c1 q1
    · exact absurd c2 q1
    · refine ⟨q3, fun _ => ?_, A⟩
      rw [inT_gs G gs c1, (n_gs G gs c1).1, (n_gs G gs c1).2] at q4
      rcases c3 with ⟨d1, d2⟩ | ⟨d1, d2⟩ <;> rcases q4 with ⟨u1, u2⟩ | ⟨u1, u2⟩
      · omega
      · exact absurd d1 u1
      · exact absurd u1 d1
      · rcases hb with z | z
        · rw [u2, d2, if_neg (by omega), if_pos z]
        · rw [u2, d2, if_pos z, if_neg (by omega)]
  · rcases q with ⟨-, q2⟩ | ⟨q1, -⟩ | ⟨q1, -⟩
    · exact ⟨q2, fun z => by omega, A⟩
    · exact absurd q1 c1
    · exact absurd q1 c1
  · rcases q with ⟨q1, -⟩ | ⟨-, -, q2⟩ | ⟨-, q1, -⟩
    · exact absurd c1 q1
    · exact ⟨q2, fun z => by omega, A⟩
    · exact absurd q1 c2
-- best
theorem st_best {h h' : Hp} {k r : Int} (a : ALL h) (f : Fr [5, 26, 27, 28, 29, 47] h h') (c : (k = 0 ∧ q_best h r) ∨ (k = 1 ∧ gnF h ≠ 0)) : Sy h' ∧ Same h' [30, 37, 38, 39, 40, 44, 45, 46] (fun b h2 => q_mbest h' b h2) k r := by
  obtain ⟨R, G, m⟩ := id a.1
  have A' := all_h' a f (by decide)
  have gs : Gs h h' := gs_sc f (by decide)
  have eg : gnF h' = gnF h := TF_gs G gs
  refine ⟨A'.1, fun b h2 f2 q => ?_⟩
  obtain ⟨q0, q⟩ := q
  rw [eg] at q
  have A := ALL_look A' (f2.mon (by decide)) q0
  rcases c with ⟨rfl, c1, w, s, c2⟩ | ⟨rfl, c1⟩
  · rcases q with ⟨q1, -⟩ | ⟨-, q2, w', s', q3⟩
    · exact absurd c1 q1
    · refine ⟨q2, fun _ => ?_, A⟩
      have := Bs_gs G gs _ c2
      rw [gs.1] at q3
      exact (Bs_uniq _ q3 this).1
  · rcases q with ⟨-, q2⟩ | ⟨q1, -⟩
    · exact ⟨q2, fun z => by omega, A⟩
    · exact absurd q1 c1

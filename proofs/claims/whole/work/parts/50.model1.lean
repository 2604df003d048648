/-! The reference: its small methods, in words of its own cells -/
-- isVertex
def isV (h : Hp) (v : Int) : Prop := 0 ≤ v ∧ v < h 30 1
def q_isVertex (v : Int) (h : Hp) (r : Int) : Prop := (r = 1 ∧ isV h v) ∨ (r = 0 ∧ ¬ isV h v)
theorem ct_isVertex {l : Launch} (v : Int) (h : Hp) : Ct l yX6_isVertex cX6_isVertex 2 (some .boolean) 0 0 0 [vr 30, vi v] h [] (fun r _ => q_isVertex v h r) (fun _ => False) := by
  refine w_X6_isVertex _ h v (fun _ _ => ?_)
  unfold V_X6_isVertex V_X6_isVertex_16 V_X6_isVertex_17 q_isVertex isV
  refine ⟨fun c => ⟨Or.inl rfl, Or.inr ⟨rfl, by omega⟩⟩, fun c => ⟨fun c1 => ⟨Or.inl rfl, Or.inr ⟨rfl, by omega⟩⟩, fun c1 => ⟨Or.inr rfl, Or.inl ⟨rfl, by omega⟩⟩⟩⟩
-- isEdge
def isE (h : Hp) (e : Int) : Prop := (0 ≤ e ∧ e < h 30 2) ∧ h 33 e = 0
def p_isEdge (_ : Int) (h : Hp) : Prop := h 30 2 ≤ 100
def q_isEdge (e : Int) (h : Hp) (r : Int) : Prop := (r = 1 ∧ isE h e) ∨ (r = 0 ∧ ¬ isE h e)
theorem ct_isEdge {l : Launch} (e : Int) (h : Hp) (hb : p_isEdge e h) : Ct l yX6_isEdge cX6_isEdge 2 (some .boolean) 0 0 0 [vr 30, vi e] h [] (fun r _ => q_isEdge e h r) (fun _ => False) := by
  unfold p_isEdge at hb
  refine w_X6_isEdge _ h e (fun _ _ => ?_)
  unfold V_X6_isEdge V_X6_isEdge_25 V_X6_isEdge_26 q_isEdge isE
  refine ⟨fun c => ⟨Or.inl rfl, Or.inr ⟨rfl, by omega⟩⟩, fun c => ⟨fun c1 => ⟨Or.inl rfl, Or.inr ⟨rfl, by omega⟩⟩, fun c1 => ⟨by omega, fun c2 => ⟨Or.inl rfl, Or.inr ⟨rfl, by omega⟩⟩, fun c2 => ⟨Or.inr rfl, Or.inl ⟨rfl, by omega⟩⟩⟩⟩⟩
-- far
def farF (h : Hp) (e v : Int) : Int := if h 31 e = v then h 32 e else h 31 e
def p_far (e _ : Int) (_ : Hp) : Prop := 0 ≤ e ∧ e < 100
def q_far (e v : Int) (h : Hp) (r : Int) : Prop := r = farF h e v
theorem ct_far {l : Launch} (e v : Int) (h : Hp) (hb : p_far e v h) : Ct l yX6_far cX6_far 3 (some .int) 0 0 0 [vr 30, vi e, vi v] h [] (fun r _ => q_far e v h r) (fun _ => False) := by
  refine w_X6_far _ h e v (fun _ _ _ => ?_)
  unfold V_X6_far V_X6_far_25 q_far farF
  exact ⟨hb, fun c => ⟨hb, by rw [if_neg c]⟩, fun c => ⟨hb, by rw [if_pos c]⟩⟩
-- placeOf
def p_placeOf (v _ : Int) (h : Hp) : Prop := (0 ≤ v ∧ v < 30) ∧ 0 ≤ h 35 v ∧ h 35 v ≤ 30
def q_placeOf (v e : Int) (h : Hp) (r : Int) : Prop := (r = -1 ∧ ∀ k : Nat, (k : Int) < h 35 v → h 34 (30 * v + k) ≠ e) ∨ (∃ p : Nat, r = p ∧ (p : Int) < h 35 v ∧ h 34 (30 * v + p) = e ∧ ∀ k : Nat, k < p → h 34 (30 * v + k) ≠ e)
theorem ct_placeOf {l : Launch} (v e : Int) (h : Hp) (hb : p_placeOf v e h) : Ct l yX6_placeOf cX6_placeOf 4 (some .int) 0 0 0 [vr 30, vi v, vi e] h [] (fun r _ => q_placeOf v e h r) (fun _ => False) := by
  obtain ⟨h1, h2, h3⟩ := hb
  refine w_X6_placeOf _ (fun n g x1 x2 x3 => g = h ∧ x1 = v ∧ x2 = e ∧ ∃ j : Nat, x3 = j ∧ (j : Int) ≤ h 35 v ∧ (∀ k : Nat, k < j → h 34 (30 * v + k) ≠ e) ∧ n = 30 - j) h v e ?_ (fun _ _ _ => ?_)
  · rintro n g x1 x2 x3 - - - - - ⟨rfl, rfl, rfl, j, rfl, hj, hno, hn⟩
    unfold V_X6_placeOf_2 InR
    refine ⟨h1, fun c => Or.inl ⟨rfl, fun k hk => hno k (by omega)⟩, fun c => ⟨by omega, by omega, by omega, fun c1 => ⟨by omega, fun z ez => ⟨30 - (j + 1), by omega, rfl, rfl, rfl, j + 1, by omega, by omega, fun k hk => ?_, rfl⟩⟩, fun c1 => Or.inr ⟨j, rfl, by omega, c1, hno⟩⟩⟩
    by_cases w : k = j
    · rw [w]; exact c1
    · exact hno k (by omega)
  · unfold V_X6_placeOf
    exact fun z ez => ⟨30, rfl, rfl, rfl, 0, ez, by omega, fun k hk => by omega, rfl⟩
-- between
def p_between (u _ : Int) (h : Hp) : Prop := (0 ≤ u ∧ u < 30) ∧ (0 ≤ h 35 u ∧ h 35 u ≤ 30) ∧ ∀ k : Nat, (k : Int) < h 35 u → 0 ≤ h 34 (30 * u + k) ∧ h 34 (30 * u + k) < 100
def q_between (u v : Int) (h : Hp) (r : Int) : Prop := (r = -1 ∧ ∀ k : Nat, (k : Int) < h 35 u → farF h (h 34 (30 * u + k)) u ≠ v) ∨ (∃ p : Nat, (p : Int) < h 35 u ∧ r = h 34 (30 * u + p) ∧ farF h (h 34 (30 * u + p)) u = v)
theorem ct_between {l : Launch} (u v : Int) (h : Hp) (hb : p_between u v h) : Ct l yX6_between cX6_between 4 (some .int) 1 22 0 [vr 30, vi u, vi v] h [] (fun r _ => q_between u v h r) (fun _ => False) := by
  obtain ⟨h1, h2, h3⟩ := hb
  refine w_X6_between _ p_far q_far (fun n g x1 x2 x3 => g = h ∧ x1 = u ∧ x2 = v ∧ ∃ j : Nat, x3 = j ∧ (j : Int) ≤ h 35 u ∧ (∀ k : Nat, k < j → farF h (h 34 (30 * u + k)) u ≠ v) ∧ n = 30 - j) h u v ct_far ?_ (fun _ _ _ => ?_)
  · rintro n g x1 x2 x3 - - - - - ⟨rfl, rfl, rfl, j, rfl, hj, hno, hn⟩
    unfold V_X6_between_2 InR
    refine ⟨h1, fun c => Or.inl ⟨rfl, fun k hk => hno k (by omega)⟩, fun c => ⟨by omega, by omega, by omega, h3 j (by omega), fun r hr q => ?_⟩⟩
    have q : r = farF g (g 34 (30 * x1 + j)) x1 := q
    refine ⟨fun c1 => ⟨by omega, fun z ez => ⟨30 - (j + 1), by omega, rfl, rfl, rfl, j + 1, by omega, by omega, fun k hk => ?_, rfl⟩⟩, fun c1 => ⟨by omega, by omega, by omega, Or.inr ⟨j, by omega, rfl, by rw [← q]; exact c1⟩⟩⟩
    by_cases w : k = j
    · rw [w, ← q]; exact c1
    · exact hno k (by omega)
  · unfold V_X6_between
    exact fun z ez => ⟨30, rfl, rfl, rfl, 0, ez, by omega, fun k hk => by omega, rfl⟩
-- isRound
def rndF (h : Hp) (v e : Int) : Prop := e = -1 ∨ ∃ k : Nat, (k : Int) < h 35 v ∧ h 34 (30 * v + k) = e
def q_isRound (v e : Int) (h : Hp) (r : Int) : Prop := (r = 1 ∧ rndF h v e) ∨ (r = 0 ∧ ¬ rndF h v e)
theorem ct_isRound {l : Launch} (v e : Int) (h : Hp) (hb : p_placeOf v e h) : Ct l yX6_isRound cX6_isRound 3 (some .boolean) 1 23 0 [vr 30, vi v, vi e] h [] (fun r _ => q_isRound v e h r) (fun _ => False) := by
  refine w_X6_isRound _ p_placeOf q_placeOf h v e ct_placeOf (fun _ _ _ => ?_)
  unfold V_X6_isRound V_X6_isRound_14 V_X6_isRound_19 q_isRound rndF
  refine ⟨fun c => ⟨Or.inr rfl, Or.inl ⟨rfl, Or.inl c⟩⟩, fun c => ⟨hb, fun r hr q => ?_⟩⟩
  rcases q with ⟨q1, q2⟩ | ⟨p, q1, q2, q3, -⟩
  · refine ⟨fun c1 => ⟨Or.inl rfl, Or.inr ⟨rfl, ?_⟩⟩, fun c1 => by omega⟩
    rintro (z | ⟨k, z1, z2⟩)
    · exact c z
    · exact q2 k z1 z2
  · exact ⟨fun c1 => by omega, fun c1 => ⟨Or.inr rfl, Or.inl ⟨rfl, Or.inr ⟨p, q2, q3⟩⟩⟩⟩
-- origin
def orgF (h : Hp) (s : Int) : Int := if s % 2 = 0 then h 31 (s / 2) else h 32 (s / 2)
def p_origin (s : Int) (_ : Hp) : Prop := 0 ≤ s ∧ s < 200
def q_origin (s : Int) (h : Hp) (r : Int) : Prop := r = orgF h s
theorem tmod2 {s : Int} (h : 0 ≤ s) : s.tmod 2 = s % 2 := Int.tmod_eq_emod_of_nonneg h
theorem tdiv2 {s : Int} (h : 0 ≤ s) : s.tdiv 2 = s / 2 := Int.tdiv_eq_ediv_of_nonneg h
theorem ct_origin {l : Launch} (s : Int) (h : Hp) (hb : p_origin s h) : Ct l yX6_origin cX6_origin 2 (some .int) 0 0 0 [vr 30, vi s] h [] (fun r _ => q_origin s h r) (fun _ => False) := by
  unfold p_origin at hb
  refine w_X6_origin _ h s (fun _ _ => ?_)
  unfold V_X6_origin V_X6_origin_25 q_origin orgF InR
  rw [tmod2 hb.1, tdiv2 hb.1]
  refine ⟨by omega, fun c => ⟨by omega, by omega, ?_⟩, fun c => ⟨by omega, by omega, ?_⟩⟩
  · rw [if_neg c]
  · rw [if_pos c]

/-! the law's wrappers -/
theorem aL_lt : ∀ (av : List Vv) (i : Nat) (w : Nat × Vv), w ∈ aL i av → w.1 < i + av.length := by
  intro av
  induction av with
  | nil => intro i w hw; cases hw
  | cons v r ih =>
    intro i w hw
    rcases List.mem_cons.mp hw with e | e
    · rw [e, List.length_cons]; show i < _; omega
    · have := ih (i + 1) w e
      rw [List.length_cons]; omega
theorem aL_ne {av : List Vv} {i : Nat} (h : av.length ≤ i) : ∀ w ∈ aL 0 av, w.1 ≠ i := fun w hw e => by
  have := aL_lt av 0 w hw
  omega
theorem inR_1 : InR 1 := ⟨by decide, by decide⟩
theorem inR_2 : InR 2 := ⟨by decide, by decide⟩
theorem inR_3 : InR 3 := ⟨by decide, by decide⟩
theorem ck_L_7 : CallOk yX5_vertex cX5_vertex 2 (some .int) RX5 RL 7 0 := ⟨rfl, ⟨by decide, by decide, by decide +kernel⟩, by decide +kernel, by decide +kernel, by decide +kernel, by decide +kernel, by decide +kernel⟩
def wp_vertex (h : Hp) (k : Int) (h1 : Hp) : Prop := (k = 0 ∧ ∃ (r : Int) (hc : Hp), Fr [1, 2, 3, 10, 11, 12, 13, 14, 15, 16, 17, 18, 19, 20] h hc ∧ (q_vertex h r hc) ∧ h1 = hup hc 47 0 r) ∨ (k = 1 ∧ (¬ h 1 6 < 30) ∧ h1 = h)
theorem cl_vertex {l : Launch} (hst : l.stackTraces = false) (h : Hp) (hp : CS h) : CtH l yL_vertex cL_vertex 3 [(0, 8, 11, 13)] 7 132 [vr 0, vr 47] h [1, 2, 3, 10, 11, 12, 13, 14, 15, 16, 17, 18, 19, 20, 47] (fun k h1 => wp_vertex h k h1) := by
  refine CtH.of rfl rfl (Nat.le_of_ble_eq_true rfl) (fun X C T hl ret av hR => ?_)
  subst hl
  refine g_aload_n 1 C dL_vertex_0 rfl ?_
  refine g_iconst C dL_vertex_1 inR_0 ?_
  refine g_aload_n 0 C dL_vertex_2 rfl ?_
  refine g_calli (av := []) (rest := [vi 0, vr 47]) (r := 0) (ci := 5) (Cn := RX5) (T := TX5) (N := 5) C dL_vertex_3 (ct_vertex hst h hp) ck_L_7 rfl rfl rfl (v1s []) (by decide) (by decide) (by decide) (by decide) ?_ ?_
  · intro E hE
    obtain ⟨c, rfl⟩ := hE
    refine g_catch_n C T (fun args s w1 w2 w3 => ⟨by decide, by decide, by decide, "java/lang/UnsupportedOperationException", w1 _ (by decide +kernel), Or.inl ⟨w2 _ (by decide +kernel), rfl⟩⟩) dL_vertex_11 (by decide) (aL_ne (Nat.le_of_ble_eq_true rfl)) ?_
    refine g_iconst C dL_vertex_12 inR_1 ?_
    exact ret _ _ _ _ _ dL_vertex_13 (by decide) Fr.rf (Or.inr (⟨rfl, c, rfl⟩))
  · intro r' h' f' rh ir po
    refine g_i2l C dL_vertex_6 ?_
    refine g_lastore (r := 47) (N := 1) C dL_vertex_7 rfl (by decide) ?_
    refine g_goto (tgt := 14) C dL_vertex_8 rfl ?_
    refine g_iconst C dL_vertex_14 inR_0 ?_
    exact ret _ _ _ _ _ dL_vertex_15 (by decide) ((f'.mon (by decide)).up (by decide)) (Or.inl ⟨rfl, r', h', f', po, rfl⟩)
theorem ot_vertex {h h1 : Hp} {k : Int} (A : ALL h) (w : wp_vertex h k h1) : p_mvertex h1 ∧ Same h1 [30, 35, 36] (fun b h2 => q_mvertex h1 b h2) k (h1 47 0) := by
  rcases w with ⟨k0, r, hc, f, po, rfl⟩ | ⟨k0, c, rfl⟩
  · have g := st_vertex (r := r) (h' := hup hc 47 0 r) A f (Or.inl ⟨k0, po, rfl⟩)
    rw [hup_s hc 47 0 r]
    exact g
  · exact st_vertex (hc := h1) (r := h1 47 0) A Fr.rf (Or.inr ⟨k0, c, rfl⟩)
theorem ck_L_15 : CallOk yX5_edge cX5_edge 6 (some .int) RX5 RL 15 4 := ⟨rfl, ⟨by decide, by decide, by decide +kernel⟩, by decide +kernel, by decide +kernel, by decide +kernel, by decide +kernel, by decide +kernel⟩
def wp_edge (a : Int) (b : Int) (ba : Int) (bb : Int) (h : Hp) (k : Int) (h1 : Hp) : Prop := (k = 0 ∧ ∃ (r : Int) (hc : Hp), Fr [1, 2, 3, 4, 6, 7, 8, 9, 10, 11, 12, 13, 14, 15, 16, 17, 18, 19, 20] h hc ∧ (q_edge a b ba bb h r hc) ∧ h1 = hup hc 47 0 r) ∨ (k = 1 ∧ (EC h a b ba bb 1) ∧ h1 = h) ∨ (k = 2 ∧ (EC h a b ba bb 2) ∧ h1 = h) ∨ (k = 3 ∧ (EC h a b ba bb 3) ∧ h1 = h)
theorem cl_edge {l : Launch} (hst : l.stackTraces = false) (a : Int) (b : Int) (ba : Int) (bb : Int) (h : Hp) (hp : CS h) : CtH l yL_edge cL_edge 7 [(0, 14, 17, 19), (0, 14, 21, 21), (0, 14, 25, 13)] 9 149 [vr 0, vi a, vi b, vi ba, vi bb, vr 47] h [1, 2, 3, 4, 6, 7, 8, 9, 10, 11, 12, 13, 14, 15, 16, 17, 18, 19, 20, 47] (fun k h1 => wp_edge a b ba bb h k h1) := by
  refine CtH.of rfl rfl (Nat.le_of_ble_eq_true rfl) (fun X C T hl ret av hR => ?_)
  subst hl
  refine g_aload 5 C dL_edge_0 rfl ?_
  refine g_iconst C dL_edge_2 inR_0 ?_
  refine g_aload_n 0 C dL_edge_3 rfl ?_
  refine g_iload_n 1 C dL_edge_4 rfl ?_
  refine g_iload_n 2 C dL_edge_5 rfl ?_
  refine g_iload_n 3 C dL_edge_6 rfl ?_
  refine g_iload 4 C dL_edge_7 rfl ?_
  refine g_calli (av := [vi a, vi b, vi ba, vi bb]) (rest := [vi 0, vr 47]) (r := 0) (ci := 5) (Cn := RX5) (T := TX5) (N := 5) C dL_edge_9 (ct_edge hst a b ba bb h hp) ck_L_15 rfl rfl rfl (v1s [a, b, ba, bb]) (by decide) (by decide) (by decide) (by decide) ?_ ?_
  · intro E hE
    rcases hE with ⟨rfl, c⟩ | ⟨rfl, c⟩ | ⟨rfl, c⟩
    · refine g_catch C T (fun args s w1 w2 w3 => ⟨by decide, by decide, by decide, "java/lang/IndexOutOfBoundsException", w1 _ (by decide +kernel), Or.inl ⟨w2 _ (by decide +kernel), rfl⟩⟩) dL_edge_17 (by decide) (aL_ne (Nat.le_of_ble_eq_true rfl)) ?_
      refine g_iconst C dL_edge_19 inR_1 ?_
      exact ret _ _ _ _ _ dL_edge_20 (by decide) Fr.rf (Or.inr (Or.inl ⟨rfl, c, rfl⟩))
    · refine g_catch C T (fun args s w1 w2 w3 => ⟨by decide, by decide, by decide, "java/lang/IndexOutOfBoundsException", w1 _ (by decide +kernel), Or.inr ⟨w3 ("java/lang/IllegalArgumentException", "java/lang/IndexOutOfBoundsException") (by decide +kernel), ⟨by decide, by decide, by decide, "java/lang/IllegalArgumentException", w1 _ (by decide +kernel), Or.inl ⟨w2 _ (by decide +kernel), rfl⟩⟩⟩⟩) dL_edge_21 (by decide) (aL_ne (Nat.le_of_ble_eq_true rfl)) ?_
      refine g_iconst C dL_edge_23 inR_2 ?_
      exact ret _ _ _ _ _ dL_edge_24 (by decide) Fr.rf (Or.inr (Or.inr (Or.inl ⟨rfl, c, rfl⟩)))
    · refine g_catch C T (fun args s w1 w2 w3 => ⟨by decide, by decide, by decide, "java/lang/IndexOutOfBoundsException", w1 _ (by decide +kernel), Or.inr ⟨w3 ("java/lang/UnsupportedOperationException", "java/lang/IndexOutOfBoundsException") (by decide +kernel), ⟨by decide, by decide, by decide, "java/lang/IllegalArgumentException", w1 _ (by decide +kernel), Or.inr ⟨w3 ("java/lang/UnsupportedOperationException", "java/lang/IllegalArgumentException") (by decide +kernel), ⟨by decide, by decide, by decide, "java/lang/UnsupportedOperationException", w1 _ (by decide +kernel), Or.inl ⟨w2 _ (by decide +kernel), rfl⟩⟩⟩⟩⟩⟩) dL_edge_25 (by decide) (aL_ne (Nat.le_of_ble_eq_true rfl)) ?_
      refine g_iconst C dL_edge_27 inR_3 ?_
      exact ret _ _ _ _ _ dL_edge_28 (by decide) Fr.rf (Or.inr (Or.inr (Or.inr (⟨rfl, c, rfl⟩))))
  · intro r' h' f' rh ir po
    refine g_i2l C dL_edge_12 ?_
    refine g_lastore (r := 47) (N := 1) C dL_edge_13 rfl (by decide) ?_
    refine g_goto (tgt := 29) C dL_edge_14 rfl ?_
    refine g_iconst C dL_edge_29 inR_0 ?_
    exact ret _ _ _ _ _ dL_edge_30 (by decide) ((f'.mon (by decide)).up (by decide)) (Or.inl ⟨rfl, r', h', f', po, rfl⟩)
theorem ot_edge {h h1 : Hp} {a b ba bb : Int} {k : Int} (A : ALL h) (w : wp_edge a b ba bb h k h1) : p_medge a b ba bb h1 ∧ Same h1 [30, 31, 32, 33, 34, 35, 36] (fun x h2 => q_medge a b ba bb h1 x h2) k (h1 47 0) := by
  rcases w with ⟨k0, r, hc, f, po, rfl⟩ | ⟨k0, c, rfl⟩ | ⟨k0, c, rfl⟩ | ⟨k0, c, rfl⟩
  · have g := st_edge (r := r) (h' := hup hc 47 0 r) A f (Or.inl ⟨k0, po, rfl⟩)
    rw [hup_s hc 47 0 r]
    exact g
  · exact st_edge (hc := h1) (r := h1 47 0) A Fr.rf (Or.inr ⟨Or.inl k0, by rw [k0]; exact c, rfl⟩)
  · exact st_edge (hc := h1) (r := h1 47 0) A Fr.rf (Or.inr ⟨Or.inr (Or.inl k0), by rw [k0]; exact c, rfl⟩)
  · exact st_edge (hc := h1) (r := h1 47 0) A Fr.rf (Or.inr ⟨Or.inr (Or.inr k0), by rw [k0]; exact c, rfl⟩)
theorem ck_L_23 : CallOk yX5_remove cX5_remove 2 (some .int) RX5 RL 23 1 := ⟨rfl, ⟨by decide, by decide, by decide +kernel⟩, by decide +kernel, by decide +kernel, by decide +kernel, by decide +kernel, by decide +kernel⟩
def wp_remove (e : Int) (h : Hp) (k : Int) (h1 : Hp) : Prop := (k = 0 ∧ ∃ (r : Int) (hc : Hp), Fr [1, 2, 3, 4, 7, 8, 9, 10, 11, 12, 13, 14, 15, 16, 17, 18, 19, 20] h hc ∧ (q_remove e h r hc) ∧ h1 = hup hc 47 0 r) ∨ (k = 1 ∧ (¬ eOK h e) ∧ h1 = h)
theorem cl_remove {l : Launch} (hst : l.stackTraces = false) (e : Int) (h : Hp) (hp : CS h) : CtH l yL_remove cL_remove 4 [(0, 9, 12, 19)] 8 132 [vr 0, vi e, vr 47] h [1, 2, 3, 4, 7, 8, 9, 10, 11, 12, 13, 14, 15, 16, 17, 18, 19, 20, 47] (fun k h1 => wp_remove e h k h1) := by
  refine CtH.of rfl rfl (Nat.le_of_ble_eq_true rfl) (fun X C T hl ret av hR => ?_)
  subst hl
  refine g_aload_n 2 C dL_remove_0 rfl ?_
  refine g_iconst C dL_remove_1 inR_0 ?_
  refine g_aload_n 0 C dL_remove_2 rfl ?_
  refine g_iload_n 1 C dL_remove_3 rfl ?_
  refine g_calli (av := [vi e]) (rest := [vi 0, vr 47]) (r := 0) (ci := 5) (Cn := RX5) (T := TX5) (N := 5) C dL_remove_4 (ct_remove hst e h hp) ck_L_23 rfl rfl rfl (v1s [e]) (by decide) (by decide) (by decide) (by decide) ?_ ?_
  · intro E hE
    obtain ⟨c, rfl⟩ := hE
    refine g_catch_n C T (fun args s w1 w2 w3 => ⟨by decide, by decide, by decide, "java/lang/IndexOutOfBoundsException", w1 _ (by decide +kernel), Or.inl ⟨w2 _ (by decide +kernel), rfl⟩⟩) dL_remove_12 (by decide) (aL_ne (Nat.le_of_ble_eq_true rfl)) ?_
    refine g_iconst C dL_remove_13 inR_1 ?_
    exact ret _ _ _ _ _ dL_remove_14 (by decide) Fr.rf (Or.inr (⟨rfl, c, rfl⟩))
  · intro r' h' f' rh ir po
    refine g_i2l C dL_remove_7 ?_
    refine g_lastore (r := 47) (N := 1) C dL_remove_8 rfl (by decide) ?_
    refine g_goto (tgt := 15) C dL_remove_9 rfl ?_
    refine g_iconst C dL_remove_15 inR_0 ?_
    exact ret _ _ _ _ _ dL_remove_16 (by decide) ((f'.mon (by decide)).up (by decide)) (Or.inl ⟨rfl, r', h', f', po, rfl⟩)
theorem ot_remove {h h1 : Hp} {e : Int} {k : Int} (A : ALL h) (w : wp_remove e h k h1) : p_mremove e h1 ∧ Same h1 [30, 33, 34, 35, 36] (fun x h2 => q_mremove e h1 x h2) k (h1 47 0) := by
  rcases w with ⟨k0, r, hc, f, po, rfl⟩ | ⟨k0, c, rfl⟩
  · have g := st_remove (r := r) (h' := hup hc 47 0 r) A f (Or.inl ⟨k0, po, rfl⟩)
    rw [hup_s hc 47 0 r]
    exact g
  · exact st_remove (hc := h1) (r := h1 47 0) A Fr.rf (Or.inr ⟨k0, c, rfl⟩)
theorem ck_L_27 : CallOk yX5_degree cX5_degree 2 (some .int) RX5 RL 27 1 := ⟨rfl, ⟨by decide, by decide, by decide +kernel⟩, by decide +kernel, by decide +kernel, by decide +kernel, by decide +kernel, by decide +kernel⟩
def wp_degree (v : Int) (h : Hp) (k : Int) (h1 : Hp) : Prop := (k = 0 ∧ ∃ (r : Int) (hc : Hp), Fr [] h hc ∧ (vOK h v ∧ r = h 11 v) ∧ h1 = hup hc 47 0 r) ∨ (k = 1 ∧ (¬ vOK h v) ∧ h1 = h)
theorem cl_degree {l : Launch} (hst : l.stackTraces = false) (v : Int) (h : Hp) (hp : CS h) : CtH l yL_degree cL_degree 4 [(0, 9, 12, 19)] 8 124 [vr 0, vi v, vr 47] h [47] (fun k h1 => wp_degree v h k h1) := by
  refine CtH.of rfl rfl (Nat.le_of_ble_eq_true rfl) (fun X C T hl ret av hR => ?_)
  subst hl
  refine g_aload_n 2 C dL_degree_0 rfl ?_
  refine g_iconst C dL_degree_1 inR_0 ?_
  refine g_aload_n 0 C dL_degree_2 rfl ?_
  refine g_iload_n 1 C dL_degree_3 rfl ?_
  refine g_calli (av := [vi v]) (rest := [vi 0, vr 47]) (r := 0) (ci := 5) (Cn := RX5) (T := TX5) (N := 5) C dL_degree_4 (ct_degree hst v h hp) ck_L_27 rfl rfl rfl (v1s [v]) (by decide) (by decide) (by decide) (by decide) ?_ ?_
  · intro E hE
    obtain ⟨c, rfl⟩ := hE
    refine g_catch_n C T (fun args s w1 w2 w3 => ⟨by decide, by decide, by decide, "java/lang/IndexOutOfBoundsException", w1 _ (by decide +kernel), Or.inl ⟨w2 _ (by decide +kernel), rfl⟩⟩) dL_degree_12 (by decide) (aL_ne (Nat.le_of_ble_eq_true rfl)) ?_
    refine g_iconst C dL_degree_13 inR_1 ?_
    exact ret _ _ _ _ _ dL_degree_14 (by decide) Fr.rf (Or.inr (⟨rfl, c, rfl⟩))
  · intro r' h' f' rh ir po
    refine g_i2l C dL_degree_7 ?_
    refine g_lastore (r := 47) (N := 1) C dL_degree_8 rfl (by decide) ?_
    refine g_goto (tgt := 15) C dL_degree_9 rfl ?_
    refine g_iconst C dL_degree_15 inR_0 ?_
    exact ret _ _ _ _ _ dL_degree_16 (by decide) ((f'.mon (by decide)).up (by decide)) (Or.inl ⟨rfl, r', h', f', po, rfl⟩)
theorem ot_degree {h h1 : Hp} {v : Int} {k : Int} (A : ALL h) (w : wp_degree v h k h1) : p_v30 h1 ∧ Same h1 [30] (fun b h2 => Look (isV h1 v) h1 (h1 35 v) b h2) k (h1 47 0) := by
  rcases w with ⟨k0, r, hc, f, po, rfl⟩ | ⟨k0, c, rfl⟩
  · have g := st_degree (r := r) (h' := hup hc 47 0 r) A ((f.mon (by decide)).up (by decide)) (Or.inl ⟨k0, po⟩)
    rw [hup_s hc 47 0 r]
    exact g
  · exact st_degree (r := h1 47 0) A Fr.rf (Or.inr ⟨k0, c⟩)
theorem ck_L_30 : CallOk yX5_round cX5_round 5 (some .int) RX5 RL 30 2 := ⟨rfl, ⟨by decide, by decide, by decide +kernel⟩, by decide +kernel, by decide +kernel, by decide +kernel, by decide +kernel, by decide +kernel⟩
def wp_round (v : Int) (p : Int) (h : Hp) (k : Int) (h1 : Hp) : Prop := (k = 0 ∧ ∃ (r : Int) (hc : Hp), Fr [] h hc ∧ (rnd h v p ∧ r = sk h v p.toNat / 2) ∧ h1 = hup hc 47 0 r) ∨ (k = 1 ∧ (¬ rnd h v p) ∧ h1 = h)
theorem cl_round {l : Launch} (hst : l.stackTraces = false) (v : Int) (p : Int) (h : Hp) (hp : CS h) : CtH l yL_round cL_round 5 [(0, 10, 13, 19)] 8 127 [vr 0, vi v, vi p, vr 47] h [47] (fun k h1 => wp_round v p h k h1) := by
  refine CtH.of rfl rfl (Nat.le_of_ble_eq_true rfl) (fun X C T hl ret av hR => ?_)
  subst hl
  refine g_aload_n 3 C dL_round_0 rfl ?_
  refine g_iconst C dL_round_1 inR_0 ?_
  refine g_aload_n 0 C dL_round_2 rfl ?_
  refine g_iload_n 1 C dL_round_3 rfl ?_
  refine g_iload_n 2 C dL_round_4 rfl ?_
  refine g_calli (av := [vi v, vi p]) (rest := [vi 0, vr 47]) (r := 0) (ci := 5) (Cn := RX5) (T := TX5) (N := 5) C dL_round_5 (ct_round hst v p h hp) ck_L_30 rfl rfl rfl (v1s [v, p]) (by decide) (by decide) (by decide) (by decide) ?_ ?_
  · intro E hE
    obtain ⟨c, rfl⟩ := hE
    refine g_catch C T (fun args s w1 w2 w3 => ⟨by decide, by decide, by decide, "java/lang/IndexOutOfBoundsException", w1 _ (by decide +kernel), Or.inl ⟨w2 _ (by decide +kernel), rfl⟩⟩) dL_round_13 (by decide) (aL_ne (Nat.le_of_ble_eq_true rfl)) ?_
    refine g_iconst C dL_round_15 inR_1 ?_
    exact ret _ _ _ _ _ dL_round_16 (by decide) Fr.rf (Or.inr (⟨rfl, c, rfl⟩))
  · intro r' h' f' rh ir po
    refine g_i2l C dL_round_8 ?_
    refine g_lastore (r := 47) (N := 1) C dL_round_9 rfl (by decide) ?_
    refine g_goto (tgt := 17) C dL_round_10 rfl ?_
    refine g_iconst C dL_round_17 inR_0 ?_
    exact ret _ _ _ _ _ dL_round_18 (by decide) ((f'.mon (by decide)).up (by decide)) (Or.inl ⟨rfl, r', h', f', po, rfl⟩)
theorem ot_round {h h1 : Hp} {v p : Int} {k : Int} (A : ALL h) (w : wp_round v p h k h1) : p_mround h1 ∧ Same h1 [30] (fun b h2 => Look (isV h1 v ∧ 0 ≤ p ∧ p < h1 35 v) h1 (h1 34 (30 * v + p)) b h2) k (h1 47 0) := by
  rcases w with ⟨k0, r, hc, f, po, rfl⟩ | ⟨k0, c, rfl⟩
  · have g := st_round (r := r) (h' := hup hc 47 0 r) A ((f.mon (by decide)).up (by decide)) (Or.inl ⟨k0, po⟩)
    rw [hup_s hc 47 0 r]
    exact g
  · exact st_round (r := h1 47 0) A Fr.rf (Or.inr ⟨k0, c⟩)
theorem ck_L_34 : CallOk yX5_end cX5_end 3 (some .int) RX5 RL 34 2 := ⟨rfl, ⟨by decide, by decide, by decide +kernel⟩, by decide +kernel, by decide +kernel, by decide +kernel, by decide +kernel, by decide +kernel⟩
def wp_end (e : Int) (s : Int) (h : Hp) (k : Int) (h1 : Hp) : Prop := (k = 0 ∧ ∃ (r : Int) (hc : Hp), Fr [] h hc ∧ (eOK h e ∧ r = h 6 (if s = 0 then 2 * e else 2 * e + 1)) ∧ h1 = hup hc 47 0 r) ∨ (k = 1 ∧ (¬ eOK h e) ∧ h1 = h)
theorem cl_end {l : Launch} (hst : l.stackTraces = false) (e : Int) (s : Int) (h : Hp) (hp : CS h) : CtH l yL_end cL_end 5 [(0, 10, 13, 19)] 8 125 [vr 0, vi e, vi s, vr 47] h [47] (fun k h1 => wp_end e s h k h1) := by
  refine CtH.of rfl rfl (Nat.le_of_ble_eq_true rfl) (fun X C T hl ret av hR => ?_)
  subst hl
  refine g_aload_n 3 C dL_end_0 rfl ?_
  refine g_iconst C dL_end_1 inR_0 ?_
  refine g_aload_n 0 C dL_end_2 rfl ?_
  refine g_iload_n 1 C dL_end_3 rfl ?_
  refine g_iload_n 2 C dL_end_4 rfl ?_
  refine g_calli (av := [vi e, vi s]) (rest := [vi 0, vr 47]) (r := 0) (ci := 5) (Cn := RX5) (T := TX5) (N := 5) C dL_end_5 (ct_end hst e s h hp) ck_L_34 rfl rfl rfl (v1s [e, s]) (by decide) (by decide) (by decide) (by decide) ?_ ?_
  · intro E hE
    obtain ⟨c, rfl⟩ := hE
    refine g_catch C T (fun args s w1 w2 w3 => ⟨by decide, by decide, by decide, "java/lang/IndexOutOfBoundsException", w1 _ (by decide +kernel), Or.inl ⟨w2 _ (by decide +kernel), rfl⟩⟩) dL_end_13 (by decide) (aL_ne (Nat.le_of_ble_eq_true rfl)) ?_
    refine g_iconst C dL_end_15 inR_1 ?_
    exact ret _ _ _ _ _ dL_end_16 (by decide) Fr.rf (Or.inr (⟨rfl, c, rfl⟩))
  · intro r' h' f' rh ir po
    refine g_i2l C dL_end_8 ?_
    refine g_lastore (r := 47) (N := 1) C dL_end_9 rfl (by decide) ?_
    refine g_goto (tgt := 17) C dL_end_10 rfl ?_
    refine g_iconst C dL_end_17 inR_0 ?_
    exact ret _ _ _ _ _ dL_end_18 (by decide) ((f'.mon (by decide)).up (by decide)) (Or.inl ⟨rfl, r', h', f', po, rfl⟩)
theorem ot_end {h h1 : Hp} {e s : Int} {k : Int} (A : ALL h) (w : wp_end e s h k h1) : p_isEdge e h1 ∧ Same h1 [30] (fun b h2 => Look (isE h1 e) h1 (if s = 0 then h1 31 e else h1 32 e) b h2) k (h1 47 0) := by
  rcases w with ⟨k0, r, hc, f, po, rfl⟩ | ⟨k0, c, rfl⟩
  · have g := st_end (r := r) (h' := hup hc 47 0 r) A ((f.mon (by decide)).up (by decide)) (Or.inl ⟨k0, po⟩)
    rw [hup_s hc 47 0 r]
    exact g
  · exact st_end (r := h1 47 0) A Fr.rf (Or.inr ⟨k0, c⟩)
theorem ck_L_38 : CallOk yX5_sides cX5_sides 2 (some .int) RX5 RL 38 1 := ⟨rfl, ⟨by decide, by decide, by decide +kernel⟩, by decide +kernel, by decide +kernel, by decide +kernel, by decide +kernel, by decide +kernel⟩
def wp_sides (fa : Int) (h : Hp) (k : Int) (h1 : Hp) : Prop := (k = 0 ∧ ∃ (r : Int) (hc : Hp), Fr [] h hc ∧ (fOK h fa ∧ ∃ t n, LdF h t ∧ cntP (LdF h) t.toNat = fa ∧ Per (ph h) t n ∧ r = (n : Nat)) ∧ h1 = hup hc 47 0 r) ∨ (k = 1 ∧ (¬ fOK h fa) ∧ h1 = h)
theorem cl_sides {l : Launch} (hst : l.stackTraces = false) (fa : Int) (h : Hp) (hp : CS h) : CtH l yL_sides cL_sides 4 [(0, 9, 12, 19)] 8 124 [vr 0, vi fa, vr 47] h [47] (fun k h1 => wp_sides fa h k h1) := by
  refine CtH.of rfl rfl (Nat.le_of_ble_eq_true rfl) (fun X C T hl ret av hR => ?_)
  subst hl
  refine g_aload_n 2 C dL_sides_0 rfl ?_
  refine g_iconst C dL_sides_1 inR_0 ?_
  refine g_aload_n 0 C dL_sides_2 rfl ?_
  refine g_iload_n 1 C dL_sides_3 rfl ?_
  refine g_calli (av := [vi fa]) (rest := [vi 0, vr 47]) (r := 0) (ci := 5) (Cn := RX5) (T := TX5) (N := 5) C dL_sides_4 (ct_sides hst fa h hp) ck_L_38 rfl rfl rfl (v1s [fa]) (by decide) (by decide) (by decide) (by decide) ?_ ?_
  · intro E hE
    obtain ⟨c, rfl⟩ := hE
    refine g_catch_n C T (fun args s w1 w2 w3 => ⟨by decide, by decide, by decide, "java/lang/IndexOutOfBoundsException", w1 _ (by decide +kernel), Or.inl ⟨w2 _ (by decide +kernel), rfl⟩⟩) dL_sides_12 (by decide) (aL_ne (Nat.le_of_ble_eq_true rfl)) ?_
    refine g_iconst C dL_sides_13 inR_1 ?_
    exact ret _ _ _ _ _ dL_sides_14 (by decide) Fr.rf (Or.inr (⟨rfl, c, rfl⟩))
  · intro r' h' f' rh ir po
    refine g_i2l C dL_sides_7 ?_
    refine g_lastore (r := 47) (N := 1) C dL_sides_8 rfl (by decide) ?_
    refine g_goto (tgt := 15) C dL_sides_9 rfl ?_
    refine g_iconst C dL_sides_15 inR_0 ?_
    exact ret _ _ _ _ _ dL_sides_16 (by decide) ((f'.mon (by decide)).up (by decide)) (Or.inl ⟨rfl, r', h', f', po, rfl⟩)
theorem ot_sides {h h1 : Hp} {fa : Int} {k : Int} (A : ALL h) (w : wp_sides fa h k h1) : Sy h1 ∧ Same h1 [30, 37] (fun b h2 => q_msides fa h1 b h2) k (h1 47 0) := by
  rcases w with ⟨k0, r, hc, f, po, rfl⟩ | ⟨k0, c, rfl⟩
  · have g := st_sides (r := r) (h' := hup hc 47 0 r) A ((f.mon (by decide)).up (by decide)) (Or.inl ⟨k0, po⟩)
    rw [hup_s hc 47 0 r]
    exact g
  · exact st_sides (r := h1 47 0) A Fr.rf (Or.inr ⟨k0, c⟩)
theorem ck_L_41 : CallOk yX5_from cX5_from 5 (some .int) RX5 RL 41 2 := ⟨rfl, ⟨by decide, by decide, by decide +kernel⟩, by decide +kernel, by decide +kernel, by decide +kernel, by decide +kernel, by decide +kernel⟩
def wp_from (fa : Int) (p : Int) (h : Hp) (k : Int) (h1 : Hp) : Prop := (k = 0 ∧ ∃ (r : Int) (hc : Hp), Fr [] h hc ∧ (frOK h fa p r) ∧ h1 = hup hc 47 0 r) ∨ (k = 1 ∧ (frNo h fa p) ∧ h1 = h)
theorem cl_from {l : Launch} (hst : l.stackTraces = false) (fa : Int) (p : Int) (h : Hp) (hp : CS h) : CtH l yL_from cL_from 5 [(0, 10, 13, 19)] 8 127 [vr 0, vi fa, vi p, vr 47] h [47] (fun k h1 => wp_from fa p h k h1) := by
  refine CtH.of rfl rfl (Nat.le_of_ble_eq_true rfl) (fun X C T hl ret av hR => ?_)
  subst hl
  refine g_aload_n 3 C dL_from_0 rfl ?_
  refine g_iconst C dL_from_1 inR_0 ?_
  refine g_aload_n 0 C dL_from_2 rfl ?_
  refine g_iload_n 1 C dL_from_3 rfl ?_
  refine g_iload_n 2 C dL_from_4 rfl ?_
  refine g_calli (av := [vi fa, vi p]) (rest := [vi 0, vr 47]) (r := 0) (ci := 5) (Cn := RX5) (T := TX5) (N := 5) C dL_from_5 (ct_from hst fa p h hp) ck_L_41 rfl rfl rfl (v1s [fa, p]) (by decide) (by decide) (by decide) (by decide) ?_ ?_
  · intro E hE
    obtain ⟨c, rfl⟩ := hE
    refine g_catch C T (fun args s w1 w2 w3 => ⟨by decide, by decide, by decide, "java/lang/IndexOutOfBoundsException", w1 _ (by decide +kernel), Or.inl ⟨w2 _ (by decide +kernel), rfl⟩⟩) dL_from_13 (by decide) (aL_ne (Nat.le_of_ble_eq_true rfl)) ?_
    refine g_iconst C dL_from_15 inR_1 ?_
    exact ret _ _ _ _ _ dL_from_16 (by decide) Fr.rf (Or.inr (⟨rfl, c, rfl⟩))
  · intro r' h' f' rh ir po
    refine g_i2l C dL_from_8 ?_
    refine g_lastore (r := 47) (N := 1) C dL_from_9 rfl (by decide) ?_
    refine g_goto (tgt := 17) C dL_from_10 rfl ?_
    refine g_iconst C dL_from_17 inR_0 ?_
    exact ret _ _ _ _ _ dL_from_18 (by decide) ((f'.mon (by decide)).up (by decide)) (Or.inl ⟨rfl, r', h', f', po, rfl⟩)
theorem ot_from {h h1 : Hp} {fa p : Int} {k : Int} (A : ALL h) (w : wp_from fa p h k h1) : Sy h1 ∧ Same h1 [30, 37] (fun b h2 => q_mfrom fa p h1 b h2) k (h1 47 0) := by
  rcases w with ⟨k0, r, hc, f, po, rfl⟩ | ⟨k0, c, rfl⟩
  · have g := st_from (r := r) (h' := hup hc 47 0 r) A ((f.mon (by decide)).up (by decide)) (Or.inl ⟨k0, po⟩)
    rw [hup_s hc 47 0 r]
    exact g
  · exact st_from (r := h1 47 0) A Fr.rf (Or.inr ⟨k0, c⟩)
theorem ck_L_44 : CallOk yX5_colour cX5_colour 1 (some .int) RX5 RL 44 0 := ⟨rfl, ⟨by decide, by decide, by decide +kernel⟩, by decide +kernel, by decide +kernel, by decide +kernel, by decide +kernel, by decide +kernel⟩
def wp_colour (h : Hp) (k : Int) (h1 : Hp) : Prop := (k = 0 ∧ ∃ (r : Int) (hc : Hp), Fr [4, 20, 21, 22, 23, 24, 25] h hc ∧ (q_colour h r hc) ∧ h1 = hup hc 47 0 r) ∨ (k = 1 ∧ (gnF h ≠ 0) ∧ h1 = h)
theorem cl_colour {l : Launch} (hst : l.stackTraces = false) (h : Hp) (hp : CS h) : CtH l yL_colour cL_colour 3 [(0, 8, 11, 47)] 8 159 [vr 0, vr 47] h [4, 20, 21, 22, 23, 24, 25, 47] (fun k h1 => wp_colour h k h1) := by
  refine CtH.of rfl rfl (Nat.le_of_ble_eq_true rfl) (fun X C T hl ret av hR => ?_)
  subst hl
  refine g_aload_n 1 C dL_colour_0 rfl ?_
  refine g_iconst C dL_colour_1 inR_0 ?_
  refine g_aload_n 0 C dL_colour_2 rfl ?_
  refine g_calli (av := []) (rest := [vi 0, vr 47]) (r := 0) (ci := 5) (Cn := RX5) (T := TX5) (N := 5) C dL_colour_3 (ct_colour hst h hp) ck_L_44 rfl rfl rfl (v1s []) (by decide) (by decide) (by decide) (by decide) ?_ ?_
  · intro E hE
    obtain ⟨c, rfl⟩ := hE
    refine g_catch_n C T (fun args s w1 w2 w3 => ⟨by decide, by decide, by decide, "java/lang/IllegalStateException", w1 _ (by decide +kernel), Or.inl ⟨w2 _ (by decide +kernel), rfl⟩⟩) dL_colour_11 (by decide) (aL_ne (Nat.le_of_ble_eq_true rfl)) ?_
    refine g_iconst C dL_colour_12 inR_1 ?_
    exact ret _ _ _ _ _ dL_colour_13 (by decide) Fr.rf (Or.inr (⟨rfl, c, rfl⟩))
  · intro r' h' f' rh ir po
    refine g_i2l C dL_colour_6 ?_
    refine g_lastore (r := 47) (N := 1) C dL_colour_7 rfl (by decide) ?_
    refine g_goto (tgt := 14) C dL_colour_8 rfl ?_
    refine g_iconst C dL_colour_14 inR_0 ?_
    exact ret _ _ _ _ _ dL_colour_15 (by decide) ((f'.mon (by decide)).up (by decide)) (Or.inl ⟨rfl, r', h', f', po, rfl⟩)
theorem ot_colour {h h1 : Hp} {k : Int} (A : ALL h) (w : wp_colour h k h1) : p_mcolour h1 ∧ Same h1 [30, 36, 37, 38, 39, 40, 41, 42, 43] (fun x h2 => q_mcolour h1 x h2) k (h1 47 0) := by
  rcases w with ⟨k0, r, hc, f, po, rfl⟩ | ⟨k0, c, rfl⟩
  · have g := st_colour (r := r) (h' := hup hc 47 0 r) A f (Or.inl ⟨k0, po, rfl⟩)
    rw [hup_s hc 47 0 r]
    exact g
  · exact st_colour (hc := h1) (r := h1 47 0) A Fr.rf (Or.inr ⟨k0, c, rfl⟩)
theorem ck_L_49 : CallOk yX5_colourOf cX5_colourOf 2 (some .int) RX5 RL 49 1 := ⟨rfl, ⟨by decide, by decide, by decide +kernel⟩, by decide +kernel, by decide +kernel, by decide +kernel, by decide +kernel, by decide +kernel⟩
def wp_colourOf (v : Int) (h : Hp) (k : Int) (h1 : Hp) : Prop := (k = 0 ∧ ∃ (r : Int) (hc : Hp), Fr [] h hc ∧ (vOK h v ∧ r = nc h 20 v) ∧ h1 = hup hc 47 0 r) ∨ (k = 1 ∧ (¬ vOK h v) ∧ h1 = h)
theorem cl_colourOf {l : Launch} (hst : l.stackTraces = false) (v : Int) (h : Hp) (hp : CS h) : CtH l yL_colourOf cL_colourOf 4 [(0, 9, 12, 19)] 8 124 [vr 0, vi v, vr 47] h [47] (fun k h1 => wp_colourOf v h k h1) := by
  refine CtH.of rfl rfl (Nat.le_of_ble_eq_true rfl) (fun X C T hl ret av hR => ?_)
  subst hl
  refine g_aload_n 2 C dL_colourOf_0 rfl ?_
  refine g_iconst C dL_colourOf_1 inR_0 ?_
  refine g_aload_n 0 C dL_colourOf_2 rfl ?_
  refine g_iload_n 1 C dL_colourOf_3 rfl ?_
  refine g_calli (av := [vi v]) (rest := [vi 0, vr 47]) (r := 0) (ci := 5) (Cn := RX5) (T := TX5) (N := 5) C dL_colourOf_4 (ct_colourOf hst v h hp) ck_L_49 rfl rfl rfl (v1s [v]) (by decide) (by decide) (by decide) (by decide) ?_ ?_
  · intro E hE
    obtain ⟨c, rfl⟩ := hE
    refine g_catch_n C T (fun args s w1 w2 w3 => ⟨by decide, by decide, by decide, "java/lang/IndexOutOfBoundsException", w1 _ (by decide +kernel), Or.inl ⟨w2 _ (by decide +kernel), rfl⟩⟩) dL_colourOf_12 (by decide) (aL_ne (Nat.le_of_ble_eq_true rfl)) ?_
    refine g_iconst C dL_colourOf_13 inR_1 ?_
    exact ret _ _ _ _ _ dL_colourOf_14 (by decide) Fr.rf (Or.inr (⟨rfl, c, rfl⟩))
  · intro r' h' f' rh ir po
    refine g_i2l C dL_colourOf_7 ?_
    refine g_lastore (r := 47) (N := 1) C dL_colourOf_8 rfl (by decide) ?_
    refine g_goto (tgt := 15) C dL_colourOf_9 rfl ?_
    refine g_iconst C dL_colourOf_15 inR_0 ?_
    exact ret _ _ _ _ _ dL_colourOf_16 (by decide) ((f'.mon (by decide)).up (by decide)) (Or.inl ⟨rfl, r', h', f', po, rfl⟩)
theorem ot_colourOf {h h1 : Hp} {v : Int} {k : Int} (A : ALL h) (w : wp_colourOf v h k h1) : p_v30 h1 ∧ Same h1 [30] (fun b h2 => Look (isV h1 v) h1 (h1 36 v) b h2) k (h1 47 0) := by
  rcases w with ⟨k0, r, hc, f, po, rfl⟩ | ⟨k0, c, rfl⟩
  · have g := st_colourOf (r := r) (h' := hup hc 47 0 r) A ((f.mon (by decide)).up (by decide)) (Or.inl ⟨k0, po⟩)
    rw [hup_s hc 47 0 r]
    exact g
  · exact st_colourOf (r := h1 47 0) A Fr.rf (Or.inr ⟨k0, c⟩)
theorem ck_L_52 : CallOk yX5_exchange cX5_exchange 4 (some .int) RX5 RL 52 2 := ⟨rfl, ⟨by decide, by decide, by decide +kernel⟩, by decide +kernel, by decide +kernel, by decide +kernel, by decide +kernel, by decide +kernel⟩
def wp_exchange (v : Int) (y : Int) (h : Hp) (k : Int) (h1 : Hp) : Prop := (k = 0 ∧ ∃ (r : Int) (hc : Hp), Fr [4, 20, 24, 25] h hc ∧ (q_exch v y h r hc) ∧ h1 = hup hc 47 0 r) ∨ (k = 1 ∧ (¬ vOK h v) ∧ h1 = h) ∨ (k = 2 ∧ (vOK h v ∧ ¬ XC h (nc h 20) v y) ∧ h1 = h)
theorem cl_exchange {l : Launch} (hst : l.stackTraces = false) (v : Int) (y : Int) (h : Hp) (hp : CS h) : CtH l yL_exchange cL_exchange 5 [(0, 10, 13, 19), (0, 10, 17, 21)] 8 126 [vr 0, vi v, vi y, vr 47] h [4, 20, 24, 25, 47] (fun k h1 => wp_exchange v y h k h1) := by
  refine CtH.of rfl rfl (Nat.le_of_ble_eq_true rfl) (fun X C T hl ret av hR => ?_)
  subst hl
  refine g_aload_n 3 C dL_exchange_0 rfl ?_
  refine g_iconst C dL_exchange_1 inR_0 ?_
  refine g_aload_n 0 C dL_exchange_2 rfl ?_
  refine g_iload_n 1 C dL_exchange_3 rfl ?_
  refine g_iload_n 2 C dL_exchange_4 rfl ?_
  refine g_calli (av := [vi v, vi y]) (rest := [vi 0, vr 47]) (r := 0) (ci := 5) (Cn := RX5) (T := TX5) (N := 5) C dL_exchange_5 (ct_exch hst v y h hp) ck_L_52 rfl rfl rfl (v1s [v, y]) (by decide) (by decide) (by decide) (by decide) ?_ ?_
  · intro E hE
    rcases hE with ⟨rfl, c⟩ | ⟨rfl, c⟩
    · refine g_catch C T (fun args s w1 w2 w3 => ⟨by decide, by decide, by decide, "java/lang/IndexOutOfBoundsException", w1 _ (by decide +kernel), Or.inl ⟨w2 _ (by decide +kernel), rfl⟩⟩) dL_exchange_13 (by decide) (aL_ne (Nat.le_of_ble_eq_true rfl)) ?_
      refine g_iconst C dL_exchange_15 inR_1 ?_
      exact ret _ _ _ _ _ dL_exchange_16 (by decide) Fr.rf (Or.inr (Or.inl ⟨rfl, c, rfl⟩))
    · refine g_catch C T (fun args s w1 w2 w3 => ⟨by decide, by decide, by decide, "java/lang/IndexOutOfBoundsException", w1 _ (by decide +kernel), Or.inr ⟨w3 ("java/lang/IllegalArgumentException", "java/lang/IndexOutOfBoundsException") (by decide +kernel), ⟨by decide, by decide, by decide, "java/lang/IllegalArgumentException", w1 _ (by decide +kernel), Or.inl ⟨w2 _ (by decide +kernel), rfl⟩⟩⟩⟩) dL_exchange_17 (by decide) (aL_ne (Nat.le_of_ble_eq_true rfl)) ?_
      refine g_iconst C dL_exchange_19 inR_2 ?_
      exact ret _ _ _ _ _ dL_exchange_20 (by decide) Fr.rf (Or.inr (Or.inr (⟨rfl, c, rfl⟩)))
  · intro r' h' f' rh ir po
    refine g_i2l C dL_exchange_8 ?_
    refine g_lastore (r := 47) (N := 1) C dL_exchange_9 rfl (by decide) ?_
    refine g_goto (tgt := 21) C dL_exchange_10 rfl ?_
    refine g_iconst C dL_exchange_21 inR_0 ?_
    exact ret _ _ _ _ _ dL_exchange_22 (by decide) ((f'.mon (by decide)).up (by decide)) (Or.inl ⟨rfl, r', h', f', po, rfl⟩)
theorem ot_exchange {h h1 : Hp} {v y : Int} {k : Int} (A : ALL h) (w : wp_exchange v y h k h1) : p_mexch v y h1 ∧ Same h1 [30, 36, 40, 42, 43] (fun x h2 => q_mexch v y h1 x h2) k (h1 47 0) := by
  rcases w with ⟨k0, r, hc, f, po, rfl⟩ | ⟨k0, c, rfl⟩ | ⟨k0, c, rfl⟩
  · have g := st_exch (r := r) (h' := hup hc 47 0 r) A f (Or.inl ⟨k0, po, rfl⟩)
    rw [hup_s hc 47 0 r]
    exact g
  · exact st_exch (hc := h1) (r := h1 47 0) A Fr.rf (Or.inr (Or.inl ⟨k0, c, rfl⟩))
  · exact st_exch (hc := h1) (r := h1 47 0) A Fr.rf (Or.inr (Or.inr ⟨k0, c.1, c.2, rfl⟩))
theorem ck_L_55 : CallOk yX5_above cX5_above 2 (some .int) RX5 RL 55 1 := ⟨rfl, ⟨by decide, by decide, by decide +kernel⟩, by decide +kernel, by decide +kernel, by decide +kernel, by decide +kernel, by decide +kernel⟩
def wp_above (v : Int) (h : Hp) (k : Int) (h1 : Hp) : Prop := (k = 0 ∧ ∃ (r : Int) (hc : Hp), Fr [] h hc ∧ (vOK h v ∧ r = tr h 15 v) ∧ h1 = hup hc 47 0 r) ∨ (k = 1 ∧ (¬ vOK h v) ∧ h1 = h)
theorem cl_above {l : Launch} (hst : l.stackTraces = false) (v : Int) (h : Hp) (hp : CS h) : CtH l yL_above cL_above 4 [(0, 9, 12, 19)] 8 124 [vr 0, vi v, vr 47] h [47] (fun k h1 => wp_above v h k h1) := by
  refine CtH.of rfl rfl (Nat.le_of_ble_eq_true rfl) (fun X C T hl ret av hR => ?_)
  subst hl
  refine g_aload_n 2 C dL_above_0 rfl ?_
  refine g_iconst C dL_above_1 inR_0 ?_
  refine g_aload_n 0 C dL_above_2 rfl ?_
  refine g_iload_n 1 C dL_above_3 rfl ?_
  refine g_calli (av := [vi v]) (rest := [vi 0, vr 47]) (r := 0) (ci := 5) (Cn := RX5) (T := TX5) (N := 5) C dL_above_4 (ct_above hst v h hp) ck_L_55 rfl rfl rfl (v1s [v]) (by decide) (by decide) (by decide) (by decide) ?_ ?_
  · intro E hE
    obtain ⟨c, rfl⟩ := hE
    refine g_catch_n C T (fun args s w1 w2 w3 => ⟨by decide, by decide, by decide, "java/lang/IndexOutOfBoundsException", w1 _ (by decide +kernel), Or.inl ⟨w2 _ (by decide +kernel), rfl⟩⟩) dL_above_12 (by decide) (aL_ne (Nat.le_of_ble_eq_true rfl)) ?_
    refine g_iconst C dL_above_13 inR_1 ?_
    exact ret _ _ _ _ _ dL_above_14 (by decide) Fr.rf (Or.inr (⟨rfl, c, rfl⟩))
  · intro r' h' f' rh ir po
    refine g_i2l C dL_above_7 ?_
    refine g_lastore (r := 47) (N := 1) C dL_above_8 rfl (by decide) ?_
    refine g_goto (tgt := 15) C dL_above_9 rfl ?_
    refine g_iconst C dL_above_15 inR_0 ?_
    exact ret _ _ _ _ _ dL_above_16 (by decide) ((f'.mon (by decide)).up (by decide)) (Or.inl ⟨rfl, r', h', f', po, rfl⟩)
theorem ot_above {h h1 : Hp} {v : Int} {k : Int} (A : ALL h) (w : wp_above v h k h1) : Sy h1 ∧ Same h1 [30, 38, 39, 40] (fun b h2 => q_mabove v h1 b h2) k (h1 47 0) := by
  rcases w with ⟨k0, r, hc, f, po, rfl⟩ | ⟨k0, c, rfl⟩
  · have g := st_above (r := r) (h' := hup hc 47 0 r) A ((f.mon (by decide)).up (by decide)) (Or.inl ⟨k0, po⟩)
    rw [hup_s hc 47 0 r]
    exact g
  · exact st_above (r := h1 47 0) A Fr.rf (Or.inr ⟨k0, c⟩)
theorem ck_L_58 : CallOk yX5_cycle cX5_cycle 2 (some .int) RX5 RL 58 1 := ⟨rfl, ⟨by decide, by decide, by decide +kernel⟩, by decide +kernel, by decide +kernel, by decide +kernel, by decide +kernel, by decide +kernel⟩
def wp_cycle (e : Int) (h : Hp) (k : Int) (h1 : Hp) : Prop := (k = 0 ∧ ∃ (r : Int) (hc : Hp), Fr [5, 26, 27] h hc ∧ (eOK h e ∧ ((inT h e ∧ r = 0) ∨ (¬ inT h e ∧ r = (cyV h e).length))) ∧ h1 = hup hc 47 0 r) ∨ (k = 1 ∧ (¬ eOK h e) ∧ h1 = h)
theorem cl_cycle {l : Launch} (hst : l.stackTraces = false) (e : Int) (h : Hp) (hp : CS h) : CtH l yL_cycle cL_cycle 4 [(0, 9, 12, 19)] 8 124 [vr 0, vi e, vr 47] h [5, 26, 27, 47] (fun k h1 => wp_cycle e h k h1) := by
  refine CtH.of rfl rfl (Nat.le_of_ble_eq_true rfl) (fun X C T hl ret av hR => ?_)
  subst hl
  refine g_aload_n 2 C dL_cycle_0 rfl ?_
  refine g_iconst C dL_cycle_1 inR_0 ?_
  refine g_aload_n 0 C dL_cycle_2 rfl ?_
  refine g_iload_n 1 C dL_cycle_3 rfl ?_
  refine g_calli (av := [vi e]) (rest := [vi 0, vr 47]) (r := 0) (ci := 5) (Cn := RX5) (T := TX5) (N := 5) C dL_cycle_4 (ct_cycle hst e h hp) ck_L_58 rfl rfl rfl (v1s [e]) (by decide) (by decide) (by decide) (by decide) ?_ ?_
  · intro E hE
    obtain ⟨c, rfl⟩ := hE
    refine g_catch_n C T (fun args s w1 w2 w3 => ⟨by decide, by decide, by decide, "java/lang/IndexOutOfBoundsException", w1 _ (by decide +kernel), Or.inl ⟨w2 _ (by decide +kernel), rfl⟩⟩) dL_cycle_12 (by decide) (aL_ne (Nat.le_of_ble_eq_true rfl)) ?_
    refine g_iconst C dL_cycle_13 inR_1 ?_
    exact ret _ _ _ _ _ dL_cycle_14 (by decide) Fr.rf (Or.inr (⟨rfl, c, rfl⟩))
  · intro r' h' f' rh ir po
    refine g_i2l C dL_cycle_7 ?_
    refine g_lastore (r := 47) (N := 1) C dL_cycle_8 rfl (by decide) ?_
    refine g_goto (tgt := 15) C dL_cycle_9 rfl ?_
    refine g_iconst C dL_cycle_15 inR_0 ?_
    exact ret _ _ _ _ _ dL_cycle_16 (by decide) ((f'.mon (by decide)).up (by decide)) (Or.inl ⟨rfl, r', h', f', po, rfl⟩)
theorem ot_cycle {h h1 : Hp} {e : Int} {k : Int} (A : ALL h) (w : wp_cycle e h k h1) : Sy h1 ∧ Same h1 [30, 38, 39, 40, 44, 45] (fun b h2 => q_mcycle e h1 b h2) k (h1 47 0) := by
  rcases w with ⟨k0, r, hc, f, po, rfl⟩ | ⟨k0, c, rfl⟩
  · have g := st_cycle (r := r) (h' := hup hc 47 0 r) A ((f.mon (by decide)).up (by decide)) (Or.inl ⟨k0, po⟩)
    rw [hup_s hc 47 0 r]
    exact g
  · exact st_cycle (r := h1 47 0) A Fr.rf (Or.inr ⟨k0, c⟩)
theorem ck_L_61 : CallOk yX5_side cX5_side 3 (some .int) RX5 RL 61 2 := ⟨rfl, ⟨by decide, by decide, by decide +kernel⟩, by decide +kernel, by decide +kernel, by decide +kernel, by decide +kernel, by decide +kernel⟩
def wp_side (e : Int) (b0 : Int) (h : Hp) (k : Int) (h1 : Hp) : Prop := (k = 0 ∧ ∃ (r : Int) (hc : Hp), Fr [5, 26, 27, 28, 29] h hc ∧ (q_side e b0 h r) ∧ h1 = hup hc 47 0 r) ∨ (k = 1 ∧ (¬ eOK h e) ∧ h1 = h) ∨ (k = 2 ∧ (eOK h e ∧ gnF h ≠ 0) ∧ h1 = h)
theorem cl_side {l : Launch} (hst : l.stackTraces = false) (e : Int) (b0 : Int) (h : Hp) (hp : CS h) : CtH l yL_side cL_side 5 [(0, 10, 13, 19), (0, 10, 17, 47)] 8 125 [vr 0, vi e, vi b0, vr 47] h [5, 26, 27, 28, 29, 47] (fun k h1 => wp_side e b0 h k h1) := by
  refine CtH.of rfl rfl (Nat.le_of_ble_eq_true rfl) (fun X C T hl ret av hR => ?_)
  subst hl
  refine g_aload_n 3 C dL_side_0 rfl ?_
  refine g_iconst C dL_side_1 inR_0 ?_
  refine g_aload_n 0 C dL_side_2 rfl ?_
  refine g_iload_n 1 C dL_side_3 rfl ?_
  refine g_iload_n 2 C dL_side_4 rfl ?_
  refine g_calli (av := [vi e, vi b0]) (rest := [vi 0, vr 47]) (r := 0) (ci := 5) (Cn := RX5) (T := TX5) (N := 5) C dL_side_5 (ct_side hst e b0 h hp) ck_L_61 rfl rfl rfl (v1s [e, b0]) (by decide) (by decide) (by decide) (by decide) ?_ ?_
  · intro E hE
    rcases hE with ⟨rfl, c⟩ | ⟨rfl, c⟩
    · refine g_catch C T (fun args s w1 w2 w3 => ⟨by decide, by decide, by decide, "java/lang/IndexOutOfBoundsException", w1 _ (by decide +kernel), Or.inl ⟨w2 _ (by decide +kernel), rfl⟩⟩) dL_side_13 (by decide) (aL_ne (Nat.le_of_ble_eq_true rfl)) ?_
      refine g_iconst C dL_side_15 inR_1 ?_
      exact ret _ _ _ _ _ dL_side_16 (by decide) Fr.rf (Or.inr (Or.inl ⟨rfl, c, rfl⟩))
    · refine g_catch C T (fun args s w1 w2 w3 => ⟨by decide, by decide, by decide, "java/lang/IndexOutOfBoundsException", w1 _ (by decide +kernel), Or.inr ⟨w3 ("java/lang/IllegalStateException", "java/lang/IndexOutOfBoundsException") (by decide +kernel), ⟨by decide, by decide, by decide, "java/lang/IllegalStateException", w1 _ (by decide +kernel), Or.inl ⟨w2 _ (by decide +kernel), rfl⟩⟩⟩⟩) dL_side_17 (by decide) (aL_ne (Nat.le_of_ble_eq_true rfl)) ?_
      refine g_iconst C dL_side_19 inR_2 ?_
      exact ret _ _ _ _ _ dL_side_20 (by decide) Fr.rf (Or.inr (Or.inr (⟨rfl, c, rfl⟩)))
  · intro r' h' f' rh ir po
    refine g_i2l C dL_side_8 ?_
    refine g_lastore (r := 47) (N := 1) C dL_side_9 rfl (by decide) ?_
    refine g_goto (tgt := 21) C dL_side_10 rfl ?_
    refine g_iconst C dL_side_21 inR_0 ?_
    exact ret _ _ _ _ _ dL_side_22 (by decide) ((f'.mon (by decide)).up (by decide)) (Or.inl ⟨rfl, r', h', f', po, rfl⟩)
theorem ot_side {h h1 : Hp} {e b0 : Int} {k : Int} (A : ALL h) (hb : b0 = 0 ∨ b0 = 1) (w : wp_side e b0 h k h1) : p_mside e b0 h1 ∧ Same h1 [30, 37, 38, 39, 40, 44, 45, 46] (fun b h2 => q_mside e b0 h1 b h2) k (h1 47 0) := by
  rcases w with ⟨k0, r, hc, f, po, rfl⟩ | ⟨k0, c, rfl⟩ | ⟨k0, c, rfl⟩
  · have g := st_side (r := r) (h' := hup hc 47 0 r) A hb ((f.mon (by decide)).up (by decide)) (Or.inl ⟨k0, po⟩)
    rw [hup_s hc 47 0 r]
    exact g
  · exact st_side (r := h1 47 0) A hb Fr.rf (Or.inr (Or.inl ⟨k0, c⟩))
  · exact st_side (r := h1 47 0) A hb Fr.rf (Or.inr (Or.inr ⟨k0, c.1, c.2⟩))
theorem ck_L_64 : CallOk yX5_best cX5_best 7 (some .int) RX5 RL 64 0 := ⟨rfl, ⟨by decide, by decide, by decide +kernel⟩, by decide +kernel, by decide +kernel, by decide +kernel, by decide +kernel, by decide +kernel⟩
def wp_best (h : Hp) (k : Int) (h1 : Hp) : Prop := (k = 0 ∧ ∃ (r : Int) (hc : Hp), Fr [5, 26, 27, 28, 29] h hc ∧ (q_best h r) ∧ h1 = hup hc 47 0 r) ∨ (k = 1 ∧ (gnF h ≠ 0) ∧ h1 = h)
theorem cl_best {l : Launch} (hst : l.stackTraces = false) (h : Hp) (hp : CS h) : CtH l yL_best cL_best 3 [(0, 8, 11, 47)] 8 128 [vr 0, vr 47] h [5, 26, 27, 28, 29, 47] (fun k h1 => wp_best h k h1) := by
  refine CtH.of rfl rfl (Nat.le_of_ble_eq_true rfl) (fun X C T hl ret av hR => ?_)
  subst hl
  refine g_aload_n 1 C dL_best_0 rfl ?_
  refine g_iconst C dL_best_1 inR_0 ?_
  refine g_aload_n 0 C dL_best_2 rfl ?_
  refine g_calli (av := []) (rest := [vi 0, vr 47]) (r := 0) (ci := 5) (Cn := RX5) (T := TX5) (N := 5) C dL_best_3 (ct_best hst h hp) ck_L_64 rfl rfl rfl (v1s []) (by decide) (by decide) (by decide) (by decide) ?_ ?_
  · intro E hE
    obtain ⟨c, rfl⟩ := hE
    refine g_catch_n C T (fun args s w1 w2 w3 => ⟨by decide, by decide, by decide, "java/lang/IllegalStateException", w1 _ (by decide +kernel), Or.inl ⟨w2 _ (by decide +kernel), rfl⟩⟩) dL_best_11 (by decide) (aL_ne (Nat.le_of_ble_eq_true rfl)) ?_
    refine g_iconst C dL_best_12 inR_1 ?_
    exact ret _ _ _ _ _ dL_best_13 (by decide) Fr.rf (Or.inr (⟨rfl, c, rfl⟩))
  · intro r' h' f' rh ir po
    refine g_i2l C dL_best_6 ?_
    refine g_lastore (r := 47) (N := 1) C dL_best_7 rfl (by decide) ?_
    refine g_goto (tgt := 14) C dL_best_8 rfl ?_
    refine g_iconst C dL_best_14 inR_0 ?_
    exact ret _ _ _ _ _ dL_best_15 (by decide) ((f'.mon (by decide)).up (by decide)) (Or.inl ⟨rfl, r', h', f', po, rfl⟩)
theorem ot_best {h h1 : Hp} {k : Int} (A : ALL h) (w : wp_best h k h1) : Sy h1 ∧ Same h1 [30, 37, 38, 39, 40, 44, 45, 46] (fun b h2 => q_mbest h1 b h2) k (h1 47 0) := by
  rcases w with ⟨k0, r, hc, f, po, rfl⟩ | ⟨k0, c, rfl⟩
  · have g := st_best (r := r) (h' := hup hc 47 0 r) A ((f.mon (by decide)).up (by decide)) (Or.inl ⟨k0, po⟩)
    rw [hup_s hc 47 0 r]
    exact g
  · exact st_best (r := h1 47 0) A Fr.rf (Or.inr ⟨k0, c⟩)

def V_X5_vertex (P : Int → Hp → Prop) (Px : String → Prop) (h0 : Hp) (mc : Nat) (p_X2_addVertex : Hp → Prop) (q_X2_addVertex : Hp → Int → Hp → Prop) (p_X5_surveyAgain : Hp → Prop) (q_X5_surveyAgain : Hp → Hp → Prop) : Prop :=
  ((h0 1 6) < 30 → p_X2_addVertex h0 ∧ (∀ (r3 : Int) (h4 : Hp), Fr [1, 10, 11] h0 h4 → RH h4 → InR r3 → q_X2_addVertex h0 r3 h4 → (∀ z5 : Int, z5 = r3 → (((0 : Int) ≤ z5 ∧ (z5 : Int) < 30) ∧ (∀ h7 : Hp, h7 = hup h4 20 z5 0 → (p_X5_surveyAgain h7 ∧ (∀ h9 : Hp, Fr [2, 3, 12, 13, 14, 15, 16, 17, 18, 19] h7 h9 → RH h9 → q_X5_surveyAgain h7 h9 → (P z5 h9)))))))) ∧ (¬ (h0 1 6) < 30 → Px "java/lang/UnsupportedOperationException" ∧ h0 = h0 ∧ 1 ≤ mc)
set_option maxHeartbeats 4000000 in
set_option maxRecDepth 100000 in
theorem w_X5_vertex {l : Launch} (P : Int → Hp → Prop) (Px : String → Prop) (h0 : Hp) (mc : Nat) (p_X2_addVertex : Hp → Prop) (q_X2_addVertex : Hp → Int → Hp → Prop) (p_X5_surveyAgain : Hp → Prop) (q_X5_surveyAgain : Hp → Hp → Prop)
    (c_X2_addVertex : ∀ (h : Hp), p_X2_addVertex h → Ct l yX2_addVertex cX2_addVertex 2 (some .int) 0 0 0 [vr 1] h [1, 10, 11] (fun r h1 => q_X2_addVertex h r h1) (fun _ => False))
    (c_X5_surveyAgain : ∀ (h : Hp), p_X5_surveyAgain h → Ct l yX5_surveyAgain cX5_surveyAgain 1 none 4 91 0 [vr 0] h [2, 3, 12, 13, 14, 15, 16, 17, 18, 19] (fun _ h1 => q_X5_surveyAgain h h1) (fun _ => False))
    (hst : l.stackTraces = false)
    (o : RH h0 → V_X5_vertex P Px h0 mc p_X2_addVertex q_X2_addVertex p_X5_surveyAgain q_X5_surveyAgain) :
    Ct l yX5_vertex cX5_vertex 2 (some .int) 6 111 mc [vr 0] h0 [1, 2, 3, 10, 11, 12, 13, 14, 15, 16, 17, 18, 19, 20] P Px := by
  refine Ct.of (own := RX5) (by decide) rfl (Nat.le_of_ble_eq_true rfl) ?_
  intro X C hXl hXM hXh hXP hXX hXc hXr hav hR0
  have hmain : V_X5_vertex P Px h0 mc p_X2_addVertex q_X2_addVertex p_X5_surveyAgain q_X5_surveyAgain := o hR0 
  show Wh X 0 [(0, vr 0)] [] h0 0
  have v := hmain
  unfold V_X5_vertex at v
  refine r_aload_n 0 C dX5_vertex_0 rfl ?_
  refine gf_X5_12 C dX5_vertex_1 ?_
  refine gf_X5_48 C dX5_vertex_4 ?_
  refine r_bipush C dX5_vertex_7 ⟨by decide, by decide⟩ (by decide) ?_
  refine r_icmp_lt (tgt := 22) C dX5_vertex_9 (by decide) (fun c1 => ?_) (fun c1 => ?_)
  · have v := v.1 c1
    refine r_aload_n 0 C dX5_vertex_22 rfl ?_
    refine gf_X5_12 C dX5_vertex_23 ?_
    obtain ⟨o2, v⟩ := v
    refine s_calli [] [] C dX5_vertex_26 ck_X5_59 (r := 1) (fY := 0) (nY := 0) rfl rfl (by decide) (by decide) (Nat.le_of_ble_eq_true rfl) rfl (MY := [1, 10, 11]) hXM (by decide) (by rw [hXl]; exact c_X2_addVertex h0 o2) (fun r3 h4 fr3 kr3 gr3 qr3 => ?_)
    have v := v r3 h4 fr3 kr3 gr3 qr3
    refine s_istore_n C dX5_vertex_29 (by decide) (fun z5 ez5 => ?_)
    have v := v z5 ez5
    show Wh X 30 [(1, vi z5), (0, vr 0)] [] h4 0
    refine r_aload_n 1 C dX5_vertex_30 rfl ?_
    refine gf_X5_35 C dX5_vertex_31 ?_
    refine gf_X5_63 C dX5_vertex_34 ?_
    refine r_iload_n 0 C dX5_vertex_37 rfl ?_
    refine r_iconst C dX5_vertex_38 ⟨by decide, by decide⟩ ?_
    obtain ⟨o6, v⟩ := v
    refine s_iastore (r := 20) (N := 30) C dX5_vertex_39 rfl hXM (by decide) o6 (fun h7 eh7 => ?_)
    have v := v h7 eh7
    refine r_aload_n 1 C dX5_vertex_40 rfl ?_
    obtain ⟨o8, v⟩ := v
    refine s_callv [] [] C dX5_vertex_41 ck_X5_67 (r := 0) (fY := 4) (nY := 91) rfl rfl (by decide) (by decide) (Nat.le_of_ble_eq_true rfl) rfl (MY := [2, 3, 12, 13, 14, 15, 16, 17, 18, 19]) hXM (by decide) (by rw [hXl]; exact c_X5_surveyAgain h7 o8) (fun h9 fh9 kh9 qh9 => ?_)
    have v := v h9 fh9 kh9 qh9
    refine r_iload_n 0 C dX5_vertex_44 rfl ?_
    exact r_ireturn C dX5_vertex_45 hXr (Nat.zero_le _) (by rw [hXP]; exact v)
  · have v := v.2 c1
    exact s_throw "no more vertices" C (by rw [hXl]; exact hst) dX5_vertex_12 dX5_vertex_15 dX5_vertex_16 dX5_vertex_18 dX5_vertex_21 tk_52_56 (by decide +kernel) (by decide) (by decide) (by rw [hXX, hXh, hXc]; exact v)

def V_X5_edge_38 (P : Int → Hp → Prop) (Px : String → Prop) (h0 : Hp) (mc : Nat) (p_X5_checkVertex : Int → Hp → Prop) (t_X5_checkVertex : Int → Hp → Prop) (p_X5_checkEdgeOrNone : Int → Hp → Prop) (t_X5_checkEdgeOrNone : Int → Hp → Prop) (p_X2_areJoined : Int → Int → Hp → Prop) (q_X2_areJoined : Int → Int → Hp → Int → Prop) (p_X2_mayFollow : Int → Int → Hp → Prop) (q_X2_mayFollow : Int → Int → Hp → Int → Prop) (p_X2_addEdge : Int → Int → Int → Int → Hp → Prop) (q_X2_addEdge : Int → Int → Int → Int → Hp → Int → Hp → Prop) (p_X0_forget : Hp → Prop) (q_X0_forget : Hp → Hp → Prop) (p_X5_surveyAgain : Hp → Prop) (q_X5_surveyAgain : Hp → Hp → Prop) (h : Hp) : Prop :=
  Px "java/lang/IllegalArgumentException" ∧ h = h0 ∧ 1 ≤ mc
def V_X5_edge_73 (P : Int → Hp → Prop) (Px : String → Prop) (h0 : Hp) (mc : Nat) (p_X5_checkVertex : Int → Hp → Prop) (t_X5_checkVertex : Int → Hp → Prop) (p_X5_checkEdgeOrNone : Int → Hp → Prop) (t_X5_checkEdgeOrNone : Int → Hp → Prop) (p_X2_areJoined : Int → Int → Hp → Prop) (q_X2_areJoined : Int → Int → Hp → Int → Prop) (p_X2_mayFollow : Int → Int → Hp → Prop) (q_X2_mayFollow : Int → Int → Hp → Int → Prop) (p_X2_addEdge : Int → Int → Int → Int → Hp → Prop) (q_X2_addEdge : Int → Int → Int → Int → Hp → Int → Hp → Prop) (p_X0_forget : Hp → Prop) (q_X0_forget : Hp → Hp → Prop) (p_X5_surveyAgain : Hp → Prop) (q_X5_surveyAgain : Hp → Hp → Prop) (h : Hp) : Prop :=
  Px "java/lang/IllegalArgumentException" ∧ h = h0 ∧ 1 ≤ mc
def V_X5_edge (P : Int → Hp → Prop) (Px : String → Prop) (h0 : Hp) (mc : Nat) (p_X5_checkVertex : Int → Hp → Prop) (t_X5_checkVertex : Int → Hp → Prop) (p_X5_checkEdgeOrNone : Int → Hp → Prop) (t_X5_checkEdgeOrNone : Int → Hp → Prop) (p_X2_areJoined : Int → Int → Hp → Prop) (q_X2_areJoined : Int → Int → Hp → Int → Prop) (p_X2_mayFollow : Int → Int → Hp → Prop) (q_X2_mayFollow : Int → Int → Hp → Int → Prop) (p_X2_addEdge : Int → Int → Int → Int → Hp → Prop) (q_X2_addEdge : Int → Int → Int → Int → Hp → Int → Hp → Prop) (p_X0_forget : Hp → Prop) (q_X0_forget : Hp → Hp → Prop) (p_X5_surveyAgain : Hp → Prop) (q_X5_surveyAgain : Hp → Hp → Prop) (a1 : Int) (a2 : Int) (a3 : Int) (a4 : Int) : Prop :=
  p_X5_checkVertex a1 h0 ∧ ((t_X5_checkVertex a1 h0 → Px "java/lang/IndexOutOfBoundsException" ∧ h0 = h0 ∧ 1 ≤ mc) ∧ (¬ t_X5_checkVertex a1 h0 → (p_X5_checkVertex a2 h0 ∧ ((t_X5_checkVertex a2 h0 → Px "java/lang/IndexOutOfBoundsException" ∧ h0 = h0 ∧ 1 ≤ mc) ∧ (¬ t_X5_checkVertex a2 h0 → (p_X5_checkEdgeOrNone a3 h0 ∧ ((t_X5_checkEdgeOrNone a3 h0 → Px "java/lang/IndexOutOfBoundsException" ∧ h0 = h0 ∧ 1 ≤ mc) ∧ (¬ t_X5_checkEdgeOrNone a3 h0 → (p_X5_checkEdgeOrNone a4 h0 ∧ ((t_X5_checkEdgeOrNone a4 h0 → Px "java/lang/IndexOutOfBoundsException" ∧ h0 = h0 ∧ 1 ≤ mc) ∧ (¬ t_X5_checkEdgeOrNone a4 h0 → ((a1 = a2 → V_X5_edge_38 P Px h0 mc p_X5_checkVertex t_X5_checkVertex p_X5_checkEdgeOrNone t_X5_checkEdgeOrNone p_X2_areJoined q_X2_areJoined p_X2_mayFollow q_X2_mayFollow p_X2_addEdge q_X2_addEdge p_X0_forget q_X0_forget p_X5_surveyAgain q_X5_surveyAgain h0) ∧ (¬ a1 = a2 → p_X2_areJoined a1 a2 h0 ∧ (∀ r11 : Int, InR r11 → q_X2_areJoined a1 a2 h0 r11 → ((r11 = 0 → p_X2_mayFollow a1 a3 h0 ∧ (∀ r14 : Int, InR r14 → q_X2_mayFollow a1 a3 h0 r14 → ((r14 = 0 → V_X5_edge_73 P Px h0 mc p_X5_checkVertex t_X5_checkVertex p_X5_checkEdgeOrNone t_X5_checkEdgeOrNone p_X2_areJoined q_X2_areJoined p_X2_mayFollow q_X2_mayFollow p_X2_addEdge q_X2_addEdge p_X0_forget q_X0_forget p_X5_surveyAgain q_X5_surveyAgain h0) ∧ (¬ r14 = 0 → p_X2_mayFollow a2 a4 h0 ∧ (∀ r17 : Int, InR r17 → q_X2_mayFollow a2 a4 h0 r17 → ((¬ r17 = 0 → ((h0 1 7) < 100 → p_X2_addEdge a1 a2 a3 a4 h0 ∧ (∀ (r21 : Int) (h22 : Hp), Fr [1, 6, 7, 8, 9, 10, 11] h0 h22 → RH h22 → InR r21 → q_X2_addEdge a1 a2 a3 a4 h0 r21 h22 → (∀ z23 : Int, z23 = r21 → (p_X0_forget h22 ∧ (∀ h25 : Hp, Fr [4, 20] h22 h25 → RH h25 → q_X0_forget h22 h25 → (p_X5_surveyAgain h25 ∧ (∀ h27 : Hp, Fr [2, 3, 12, 13, 14, 15, 16, 17, 18, 19] h25 h27 → RH h27 → q_X5_surveyAgain h25 h27 → (P z23 h27)))))))) ∧ (¬ (h0 1 7) < 100 → Px "java/lang/UnsupportedOperationException" ∧ h0 = h0 ∧ 1 ≤ mc)) ∧ (r17 = 0 → V_X5_edge_73 P Px h0 mc p_X5_checkVertex t_X5_checkVertex p_X5_checkEdgeOrNone t_X5_checkEdgeOrNone p_X2_areJoined q_X2_areJoined p_X2_mayFollow q_X2_mayFollow p_X2_addEdge q_X2_addEdge p_X0_forget q_X0_forget p_X5_surveyAgain q_X5_surveyAgain h0))))))) ∧ (¬ r11 = 0 → V_X5_edge_38 P Px h0 mc p_X5_checkVertex t_X5_checkVertex p_X5_checkEdgeOrNone t_X5_checkEdgeOrNone p_X2_areJoined q_X2_areJoined p_X2_mayFollow q_X2_mayFollow p_X2_addEdge q_X2_addEdge p_X0_forget q_X0_forget p_X5_surveyAgain q_X5_surveyAgain h0))))))))))))))))
set_option maxHeartbeats 4000000 in
set_option maxRecDepth 100000 in
theorem w_X5_edge {l : Launch} (P : Int → Hp → Prop) (Px : String → Prop) (h0 : Hp) (mc : Nat) (p_X5_checkVertex : Int → Hp → Prop) (t_X5_checkVertex : Int → Hp → Prop) (p_X5_checkEdgeOrNone : Int → Hp → Prop) (t_X5_checkEdgeOrNone : Int → Hp → Prop) (p_X2_areJoined : Int → Int → Hp → Prop) (q_X2_areJoined : Int → Int → Hp → Int → Prop) (p_X2_mayFollow : Int → Int → Hp → Prop) (q_X2_mayFollow : Int → Int → Hp → Int → Prop) (p_X2_addEdge : Int → Int → Int → Int → Hp → Prop) (q_X2_addEdge : Int → Int → Int → Int → Hp → Int → Hp → Prop) (p_X0_forget : Hp → Prop) (q_X0_forget : Hp → Hp → Prop) (p_X5_surveyAgain : Hp → Prop) (q_X5_surveyAgain : Hp → Hp → Prop) (a1 : Int) (a2 : Int) (a3 : Int) (a4 : Int)
    (c_X5_checkVertex : ∀ (b1 : Int) (h : Hp) (mc : Nat), p_X5_checkVertex b1 h → (t_X5_checkVertex b1 h → 1 ≤ mc) → Ct l yX5_checkVertex cX5_checkVertex 2 none 6 82 mc [vr 0, vi b1] h [] (fun _ _ => ¬ t_X5_checkVertex b1 h ∧ True) (fun E => t_X5_checkVertex b1 h ∧ E = "java/lang/IndexOutOfBoundsException"))
    (c_X5_checkEdgeOrNone : ∀ (b1 : Int) (h : Hp) (mc : Nat), p_X5_checkEdgeOrNone b1 h → (t_X5_checkEdgeOrNone b1 h → 1 ≤ mc) → Ct l yX5_checkEdgeOrNone cX5_checkEdgeOrNone 2 none 7 103 mc [vr 0, vi b1] h [] (fun _ _ => ¬ t_X5_checkEdgeOrNone b1 h ∧ True) (fun E => t_X5_checkEdgeOrNone b1 h ∧ E = "java/lang/IndexOutOfBoundsException"))
    (c_X2_areJoined : ∀ (b1 : Int) (b2 : Int) (h : Hp), p_X2_areJoined b1 b2 h → Ct l yX2_areJoined cX2_areJoined 5 (some .boolean) 1 21 0 [vr 1, vi b1, vi b2] h [] (fun r _ => q_X2_areJoined b1 b2 h r) (fun _ => False))
    (c_X2_mayFollow : ∀ (b1 : Int) (b2 : Int) (h : Hp), p_X2_mayFollow b1 b2 h → Ct l yX2_mayFollow cX2_mayFollow 3 (some .boolean) 0 0 0 [vr 1, vi b1, vi b2] h [] (fun r _ => q_X2_mayFollow b1 b2 h r) (fun _ => False))
    (c_X2_addEdge : ∀ (b1 : Int) (b2 : Int) (b3 : Int) (b4 : Int) (h : Hp), p_X2_addEdge b1 b2 b3 b4 h → Ct l yX2_addEdge cX2_addEdge 6 (some .int) 2 47 0 [vr 1, vi b1, vi b2, vi b3, vi b4] h [1, 6, 7, 8, 9, 10, 11] (fun r h1 => q_X2_addEdge b1 b2 b3 b4 h r h1) (fun _ => False))
    (c_X0_forget : ∀ (h : Hp), p_X0_forget h → Ct l yX0_forget cX0_forget 2 none 0 0 0 [vr 4] h [4, 20] (fun _ h1 => q_X0_forget h h1) (fun _ => False))
    (c_X5_surveyAgain : ∀ (h : Hp), p_X5_surveyAgain h → Ct l yX5_surveyAgain cX5_surveyAgain 1 none 4 91 0 [vr 0] h [2, 3, 12, 13, 14, 15, 16, 17, 18, 19] (fun _ h1 => q_X5_surveyAgain h h1) (fun _ => False))
    (hst : l.stackTraces = false)
    (o : RH h0 → InR a1 → InR a2 → InR a3 → InR a4 → V_X5_edge P Px h0 mc p_X5_checkVertex t_X5_checkVertex p_X5_checkEdgeOrNone t_X5_checkEdgeOrNone p_X2_areJoined q_X2_areJoined p_X2_mayFollow q_X2_mayFollow p_X2_addEdge q_X2_addEdge p_X0_forget q_X0_forget p_X5_surveyAgain q_X5_surveyAgain a1 a2 a3 a4) :
    Ct l yX5_edge cX5_edge 6 (some .int) 8 124 mc [vr 0, vi a1, vi a2, vi a3, vi a4] h0 [1, 2, 3, 4, 6, 7, 8, 9, 10, 11, 12, 13, 14, 15, 16, 17, 18, 19, 20] P Px := by
  refine Ct.of (own := RX5) (by decide) rfl (Nat.le_of_ble_eq_true rfl) ?_
  intro X C hXl hXM hXh hXP hXX hXc hXr hav hR0
  have hmain : V_X5_edge P Px h0 mc p_X5_checkVertex t_X5_checkVertex p_X5_checkEdgeOrNone t_X5_checkEdgeOrNone p_X2_areJoined q_X2_areJoined p_X2_mayFollow q_X2_mayFollow p_X2_addEdge q_X2_addEdge p_X0_forget q_X0_forget p_X5_surveyAgain q_X5_surveyAgain a1 a2 a3 a4 := o hR0 (hav (vi a1) (by simp)) (hav (vi a2) (by simp)) (hav (vi a3) (by simp)) (hav (vi a4) (by simp))
  have B_38 : ∀ (h : Hp), V_X5_edge_38 P Px h0 mc p_X5_checkVertex t_X5_checkVertex p_X5_checkEdgeOrNone t_X5_checkEdgeOrNone p_X2_areJoined q_X2_areJoined p_X2_mayFollow q_X2_mayFollow p_X2_addEdge q_X2_addEdge p_X0_forget q_X0_forget p_X5_surveyAgain q_X5_surveyAgain h → Wh X 38 [(0, vr 0)] [] h 0 := by
    intro h v
    unfold V_X5_edge_38 at v
    exact s_throw "ends are the same or have an edge" C (by rw [hXl]; exact hst) dX5_edge_38 dX5_edge_41 dX5_edge_42 dX5_edge_44 dX5_edge_47 tk_81_85 (by decide +kernel) (by decide) (by decide) (by rw [hXX, hXh, hXc]; exact v)
  have B_73 : ∀ (h : Hp), V_X5_edge_73 P Px h0 mc p_X5_checkVertex t_X5_checkVertex p_X5_checkEdgeOrNone t_X5_checkEdgeOrNone p_X2_areJoined q_X2_areJoined p_X2_mayFollow q_X2_mayFollow p_X2_addEdge q_X2_addEdge p_X0_forget q_X0_forget p_X5_surveyAgain q_X5_surveyAgain h → Wh X 73 [(0, vr 0)] [] h 0 := by
    intro h v
    unfold V_X5_edge_73 at v
    exact s_throw "the edge before it is not round that end" C (by rw [hXl]; exact hst) dX5_edge_73 dX5_edge_76 dX5_edge_77 dX5_edge_79 dX5_edge_82 tk_81_85 (by decide +kernel) (by decide) (by decide) (by rw [hXX, hXh, hXc]; exact v)
  show Wh X 0 [(0, vr 0), (1, vi a1), (2, vi a2), (3, vi a3), (4, vi a4)] [] h0 0
  have v := hmain
  unfold V_X5_edge at v
  refine r_aload_n 0 C dX5_edge_0 rfl ?_
  refine r_iload_n 1 C dX5_edge_1 rfl ?_
  obtain ⟨o2, v⟩ := v
  refine s_callx (tf := t_X5_checkVertex a1 h0) (E0 := "java/lang/IndexOutOfBoundsException") [a1] [] C dX5_edge_2 ck_X5_70 (r := 0) (fY := 6) (nY := 82) rfl rfl (by decide) (by decide) (Nat.le_of_ble_eq_true rfl) rfl (by rw [hXl]; exact fun mc => c_X5_checkVertex a1 h0 mc o2) (fun z => by rw [hXX, hXh, hXc]; exact v.1 z) (fun o1 _ => ?_)
  have v := v.2 o1
  refine r_aload_n 0 C dX5_edge_5 rfl ?_
  refine r_iload_n 2 C dX5_edge_6 rfl ?_
  obtain ⟨o4, v⟩ := v
  refine s_callx (tf := t_X5_checkVertex a2 h0) (E0 := "java/lang/IndexOutOfBoundsException") [a2] [] C dX5_edge_7 ck_X5_70 (r := 0) (fY := 6) (nY := 82) rfl rfl (by decide) (by decide) (Nat.le_of_ble_eq_true rfl) rfl (by rw [hXl]; exact fun mc => c_X5_checkVertex a2 h0 mc o4) (fun z => by rw [hXX, hXh, hXc]; exact v.1 z) (fun o3 _ => ?_)
  have v := v.2 o3
  refine r_aload_n 0 C dX5_edge_10 rfl ?_
  refine r_iload_n 3 C dX5_edge_11 rfl ?_
  obtain ⟨o6, v⟩ := v
  refine s_callx (tf := t_X5_checkEdgeOrNone a3 h0) (E0 := "java/lang/IndexOutOfBoundsException") [a3] [] C dX5_edge_12 ck_X5_74 (r := 0) (fY := 7) (nY := 103) rfl rfl (by decide) (by decide) (Nat.le_of_ble_eq_true rfl) rfl (by rw [hXl]; exact fun mc => c_X5_checkEdgeOrNone a3 h0 mc o6) (fun z => by rw [hXX, hXh, hXc]; exact v.1 z) (fun o5 _ => ?_)
  have v := v.2 o5
  refine r_aload_n 0 C dX5_edge_15 rfl ?_
  refine r_iload 4 C dX5_edge_16 rfl ?_
  obtain ⟨o8, v⟩ := v
  refine s_callx (tf := t_X5_checkEdgeOrNone a4 h0) (E0 := "java/lang/IndexOutOfBoundsException") [a4] [] C dX5_edge_18 ck_X5_74 (r := 0) (fY := 7) (nY := 103) rfl rfl (by decide) (by decide) (Nat.le_of_ble_eq_true rfl) rfl (by rw [hXl]; exact fun mc => c_X5_checkEdgeOrNone a4 h0 mc o8) (fun z => by rw [hXX, hXh, hXc]; exact v.1 z) (fun o7 _ => ?_)
  have v := v.2 o7
  refine r_iload_n 1 C dX5_edge_21 rfl ?_
  refine r_iload_n 2 C dX5_edge_22 rfl ?_
  refine r_icmp_eq (tgt := 38) C dX5_edge_23 (by decide) (fun c9 => ?_) (fun c9 => ?_)
  · have v := v.1 c9
    exact s_sub [0] rfl (B_38 _ v)
  · have v := v.2 c9
    refine r_aload_n 0 C dX5_edge_26 rfl ?_
    refine gf_X5_12 C dX5_edge_27 ?_
    refine r_iload_n 1 C dX5_edge_30 rfl ?_
    refine r_iload_n 2 C dX5_edge_31 rfl ?_
    obtain ⟨o10, v⟩ := v
    refine s_calli0 [a1, a2] [] C dX5_edge_32 ck_X5_77 (r := 1) (fY := 1) (nY := 21) rfl rfl (by decide) (by decide) (Nat.le_of_ble_eq_true rfl) rfl (by rw [hXl]; exact c_X2_areJoined a1 a2 h0 o10) (fun r11 gr11 qr11 => ?_)
    have v := v r11 gr11 qr11
    refine r_if_eq (tgt := 48) C dX5_edge_35 (by decide) (fun c12 => ?_) (fun c12 => ?_)
    · have v := v.1 c12
      refine r_aload_n 0 C dX5_edge_48 rfl ?_
      refine gf_X5_12 C dX5_edge_49 ?_
      refine r_iload_n 1 C dX5_edge_52 rfl ?_
      refine r_iload_n 3 C dX5_edge_53 rfl ?_
      obtain ⟨o13, v⟩ := v
      refine s_calli0 [a1, a3] [] C dX5_edge_54 ck_X5_86 (r := 1) (fY := 0) (nY := 0) rfl rfl (by decide) (by decide) (Nat.le_of_ble_eq_true rfl) rfl (by rw [hXl]; exact c_X2_mayFollow a1 a3 h0 o13) (fun r14 gr14 qr14 => ?_)
      have v := v r14 gr14 qr14
      refine r_if_eq (tgt := 73) C dX5_edge_57 (by decide) (fun c15 => ?_) (fun c15 => ?_)
      · have v := v.1 c15
        exact s_sub [0] rfl (B_73 _ v)
      · have v := v.2 c15
        refine r_aload_n 0 C dX5_edge_60 rfl ?_
        refine gf_X5_12 C dX5_edge_61 ?_
        refine r_iload_n 2 C dX5_edge_64 rfl ?_
        refine r_iload 4 C dX5_edge_65 rfl ?_
        obtain ⟨o16, v⟩ := v
        refine s_calli0 [a2, a4] [] C dX5_edge_67 ck_X5_86 (r := 1) (fY := 0) (nY := 0) rfl rfl (by decide) (by decide) (Nat.le_of_ble_eq_true rfl) rfl (by rw [hXl]; exact c_X2_mayFollow a2 a4 h0 o16) (fun r17 gr17 qr17 => ?_)
        have v := v r17 gr17 qr17
        refine r_if_ne (tgt := 83) C dX5_edge_70 (by decide) (fun c18 => ?_) (fun c18 => ?_)
        · have v := v.1 c18
          refine r_aload_n 0 C dX5_edge_83 rfl ?_
          refine gf_X5_12 C dX5_edge_84 ?_
          refine gf_X5_91 C dX5_edge_87 ?_
          refine r_bipush C dX5_edge_90 ⟨by decide, by decide⟩ (by decide) ?_
          refine r_icmp_lt (tgt := 105) C dX5_edge_92 (by decide) (fun c19 => ?_) (fun c19 => ?_)
          · have v := v.1 c19
            refine r_aload_n 0 C dX5_edge_105 rfl ?_
            refine gf_X5_12 C dX5_edge_106 ?_
            refine r_iload_n 1 C dX5_edge_109 rfl ?_
            refine r_iload_n 2 C dX5_edge_110 rfl ?_
            refine r_iload_n 3 C dX5_edge_111 rfl ?_
            refine r_iload 4 C dX5_edge_112 rfl ?_
            obtain ⟨o20, v⟩ := v
            refine s_calli [a1, a2, a3, a4] [] C dX5_edge_114 ck_X5_96 (r := 1) (fY := 2) (nY := 47) rfl rfl (by decide) (by decide) (Nat.le_of_ble_eq_true rfl) rfl (MY := [1, 6, 7, 8, 9, 10, 11]) hXM (by decide) (by rw [hXl]; exact c_X2_addEdge a1 a2 a3 a4 h0 o20) (fun r21 h22 fr21 kr21 gr21 qr21 => ?_)
            have v := v r21 h22 fr21 kr21 gr21 qr21
            refine s_istore C dX5_edge_117 (by decide) (fun z23 ez23 => ?_)
            have v := v z23 ez23
            show Wh X 119 [(5, vi z23), (0, vr 0), (1, vi a1), (2, vi a2), (3, vi a3), (4, vi a4)] [] h22 0
            refine r_aload_n 1 C dX5_edge_119 rfl ?_
            refine gf_X5_35 C dX5_edge_120 ?_
            obtain ⟨o24, v⟩ := v
            refine s_callv [] [] C dX5_edge_123 ck_X5_100 (r := 4) (fY := 0) (nY := 0) rfl rfl (by decide) (by decide) (Nat.le_of_ble_eq_true rfl) rfl (MY := [4, 20]) hXM (by decide) (by rw [hXl]; exact c_X0_forget h22 o24) (fun h25 fh25 kh25 qh25 => ?_)
            have v := v h25 fh25 kh25 qh25
            refine r_aload_n 1 C dX5_edge_126 rfl ?_
            obtain ⟨o26, v⟩ := v
            refine s_callv [] [] C dX5_edge_127 ck_X5_67 (r := 0) (fY := 4) (nY := 91) rfl rfl (by decide) (by decide) (Nat.le_of_ble_eq_true rfl) rfl (MY := [2, 3, 12, 13, 14, 15, 16, 17, 18, 19]) hXM (by decide) (by rw [hXl]; exact c_X5_surveyAgain h25 o26) (fun h27 fh27 kh27 qh27 => ?_)
            have v := v h27 fh27 kh27 qh27
            refine r_iload 0 C dX5_edge_130 rfl ?_
            exact r_ireturn C dX5_edge_132 hXr (Nat.zero_le _) (by rw [hXP]; exact v)
          · have v := v.2 c19
            exact s_throw "no more edges" C (by rw [hXl]; exact hst) dX5_edge_95 dX5_edge_98 dX5_edge_99 dX5_edge_101 dX5_edge_104 tk_52_56 (by decide +kernel) (by decide) (by decide) (by rw [hXX, hXh, hXc]; exact v)
        · have v := v.2 c18
          exact s_sub [0] rfl (B_73 _ v)
    · have v := v.2 c12
      exact s_sub [0] rfl (B_38 _ v)

def V_X5_remove (P : Int → Hp → Prop) (Px : String → Prop) (h0 : Hp) (mc : Nat) (p_X5_checkEdge : Int → Hp → Prop) (t_X5_checkEdge : Int → Hp → Prop) (p_X2_dropEdge : Int → Hp → Prop) (q_X2_dropEdge : Int → Hp → Hp → Prop) (p_X0_forget : Hp → Prop) (q_X0_forget : Hp → Hp → Prop) (p_X5_surveyAgain : Hp → Prop) (q_X5_surveyAgain : Hp → Hp → Prop) (a1 : Int) : Prop :=
  p_X5_checkEdge a1 h0 ∧ ((t_X5_checkEdge a1 h0 → Px "java/lang/IndexOutOfBoundsException" ∧ h0 = h0 ∧ 1 ≤ mc) ∧ (¬ t_X5_checkEdge a1 h0 → (p_X2_dropEdge a1 h0 ∧ (∀ h4 : Hp, Fr [1, 7, 8, 9, 10, 11] h0 h4 → RH h4 → q_X2_dropEdge a1 h0 h4 → (p_X0_forget h4 ∧ (∀ h6 : Hp, Fr [4, 20] h4 h6 → RH h6 → q_X0_forget h4 h6 → (p_X5_surveyAgain h6 ∧ (∀ h8 : Hp, Fr [2, 3, 12, 13, 14, 15, 16, 17, 18, 19] h6 h8 → RH h8 → q_X5_surveyAgain h6 h8 → (P (h8 1 8) h8)))))))))
set_option maxHeartbeats 4000000 in
set_option maxRecDepth 100000 in
theorem w_X5_remove {l : Launch} (P : Int → Hp → Prop) (Px : String → Prop) (h0 : Hp) (mc : Nat) (p_X5_checkEdge : Int → Hp → Prop) (t_X5_checkEdge : Int → Hp → Prop) (p_X2_dropEdge : Int → Hp → Prop) (q_X2_dropEdge : Int → Hp → Hp → Prop) (p_X0_forget : Hp → Prop) (q_X0_forget : Hp → Hp → Prop) (p_X5_surveyAgain : Hp → Prop) (q_X5_surveyAgain : Hp → Hp → Prop) (a1 : Int)
    (c_X5_checkEdge : ∀ (b1 : Int) (h : Hp) (mc : Nat), p_X5_checkEdge b1 h → (t_X5_checkEdge b1 h → 1 ≤ mc) → Ct l yX5_checkEdge cX5_checkEdge 2 none 6 82 mc [vr 0, vi b1] h [] (fun _ _ => ¬ t_X5_checkEdge b1 h ∧ True) (fun E => t_X5_checkEdge b1 h ∧ E = "java/lang/IndexOutOfBoundsException"))
    (c_X2_dropEdge : ∀ (b1 : Int) (h : Hp), p_X2_dropEdge b1 h → Ct l yX2_dropEdge cX2_dropEdge 2 none 2 44 0 [vr 1, vi b1] h [1, 7, 8, 9, 10, 11] (fun _ h1 => q_X2_dropEdge b1 h h1) (fun _ => False))
    (c_X0_forget : ∀ (h : Hp), p_X0_forget h → Ct l yX0_forget cX0_forget 2 none 0 0 0 [vr 4] h [4, 20] (fun _ h1 => q_X0_forget h h1) (fun _ => False))
    (c_X5_surveyAgain : ∀ (h : Hp), p_X5_surveyAgain h → Ct l yX5_surveyAgain cX5_surveyAgain 1 none 4 91 0 [vr 0] h [2, 3, 12, 13, 14, 15, 16, 17, 18, 19] (fun _ h1 => q_X5_surveyAgain h h1) (fun _ => False))
    (o : RH h0 → InR a1 → V_X5_remove P Px h0 mc p_X5_checkEdge t_X5_checkEdge p_X2_dropEdge q_X2_dropEdge p_X0_forget q_X0_forget p_X5_surveyAgain q_X5_surveyAgain a1) :
    Ct l yX5_remove cX5_remove 2 (some .int) 7 111 mc [vr 0, vi a1] h0 [1, 2, 3, 4, 7, 8, 9, 10, 11, 12, 13, 14, 15, 16, 17, 18, 19, 20] P Px := by
  refine Ct.of (own := RX5) (by decide) rfl (Nat.le_of_ble_eq_true rfl) ?_
  intro X C hXl hXM hXh hXP hXX hXc hXr hav hR0
  have hmain : V_X5_remove P Px h0 mc p_X5_checkEdge t_X5_checkEdge p_X2_dropEdge q_X2_dropEdge p_X0_forget q_X0_forget p_X5_surveyAgain q_X5_surveyAgain a1 := o hR0 (hav (vi a1) (by simp))
  show Wh X 0 [(0, vr 0), (1, vi a1)] [] h0 0
  have v := hmain
  unfold V_X5_remove at v
  refine r_aload_n 0 C dX5_remove_0 rfl ?_
  refine r_iload_n 1 C dX5_remove_1 rfl ?_
  obtain ⟨o2, v⟩ := v
  refine s_callx (tf := t_X5_checkEdge a1 h0) (E0 := "java/lang/IndexOutOfBoundsException") [a1] [] C dX5_remove_2 ck_X5_103 (r := 0) (fY := 6) (nY := 82) rfl rfl (by decide) (by decide) (Nat.le_of_ble_eq_true rfl) rfl (by rw [hXl]; exact fun mc => c_X5_checkEdge a1 h0 mc o2) (fun z => by rw [hXX, hXh, hXc]; exact v.1 z) (fun o1 _ => ?_)
  have v := v.2 o1
  refine r_aload_n 0 C dX5_remove_5 rfl ?_
  refine gf_X5_12 C dX5_remove_6 ?_
  refine r_iload_n 1 C dX5_remove_9 rfl ?_
  obtain ⟨o3, v⟩ := v
  refine s_callv [a1] [] C dX5_remove_10 ck_X5_106 (r := 1) (fY := 2) (nY := 44) rfl rfl (by decide) (by decide) (Nat.le_of_ble_eq_true rfl) rfl (MY := [1, 7, 8, 9, 10, 11]) hXM (by decide) (by rw [hXl]; exact c_X2_dropEdge a1 h0 o3) (fun h4 fh4 kh4 qh4 => ?_)
  have v := v h4 fh4 kh4 qh4
  refine r_aload_n 0 C dX5_remove_13 rfl ?_
  refine gf_X5_35 C dX5_remove_14 ?_
  obtain ⟨o5, v⟩ := v
  refine s_callv [] [] C dX5_remove_17 ck_X5_100 (r := 4) (fY := 0) (nY := 0) rfl rfl (by decide) (by decide) (Nat.le_of_ble_eq_true rfl) rfl (MY := [4, 20]) hXM (by decide) (by rw [hXl]; exact c_X0_forget h4 o5) (fun h6 fh6 kh6 qh6 => ?_)
  have v := v h6 fh6 kh6 qh6
  refine r_aload_n 0 C dX5_remove_20 rfl ?_
  obtain ⟨o7, v⟩ := v
  refine s_callv [] [] C dX5_remove_21 ck_X5_67 (r := 0) (fY := 4) (nY := 91) rfl rfl (by decide) (by decide) (Nat.le_of_ble_eq_true rfl) rfl (MY := [2, 3, 12, 13, 14, 15, 16, 17, 18, 19]) hXM (by decide) (by rw [hXl]; exact c_X5_surveyAgain h6 o7) (fun h8 fh8 kh8 qh8 => ?_)
  have v := v h8 fh8 kh8 qh8
  refine r_aload_n 0 C dX5_remove_24 rfl ?_
  refine gf_X5_12 C dX5_remove_25 ?_
  refine gf_X5_109 C dX5_remove_28 ?_
  exact r_ireturn C dX5_remove_31 hXr (Nat.zero_le _) (by rw [hXP]; exact v)

def V_X5_degree (P : Int → Hp → Prop) (Px : String → Prop) (h0 : Hp) (mc : Nat) (p_X5_checkVertex : Int → Hp → Prop) (t_X5_checkVertex : Int → Hp → Prop) (a1 : Int) : Prop :=
  p_X5_checkVertex a1 h0 ∧ ((t_X5_checkVertex a1 h0 → Px "java/lang/IndexOutOfBoundsException" ∧ h0 = h0 ∧ 1 ≤ mc) ∧ (¬ t_X5_checkVertex a1 h0 → (((0 : Int) ≤ a1 ∧ (a1 : Int) < 30) ∧ (P (h0 11 a1) h0))))
set_option maxHeartbeats 4000000 in
set_option maxRecDepth 100000 in
theorem w_X5_degree {l : Launch} (P : Int → Hp → Prop) (Px : String → Prop) (h0 : Hp) (mc : Nat) (p_X5_checkVertex : Int → Hp → Prop) (t_X5_checkVertex : Int → Hp → Prop) (a1 : Int)
    (c_X5_checkVertex : ∀ (b1 : Int) (h : Hp) (mc : Nat), p_X5_checkVertex b1 h → (t_X5_checkVertex b1 h → 1 ≤ mc) → Ct l yX5_checkVertex cX5_checkVertex 2 none 6 82 mc [vr 0, vi b1] h [] (fun _ _ => ¬ t_X5_checkVertex b1 h ∧ True) (fun E => t_X5_checkVertex b1 h ∧ E = "java/lang/IndexOutOfBoundsException"))
    (o : RH h0 → InR a1 → V_X5_degree P Px h0 mc p_X5_checkVertex t_X5_checkVertex a1) :
    Ct l yX5_degree cX5_degree 2 (some .int) 7 103 mc [vr 0, vi a1] h0 [] P Px := by
  refine Ct.of (own := RX5) (by decide) rfl (Nat.le_of_ble_eq_true rfl) ?_
  intro X C hXl hXM hXh hXP hXX hXc hXr hav hR0
  have hmain : V_X5_degree P Px h0 mc p_X5_checkVertex t_X5_checkVertex a1 := o hR0 (hav (vi a1) (by simp))
  show Wh X 0 [(0, vr 0), (1, vi a1)] [] h0 0
  have v := hmain
  unfold V_X5_degree at v
  refine r_aload_n 0 C dX5_degree_0 rfl ?_
  refine r_iload_n 1 C dX5_degree_1 rfl ?_
  obtain ⟨o2, v⟩ := v
  refine s_callx (tf := t_X5_checkVertex a1 h0) (E0 := "java/lang/IndexOutOfBoundsException") [a1] [] C dX5_degree_2 ck_X5_70 (r := 0) (fY := 6) (nY := 82) rfl rfl (by decide) (by decide) (Nat.le_of_ble_eq_true rfl) rfl (by rw [hXl]; exact fun mc => c_X5_checkVertex a1 h0 mc o2) (fun z => by rw [hXX, hXh, hXc]; exact v.1 z) (fun o1 _ => ?_)
  have v := v.2 o1
  refine r_aload_n 0 C dX5_degree_5 rfl ?_
  refine gf_X5_12 C dX5_degree_6 ?_
  refine gf_X5_112 C dX5_degree_9 ?_
  refine r_iload_n 1 C dX5_degree_12 rfl ?_
  obtain ⟨o3, v⟩ := v
  refine r_iaload (r := 11) (N := 30) C dX5_degree_13 rfl o3 ?_
  exact r_ireturn C dX5_degree_14 hXr (Nat.zero_le _) (by rw [hXP]; exact v)

def V_X5_round_22 (P : Int → Hp → Prop) (Px : String → Prop) (h0 : Hp) (mc : Nat) (p_X5_checkVertex : Int → Hp → Prop) (t_X5_checkVertex : Int → Hp → Prop) (I_45 : Nat → Hp → Int → Int → Int → Prop) (h : Hp) : Prop :=
  Px "java/lang/IndexOutOfBoundsException" ∧ h = h0 ∧ 1 ≤ mc
def V_X5_round_45 (P : Int → Hp → Prop) (Px : String → Prop) (h0 : Hp) (mc : Nat) (p_X5_checkVertex : Int → Hp → Prop) (t_X5_checkVertex : Int → Hp → Prop) (I_45 : Nat → Hp → Int → Int → Int → Prop) (n_45 : Nat) (h : Hp) (x2 : Int) (x3 : Int) (x4 : Int) : Prop :=
  (x2 ≤ x4 → ((0 : Int) < 2 ∧ InR (x3.tdiv 2)) ∧ (P (x3.tdiv 2) h)) ∧ (¬ x2 ≤ x4 → ((0 : Int) ≤ x3 ∧ (x3 : Int) < 200) ∧ (∀ z4 : Int, z4 = (h 7 x3) → (InR (x4 + 1) ∧ (∀ z5 : Int, z5 = x4 + 1 → (∃ n', n' < n_45 ∧ I_45 n' h x2 z4 z5)))))
def V_X5_round (P : Int → Hp → Prop) (Px : String → Prop) (h0 : Hp) (mc : Nat) (p_X5_checkVertex : Int → Hp → Prop) (t_X5_checkVertex : Int → Hp → Prop) (I_45 : Nat → Hp → Int → Int → Int → Prop) (a1 : Int) (a2 : Int) : Prop :=
  p_X5_checkVertex a1 h0 ∧ ((t_X5_checkVertex a1 h0 → Px "java/lang/IndexOutOfBoundsException" ∧ h0 = h0 ∧ 1 ≤ mc) ∧ (¬ t_X5_checkVertex a1 h0 → ((a2 < 0 → V_X5_round_22 P Px h0 mc p_X5_checkVertex t_X5_checkVertex I_45 h0) ∧ (¬ a2 < 0 → ((0 : Int) ≤ a1 ∧ (a1 : Int) < 30) ∧ ((a2 < (h0 11 a1) → ((0 : Int) ≤ a1 ∧ (a1 : Int) < 30) ∧ (∀ z13 : Int, z13 = (h0 10 a1) → (∀ z14 : Int, z14 = 0 → (∃ n', I_45 n' h0 a2 z13 z14)))) ∧ (¬ a2 < (h0 11 a1) → V_X5_round_22 P Px h0 mc p_X5_checkVertex t_X5_checkVertex I_45 h0))))))
set_option maxHeartbeats 4000000 in
set_option maxRecDepth 100000 in
theorem w_X5_round {l : Launch} (P : Int → Hp → Prop) (Px : String → Prop) (h0 : Hp) (mc : Nat) (p_X5_checkVertex : Int → Hp → Prop) (t_X5_checkVertex : Int → Hp → Prop) (I_45 : Nat → Hp → Int → Int → Int → Prop) (a1 : Int) (a2 : Int)
    (c_X5_checkVertex : ∀ (b1 : Int) (h : Hp) (mc : Nat), p_X5_checkVertex b1 h → (t_X5_checkVertex b1 h → 1 ≤ mc) → Ct l yX5_checkVertex cX5_checkVertex 2 none 6 82 mc [vr 0, vi b1] h [] (fun _ _ => ¬ t_X5_checkVertex b1 h ∧ True) (fun E => t_X5_checkVertex b1 h ∧ E = "java/lang/IndexOutOfBoundsException"))
    (o_45 : ∀ (n_45 : Nat) (h : Hp) (x2 : Int) (x3 : Int) (x4 : Int), RH h → Fr [] h0 h → InR x2 → InR x3 → InR x4 → I_45 n_45 h x2 x3 x4 → V_X5_round_45 P Px h0 mc p_X5_checkVertex t_X5_checkVertex I_45 n_45 h x2 x3 x4)
    (hst : l.stackTraces = false)
    (o : RH h0 → InR a1 → InR a2 → V_X5_round P Px h0 mc p_X5_checkVertex t_X5_checkVertex I_45 a1 a2) :
    Ct l yX5_round cX5_round 5 (some .int) 7 103 mc [vr 0, vi a1, vi a2] h0 [] P Px := by
  refine Ct.of (own := RX5) (by decide) rfl (Nat.le_of_ble_eq_true rfl) ?_
  intro X C hXl hXM hXh hXP hXX hXc hXr hav hR0
  have hmain : V_X5_round P Px h0 mc p_X5_checkVertex t_X5_checkVertex I_45 a1 a2 := o hR0 (hav (vi a1) (by simp)) (hav (vi a2) (by simp))
  have B_22 : ∀ (h : Hp), V_X5_round_22 P Px h0 mc p_X5_checkVertex t_X5_checkVertex I_45 h → Wh X 22 [(0, vr 0)] [] h 0 := by
    intro h v
    unfold V_X5_round_22 at v
    exact s_throw "no such place" C (by rw [hXl]; exact hst) dX5_round_22 dX5_round_25 dX5_round_26 dX5_round_28 dX5_round_31 tk_115_119 (by decide +kernel) (by decide) (by decide) (by rw [hXX, hXh, hXc]; exact v)
  have B_45 : ∀ (n_45 : Nat) (h : Hp) (x2 : Int) (x3 : Int) (x4 : Int), I_45 n_45 h x2 x3 x4 → Wh X 45 [(0, vr 0), (2, vi x2), (3, vi x3), (4, vi x4)] [] h 0 := by
    intro n_45
    induction n_45 using Nat.strongRecOn with
    | _ n_45 ih_45 =>
      intro h x2 x3 x4 hI
      refine s_use fun hR hF hL => ?_
      have v := o_45 n_45 h x2 x3 x4 hR (by rw [hXM, hXh] at hF; exact hF) (hL (2, vi x2) (by simp)) (hL (3, vi x3) (by simp)) (hL (4, vi x4) (by simp)) hI
      unfold V_X5_round_45 at v
      refine r_iload 3 C dX5_round_45 rfl ?_
      refine r_iload_n 1 C dX5_round_47 rfl ?_
      refine r_icmp_ge (tgt := 67) C dX5_round_48 (by decide) (fun c1 => ?_) (fun c1 => ?_)
      · have v := v.1 c1
        refine r_iload_n 2 C dX5_round_67 rfl ?_
        refine r_iconst C dX5_round_68 ⟨by decide, by decide⟩ ?_
        obtain ⟨o2, v⟩ := v
        refine r_idiv C dX5_round_69 o2 ?_
        exact r_ireturn C dX5_round_70 hXr (Nat.zero_le _) (by rw [hXP]; exact v)
      · have v := v.2 c1
        refine r_aload_n 0 C dX5_round_51 rfl ?_
        refine gf_X5_12 C dX5_round_52 ?_
        refine gf_X5_123 C dX5_round_55 ?_
        refine r_iload_n 2 C dX5_round_58 rfl ?_
        obtain ⟨o3, v⟩ := v
        refine r_iaload (r := 7) (N := 200) C dX5_round_59 rfl o3 ?_
        refine s_istore_n C dX5_round_60 (by decide) (fun z4 ez4 => ?_)
        have v := v z4 ez4
        show Wh X 61 [(3, vi z4), (0, vr 0), (2, vi x2), (4, vi x4)] [] h 0
        obtain ⟨o6, v⟩ := v
        refine s_iinc 3 C dX5_round_61 rfl (by decide) o6 (fun z5 ez5 => ?_)
        have v := v z5 ez5
        show Wh X 64 [(4, vi z5), (3, vi z4), (0, vr 0), (2, vi x2)] [] h 0
        refine r_goto (tgt := 45) C dX5_round_64 (by decide) ?_
        obtain ⟨n', hn', hI'⟩ := v
        exact s_sub [2, 3, 1, 0] rfl (ih_45 n' hn' _ _ _ _ hI')
  show Wh X 0 [(0, vr 0), (1, vi a1), (2, vi a2)] [] h0 0
  have v := hmain
  unfold V_X5_round at v
  refine r_aload_n 0 C dX5_round_0 rfl ?_
  refine r_iload_n 1 C dX5_round_1 rfl ?_
  obtain ⟨o8, v⟩ := v
  refine s_callx (tf := t_X5_checkVertex a1 h0) (E0 := "java/lang/IndexOutOfBoundsException") [a1] [] C dX5_round_2 ck_X5_70 (r := 0) (fY := 6) (nY := 82) rfl rfl (by decide) (by decide) (Nat.le_of_ble_eq_true rfl) rfl (by rw [hXl]; exact fun mc => c_X5_checkVertex a1 h0 mc o8) (fun z => by rw [hXX, hXh, hXc]; exact v.1 z) (fun o7 _ => ?_)
  have v := v.2 o7
  refine r_iload_n 2 C dX5_round_5 rfl ?_
  refine r_if_lt (tgt := 22) C dX5_round_6 (by decide) (fun c9 => ?_) (fun c9 => ?_)
  · have v := v.1 c9
    exact s_sub [0] rfl (B_22 _ v)
  · have v := v.2 c9
    refine r_iload_n 2 C dX5_round_9 rfl ?_
    refine r_aload_n 0 C dX5_round_10 rfl ?_
    refine gf_X5_12 C dX5_round_11 ?_
    refine gf_X5_112 C dX5_round_14 ?_
    refine r_iload_n 1 C dX5_round_17 rfl ?_
    obtain ⟨o10, v⟩ := v
    refine r_iaload (r := 11) (N := 30) C dX5_round_18 rfl o10 ?_
    refine r_icmp_lt (tgt := 32) C dX5_round_19 (by decide) (fun c11 => ?_) (fun c11 => ?_)
    · have v := v.1 c11
      refine r_aload_n 0 C dX5_round_32 rfl ?_
      refine gf_X5_12 C dX5_round_33 ?_
      refine gf_X5_120 C dX5_round_36 ?_
      refine r_iload_n 1 C dX5_round_39 rfl ?_
      obtain ⟨o12, v⟩ := v
      refine r_iaload (r := 10) (N := 30) C dX5_round_40 rfl o12 ?_
      refine s_istore_n C dX5_round_41 (by decide) (fun z13 ez13 => ?_)
      have v := v z13 ez13
      show Wh X 42 [(3, vi z13), (0, vr 0), (1, vi a1), (2, vi a2)] [] h0 0
      refine r_iconst C dX5_round_42 ⟨by decide, by decide⟩ ?_
      refine s_istore C dX5_round_43 (by decide) (fun z14 ez14 => ?_)
      have v := v z14 ez14
      show Wh X 45 [(4, vi z14), (3, vi z13), (0, vr 0), (1, vi a1), (2, vi a2)] [] h0 0
      obtain ⟨n', hI'⟩ := v
      exact s_sub [2, 4, 1, 0] rfl (B_45 n' _ _ _ _ hI')
    · have v := v.2 c11
      exact s_sub [0] rfl (B_22 _ v)

def V_X5_end_27 (P : Int → Hp → Prop) (Px : String → Prop) (h0 : Hp) (mc : Nat) (p_X5_checkEdge : Int → Hp → Prop) (t_X5_checkEdge : Int → Hp → Prop) (h : Hp) (y1 : Int) : Prop :=
  ((0 : Int) ≤ y1 ∧ (y1 : Int) < 200) ∧ (P (h 6 y1) h)
def V_X5_end (P : Int → Hp → Prop) (Px : String → Prop) (h0 : Hp) (mc : Nat) (p_X5_checkEdge : Int → Hp → Prop) (t_X5_checkEdge : Int → Hp → Prop) (a1 : Int) (a2 : Int) : Prop :=
  p_X5_checkEdge a1 h0 ∧ ((t_X5_checkEdge a1 h0 → Px "java/lang/IndexOutOfBoundsException" ∧ h0 = h0 ∧ 1 ≤ mc) ∧ (¬ t_X5_checkEdge a1 h0 → ((a2 = 0 → InR (2 * a1) ∧ (V_X5_end_27 P Px h0 mc p_X5_checkEdge t_X5_checkEdge h0 (2 * a1))) ∧ (¬ a2 = 0 → InR (2 * a1) ∧ (InR ((2 * a1) + 1) ∧ (V_X5_end_27 P Px h0 mc p_X5_checkEdge t_X5_checkEdge h0 ((2 * a1) + 1)))))))
set_option maxHeartbeats 4000000 in
set_option maxRecDepth 100000 in
theorem w_X5_end {l : Launch} (P : Int → Hp → Prop) (Px : String → Prop) (h0 : Hp) (mc : Nat) (p_X5_checkEdge : Int → Hp → Prop) (t_X5_checkEdge : Int → Hp → Prop) (a1 : Int) (a2 : Int)
    (c_X5_checkEdge : ∀ (b1 : Int) (h : Hp) (mc : Nat), p_X5_checkEdge b1 h → (t_X5_checkEdge b1 h → 1 ≤ mc) → Ct l yX5_checkEdge cX5_checkEdge 2 none 6 82 mc [vr 0, vi b1] h [] (fun _ _ => ¬ t_X5_checkEdge b1 h ∧ True) (fun E => t_X5_checkEdge b1 h ∧ E = "java/lang/IndexOutOfBoundsException"))
    (o : RH h0 → InR a1 → InR a2 → V_X5_end P Px h0 mc p_X5_checkEdge t_X5_checkEdge a1 a2) :
    Ct l yX5_end cX5_end 3 (some .int) 7 103 mc [vr 0, vi a1, vi a2] h0 [] P Px := by
  refine Ct.of (own := RX5) (by decide) rfl (Nat.le_of_ble_eq_true rfl) ?_
  intro X C hXl hXM hXh hXP hXX hXc hXr hav hR0
  have hmain : V_X5_end P Px h0 mc p_X5_checkEdge t_X5_checkEdge a1 a2 := o hR0 (hav (vi a1) (by simp)) (hav (vi a2) (by simp))
  have B_27 : ∀ (h : Hp) (y1 : Int), V_X5_end_27 P Px h0 mc p_X5_checkEdge t_X5_checkEdge h y1 → Wh X 27 [(0, vr 0)] [vi y1, vr 6] h 0 := by
    intro h y1 v
    unfold V_X5_end_27 at v
    obtain ⟨o1, v⟩ := v
    refine r_iaload (r := 6) (N := 200) C dX5_end_27 rfl o1 ?_
    exact r_ireturn C dX5_end_28 hXr (Nat.zero_le _) (by rw [hXP]; exact v)
  show Wh X 0 [(0, vr 0), (1, vi a1), (2, vi a2)] [] h0 0
  have v := hmain
  unfold V_X5_end at v
  refine r_aload_n 0 C dX5_end_0 rfl ?_
  refine r_iload_n 1 C dX5_end_1 rfl ?_
  obtain ⟨o3, v⟩ := v
  refine s_callx (tf := t_X5_checkEdge a1 h0) (E0 := "java/lang/IndexOutOfBoundsException") [a1] [] C dX5_end_2 ck_X5_103 (r := 0) (fY := 6) (nY := 82) rfl rfl (by decide) (by decide) (Nat.le_of_ble_eq_true rfl) rfl (by rw [hXl]; exact fun mc => c_X5_checkEdge a1 h0 mc o3) (fun z => by rw [hXX, hXh, hXc]; exact v.1 z) (fun o2 _ => ?_)
  have v := v.2 o2
  refine r_aload_n 0 C dX5_end_5 rfl ?_
  refine gf_X5_12 C dX5_end_6 ?_
  refine gf_X5_126 C dX5_end_9 ?_
  refine r_iload_n 2 C dX5_end_12 rfl ?_
  refine r_if_eq (tgt := 24) C dX5_end_13 (by decide) (fun c4 => ?_) (fun c4 => ?_)
  · have v := v.1 c4
    refine r_iconst C dX5_end_24 ⟨by decide, by decide⟩ ?_
    refine r_iload_n 1 C dX5_end_25 rfl ?_
    obtain ⟨o5, v⟩ := v
    refine r_imul C dX5_end_26 o5 ?_
    exact s_sub [0] rfl (B_27 _ _ v)
  · have v := v.2 c4
    refine r_iconst C dX5_end_16 ⟨by decide, by decide⟩ ?_
    refine r_iload_n 1 C dX5_end_17 rfl ?_
    obtain ⟨o6, v⟩ := v
    refine r_imul C dX5_end_18 o6 ?_
    refine r_iconst C dX5_end_19 ⟨by decide, by decide⟩ ?_
    obtain ⟨o7, v⟩ := v
    refine r_iadd C dX5_end_20 o7 ?_
    refine r_goto (tgt := 27) C dX5_end_21 (by decide) ?_
    exact s_sub [0] rfl (B_27 _ _ v)

def V_X5_faces (P : Int → Hp → Prop) (h0 : Hp) : Prop :=
  P (h0 2 4) h0
set_option maxHeartbeats 4000000 in
set_option maxRecDepth 100000 in
theorem w_X5_faces {l : Launch} (P : Int → Hp → Prop) (h0 : Hp)
    (o : RH h0 → V_X5_faces P h0) :
    Ct l yX5_faces cX5_faces 1 (some .int) 0 0 0 [vr 0] h0 [] P (fun _ => False) := by
  refine Ct.of (own := RX5) (by decide) rfl (Nat.le_of_ble_eq_true rfl) ?_
  intro X C hXl hXM hXh hXP hXX hXc hXr hav hR0
  have hmain : V_X5_faces P h0 := o hR0 
  show Wh X 0 [(0, vr 0)] [] h0 0
  have v := hmain
  unfold V_X5_faces at v
  refine r_aload_n 0 C dX5_faces_0 rfl ?_
  refine gf_X5_21 C dX5_faces_1 ?_
  refine gf_X5_129 C dX5_faces_4 ?_
  exact r_ireturn C dX5_faces_7 hXr (Nat.zero_le _) (by rw [hXP]; exact v)

def V_X5_sides (P : Int → Hp → Prop) (Px : String → Prop) (h0 : Hp) (mc : Nat) (p_X5_checkFace : Int → Hp → Prop) (t_X5_checkFace : Int → Hp → Prop) (a1 : Int) : Prop :=
  p_X5_checkFace a1 h0 ∧ ((t_X5_checkFace a1 h0 → Px "java/lang/IndexOutOfBoundsException" ∧ h0 = h0 ∧ 1 ≤ mc) ∧ (¬ t_X5_checkFace a1 h0 → (((0 : Int) ≤ a1 ∧ (a1 : Int) < 200) ∧ (P (h0 14 a1) h0))))
set_option maxHeartbeats 4000000 in
set_option maxRecDepth 100000 in
theorem w_X5_sides {l : Launch} (P : Int → Hp → Prop) (Px : String → Prop) (h0 : Hp) (mc : Nat) (p_X5_checkFace : Int → Hp → Prop) (t_X5_checkFace : Int → Hp → Prop) (a1 : Int)
    (c_X5_checkFace : ∀ (b1 : Int) (h : Hp) (mc : Nat), p_X5_checkFace b1 h → (t_X5_checkFace b1 h → 1 ≤ mc) → Ct l yX5_checkFace cX5_checkFace 2 none 6 82 mc [vr 0, vi b1] h [] (fun _ _ => ¬ t_X5_checkFace b1 h ∧ True) (fun E => t_X5_checkFace b1 h ∧ E = "java/lang/IndexOutOfBoundsException"))
    (o : RH h0 → InR a1 → V_X5_sides P Px h0 mc p_X5_checkFace t_X5_checkFace a1) :
    Ct l yX5_sides cX5_sides 2 (some .int) 7 103 mc [vr 0, vi a1] h0 [] P Px := by
  refine Ct.of (own := RX5) (by decide) rfl (Nat.le_of_ble_eq_true rfl) ?_
  intro X C hXl hXM hXh hXP hXX hXc hXr hav hR0
  have hmain : V_X5_sides P Px h0 mc p_X5_checkFace t_X5_checkFace a1 := o hR0 (hav (vi a1) (by simp))
  show Wh X 0 [(0, vr 0), (1, vi a1)] [] h0 0
  have v := hmain
  unfold V_X5_sides at v
  refine r_aload_n 0 C dX5_sides_0 rfl ?_
  refine r_iload_n 1 C dX5_sides_1 rfl ?_
  obtain ⟨o2, v⟩ := v
  refine s_callx (tf := t_X5_checkFace a1 h0) (E0 := "java/lang/IndexOutOfBoundsException") [a1] [] C dX5_sides_2 ck_X5_132 (r := 0) (fY := 6) (nY := 82) rfl rfl (by decide) (by decide) (Nat.le_of_ble_eq_true rfl) rfl (by rw [hXl]; exact fun mc => c_X5_checkFace a1 h0 mc o2) (fun z => by rw [hXX, hXh, hXc]; exact v.1 z) (fun o1 _ => ?_)
  have v := v.2 o1
  refine r_aload_n 0 C dX5_sides_5 rfl ?_
  refine gf_X5_21 C dX5_sides_6 ?_
  refine gf_X5_135 C dX5_sides_9 ?_
  refine r_iload_n 1 C dX5_sides_12 rfl ?_
  obtain ⟨o3, v⟩ := v
  refine r_iaload (r := 14) (N := 200) C dX5_sides_13 rfl o3 ?_
  exact r_ireturn C dX5_sides_14 hXr (Nat.zero_le _) (by rw [hXP]; exact v)

def V_X5_from_22 (P : Int → Hp → Prop) (Px : String → Prop) (h0 : Hp) (mc : Nat) (p_X5_checkFace : Int → Hp → Prop) (t_X5_checkFace : Int → Hp → Prop) (p_X2_sideBehind : Int → Hp → Prop) (q_X2_sideBehind : Int → Hp → Int → Prop) (I_45 : Nat → Hp → Int → Int → Int → Prop) (h : Hp) : Prop :=
  Px "java/lang/IndexOutOfBoundsException" ∧ h = h0 ∧ 1 ≤ mc
def V_X5_from_45 (P : Int → Hp → Prop) (Px : String → Prop) (h0 : Hp) (mc : Nat) (p_X5_checkFace : Int → Hp → Prop) (t_X5_checkFace : Int → Hp → Prop) (p_X2_sideBehind : Int → Hp → Prop) (q_X2_sideBehind : Int → Hp → Int → Prop) (I_45 : Nat → Hp → Int → Int → Int → Prop) (n_45 : Nat) (h : Hp) (x2 : Int) (x3 : Int) (x4 : Int) : Prop :=
  (x2 ≤ x4 → ((0 : Int) ≤ x3 ∧ (x3 : Int) < 200) ∧ (P (h 6 x3) h)) ∧ (¬ x2 ≤ x4 → p_X2_sideBehind x3 h ∧ (∀ r4 : Int, InR r4 → q_X2_sideBehind x3 h r4 → (∀ z5 : Int, z5 = r4 → (InR (x4 + 1) ∧ (∀ z6 : Int, z6 = x4 + 1 → (∃ n', n' < n_45 ∧ I_45 n' h x2 z5 z6))))))
def V_X5_from (P : Int → Hp → Prop) (Px : String → Prop) (h0 : Hp) (mc : Nat) (p_X5_checkFace : Int → Hp → Prop) (t_X5_checkFace : Int → Hp → Prop) (p_X2_sideBehind : Int → Hp → Prop) (q_X2_sideBehind : Int → Hp → Int → Prop) (I_45 : Nat → Hp → Int → Int → Int → Prop) (a1 : Int) (a2 : Int) : Prop :=
  p_X5_checkFace a1 h0 ∧ ((t_X5_checkFace a1 h0 → Px "java/lang/IndexOutOfBoundsException" ∧ h0 = h0 ∧ 1 ≤ mc) ∧ (¬ t_X5_checkFace a1 h0 → ((a2 < 0 → V_X5_from_22 P Px h0 mc p_X5_checkFace t_X5_checkFace p_X2_sideBehind q_X2_sideBehind I_45 h0) ∧ (¬ a2 < 0 → ((0 : Int) ≤ a1 ∧ (a1 : Int) < 200) ∧ ((a2 < (h0 14 a1) → ((0 : Int) ≤ a1 ∧ (a1 : Int) < 200) ∧ (∀ z14 : Int, z14 = (h0 13 a1) → (∀ z15 : Int, z15 = 0 → (∃ n', I_45 n' h0 a2 z14 z15)))) ∧ (¬ a2 < (h0 14 a1) → V_X5_from_22 P Px h0 mc p_X5_checkFace t_X5_checkFace p_X2_sideBehind q_X2_sideBehind I_45 h0))))))
set_option maxHeartbeats 4000000 in
set_option maxRecDepth 100000 in
theorem w_X5_from {l : Launch} (P : Int → Hp → Prop) (Px : String → Prop) (h0 : Hp) (mc : Nat) (p_X5_checkFace : Int → Hp → Prop) (t_X5_checkFace : Int → Hp → Prop) (p_X2_sideBehind : Int → Hp → Prop) (q_X2_sideBehind : Int → Hp → Int → Prop) (I_45 : Nat → Hp → Int → Int → Int → Prop) (a1 : Int) (a2 : Int)
    (c_X5_checkFace : ∀ (b1 : Int) (h : Hp) (mc : Nat), p_X5_checkFace b1 h → (t_X5_checkFace b1 h → 1 ≤ mc) → Ct l yX5_checkFace cX5_checkFace 2 none 6 82 mc [vr 0, vi b1] h [] (fun _ _ => ¬ t_X5_checkFace b1 h ∧ True) (fun E => t_X5_checkFace b1 h ∧ E = "java/lang/IndexOutOfBoundsException"))
    (c_X2_sideBehind : ∀ (b1 : Int) (h : Hp), p_X2_sideBehind b1 h → Ct l yX2_sideBehind cX2_sideBehind 2 (some .int) 0 0 0 [vr 1, vi b1] h [] (fun r _ => q_X2_sideBehind b1 h r) (fun _ => False))
    (o_45 : ∀ (n_45 : Nat) (h : Hp) (x2 : Int) (x3 : Int) (x4 : Int), RH h → Fr [] h0 h → InR x2 → InR x3 → InR x4 → I_45 n_45 h x2 x3 x4 → V_X5_from_45 P Px h0 mc p_X5_checkFace t_X5_checkFace p_X2_sideBehind q_X2_sideBehind I_45 n_45 h x2 x3 x4)
    (hst : l.stackTraces = false)
    (o : RH h0 → InR a1 → InR a2 → V_X5_from P Px h0 mc p_X5_checkFace t_X5_checkFace p_X2_sideBehind q_X2_sideBehind I_45 a1 a2) :
    Ct l yX5_from cX5_from 5 (some .int) 7 103 mc [vr 0, vi a1, vi a2] h0 [] P Px := by
  refine Ct.of (own := RX5) (by decide) rfl (Nat.le_of_ble_eq_true rfl) ?_
  intro X C hXl hXM hXh hXP hXX hXc hXr hav hR0
  have hmain : V_X5_from P Px h0 mc p_X5_checkFace t_X5_checkFace p_X2_sideBehind q_X2_sideBehind I_45 a1 a2 := o hR0 (hav (vi a1) (by simp)) (hav (vi a2) (by simp))
  have B_22 : ∀ (h : Hp), V_X5_from_22 P Px h0 mc p_X5_checkFace t_X5_checkFace p_X2_sideBehind q_X2_sideBehind I_45 h → Wh X 22 [(0, vr 0)] [] h 0 := by
    intro h v
    unfold V_X5_from_22 at v
    exact s_throw "no such side" C (by rw [hXl]; exact hst) dX5_from_22 dX5_from_25 dX5_from_26 dX5_from_28 dX5_from_31 tk_115_119 (by decide +kernel) (by decide) (by decide) (by rw [hXX, hXh, hXc]; exact v)
  have B_45 : ∀ (n_45 : Nat) (h : Hp) (x2 : Int) (x3 : Int) (x4 : Int), I_45 n_45 h x2 x3 x4 → Wh X 45 [(0, vr 0), (2, vi x2), (3, vi x3), (4, vi x4)] [] h 0 := by
    intro n_45
    induction n_45 using Nat.strongRecOn with
    | _ n_45 ih_45 =>
      intro h x2 x3 x4 hI
      refine s_use fun hR hF hL => ?_
      have v := o_45 n_45 h x2 x3 x4 hR (by rw [hXM, hXh] at hF; exact hF) (hL (2, vi x2) (by simp)) (hL (3, vi x3) (by simp)) (hL (4, vi x4) (by simp)) hI
      unfold V_X5_from_45 at v
      refine r_iload 3 C dX5_from_45 rfl ?_
      refine r_iload_n 1 C dX5_from_47 rfl ?_
      refine r_icmp_ge (tgt := 66) C dX5_from_48 (by decide) (fun c1 => ?_) (fun c1 => ?_)
      · have v := v.1 c1
        refine r_aload_n 0 C dX5_from_66 rfl ?_
        refine gf_X5_12 C dX5_from_67 ?_
        refine gf_X5_126 C dX5_from_70 ?_
        refine r_iload_n 2 C dX5_from_73 rfl ?_
        obtain ⟨o2, v⟩ := v
        refine r_iaload (r := 6) (N := 200) C dX5_from_74 rfl o2 ?_
        exact r_ireturn C dX5_from_75 hXr (Nat.zero_le _) (by rw [hXP]; exact v)
      · have v := v.2 c1
        refine r_aload_n 0 C dX5_from_51 rfl ?_
        refine gf_X5_12 C dX5_from_52 ?_
        refine r_iload_n 2 C dX5_from_55 rfl ?_
        obtain ⟨o3, v⟩ := v
        refine s_calli0 [x3] [] C dX5_from_56 ck_X5_143 (r := 1) (fY := 0) (nY := 0) rfl rfl (by decide) (by decide) (Nat.le_of_ble_eq_true rfl) rfl (by rw [hXl]; exact c_X2_sideBehind x3 h o3) (fun r4 gr4 qr4 => ?_)
        have v := v r4 gr4 qr4
        refine s_istore_n C dX5_from_59 (by decide) (fun z5 ez5 => ?_)
        have v := v z5 ez5
        show Wh X 60 [(3, vi z5), (0, vr 0), (2, vi x2), (4, vi x4)] [] h 0
        obtain ⟨o7, v⟩ := v
        refine s_iinc 3 C dX5_from_60 rfl (by decide) o7 (fun z6 ez6 => ?_)
        have v := v z6 ez6
        show Wh X 63 [(4, vi z6), (3, vi z5), (0, vr 0), (2, vi x2)] [] h 0
        refine r_goto (tgt := 45) C dX5_from_63 (by decide) ?_
        obtain ⟨n', hn', hI'⟩ := v
        exact s_sub [2, 3, 1, 0] rfl (ih_45 n' hn' _ _ _ _ hI')
  show Wh X 0 [(0, vr 0), (1, vi a1), (2, vi a2)] [] h0 0
  have v := hmain
  unfold V_X5_from at v
  refine r_aload_n 0 C dX5_from_0 rfl ?_
  refine r_iload_n 1 C dX5_from_1 rfl ?_
  obtain ⟨o9, v⟩ := v
  refine s_callx (tf := t_X5_checkFace a1 h0) (E0 := "java/lang/IndexOutOfBoundsException") [a1] [] C dX5_from_2 ck_X5_132 (r := 0) (fY := 6) (nY := 82) rfl rfl (by decide) (by decide) (Nat.le_of_ble_eq_true rfl) rfl (by rw [hXl]; exact fun mc => c_X5_checkFace a1 h0 mc o9) (fun z => by rw [hXX, hXh, hXc]; exact v.1 z) (fun o8 _ => ?_)
  have v := v.2 o8
  refine r_iload_n 2 C dX5_from_5 rfl ?_
  refine r_if_lt (tgt := 22) C dX5_from_6 (by decide) (fun c10 => ?_) (fun c10 => ?_)
  · have v := v.1 c10
    exact s_sub [0] rfl (B_22 _ v)
  · have v := v.2 c10
    refine r_iload_n 2 C dX5_from_9 rfl ?_
    refine r_aload_n 0 C dX5_from_10 rfl ?_
    refine gf_X5_21 C dX5_from_11 ?_
    refine gf_X5_135 C dX5_from_14 ?_
    refine r_iload_n 1 C dX5_from_17 rfl ?_
    obtain ⟨o11, v⟩ := v
    refine r_iaload (r := 14) (N := 200) C dX5_from_18 rfl o11 ?_
    refine r_icmp_lt (tgt := 32) C dX5_from_19 (by decide) (fun c12 => ?_) (fun c12 => ?_)
    · have v := v.1 c12
      refine r_aload_n 0 C dX5_from_32 rfl ?_
      refine gf_X5_21 C dX5_from_33 ?_
      refine gf_X5_140 C dX5_from_36 ?_
      refine r_iload_n 1 C dX5_from_39 rfl ?_
      obtain ⟨o13, v⟩ := v
      refine r_iaload (r := 13) (N := 200) C dX5_from_40 rfl o13 ?_
      refine s_istore_n C dX5_from_41 (by decide) (fun z14 ez14 => ?_)
      have v := v z14 ez14
      show Wh X 42 [(3, vi z14), (0, vr 0), (1, vi a1), (2, vi a2)] [] h0 0
      refine r_iconst C dX5_from_42 ⟨by decide, by decide⟩ ?_
      refine s_istore C dX5_from_43 (by decide) (fun z15 ez15 => ?_)
      have v := v z15 ez15
      show Wh X 45 [(4, vi z15), (3, vi z14), (0, vr 0), (1, vi a1), (2, vi a2)] [] h0 0
      obtain ⟨n', hI'⟩ := v
      exact s_sub [2, 4, 1, 0] rfl (B_45 n' _ _ _ _ hI')
    · have v := v.2 c12
      exact s_sub [0] rfl (B_22 _ v)

def V_X5_parts (P : Int → Hp → Prop) (h0 : Hp) : Prop :=
  P (h0 3 7) h0
set_option maxHeartbeats 4000000 in
set_option maxRecDepth 100000 in
theorem w_X5_parts {l : Launch} (P : Int → Hp → Prop) (h0 : Hp)
    (o : RH h0 → V_X5_parts P h0) :
    Ct l yX5_parts cX5_parts 1 (some .int) 0 0 0 [vr 0] h0 [] P (fun _ => False) := by
  refine Ct.of (own := RX5) (by decide) rfl (Nat.le_of_ble_eq_true rfl) ?_
  intro X C hXl hXM hXh hXP hXX hXc hXr hav hR0
  have hmain : V_X5_parts P h0 := o hR0 
  show Wh X 0 [(0, vr 0)] [] h0 0
  have v := hmain
  unfold V_X5_parts at v
  refine r_aload_n 0 C dX5_parts_0 rfl ?_
  refine gf_X5_28 C dX5_parts_1 ?_
  refine gf_X5_147 C dX5_parts_4 ?_
  exact r_ireturn C dX5_parts_7 hXr (Nat.zero_le _) (by rw [hXP]; exact v)

def V_X5_genus (P : Int → Hp → Prop) (p_X2_lonelyVertices : Hp → Prop) (q_X2_lonelyVertices : Hp → Int → Prop) (h0 : Hp) : Prop :=
  p_X2_lonelyVertices h0 ∧ (∀ r2 : Int, InR r2 → q_X2_lonelyVertices h0 r2 → (InR ((h0 2 4) + r2) ∧ (∀ z4 : Int, z4 = ((h0 2 4) + r2) → (InR ((h0 1 6) - (h0 1 8)) ∧ (InR (((h0 1 6) - (h0 1 8)) + z4) ∧ (((0 : Int) < 2 ∧ InR ((((h0 1 6) - (h0 1 8)) + z4).tdiv 2)) ∧ (InR ((h0 3 7) - ((((h0 1 6) - (h0 1 8)) + z4).tdiv 2)) ∧ (P ((h0 3 7) - ((((h0 1 6) - (h0 1 8)) + z4).tdiv 2)) h0))))))))
set_option maxHeartbeats 4000000 in
set_option maxRecDepth 100000 in
theorem w_X5_genus {l : Launch} (P : Int → Hp → Prop) (p_X2_lonelyVertices : Hp → Prop) (q_X2_lonelyVertices : Hp → Int → Prop) (h0 : Hp)
    (c_X2_lonelyVertices : ∀ (h : Hp), p_X2_lonelyVertices h → Ct l yX2_lonelyVertices cX2_lonelyVertices 3 (some .int) 0 0 0 [vr 1] h [] (fun r _ => q_X2_lonelyVertices h r) (fun _ => False))
    (o : RH h0 → V_X5_genus P p_X2_lonelyVertices q_X2_lonelyVertices h0) :
    Ct l yX5_genus cX5_genus 2 (some .int) 1 22 0 [vr 0] h0 [] P (fun _ => False) := by
  refine Ct.of (own := RX5) (by decide) rfl (Nat.le_of_ble_eq_true rfl) ?_
  intro X C hXl hXM hXh hXP hXX hXc hXr hav hR0
  have hmain : V_X5_genus P p_X2_lonelyVertices q_X2_lonelyVertices h0 := o hR0 
  show Wh X 0 [(0, vr 0)] [] h0 0
  have v := hmain
  unfold V_X5_genus at v
  refine r_aload_n 0 C dX5_genus_0 rfl ?_
  refine gf_X5_21 C dX5_genus_1 ?_
  refine gf_X5_129 C dX5_genus_4 ?_
  refine r_aload_n 0 C dX5_genus_7 rfl ?_
  refine gf_X5_12 C dX5_genus_8 ?_
  obtain ⟨o1, v⟩ := v
  refine s_calli0 [] [vi (h0 2 4)] C dX5_genus_11 ck_X5_148 (r := 1) (fY := 0) (nY := 0) rfl rfl (by decide) (by decide) (Nat.le_of_ble_eq_true rfl) rfl (by rw [hXl]; exact c_X2_lonelyVertices h0 o1) (fun r2 gr2 qr2 => ?_)
  have v := v r2 gr2 qr2
  obtain ⟨o3, v⟩ := v
  refine r_iadd C dX5_genus_14 o3 ?_
  refine s_istore_n C dX5_genus_15 (by decide) (fun z4 ez4 => ?_)
  have v := v z4 ez4
  show Wh X 16 [(1, vi z4), (0, vr 0)] [] h0 0
  refine r_aload_n 1 C dX5_genus_16 rfl ?_
  refine gf_X5_28 C dX5_genus_17 ?_
  refine gf_X5_147 C dX5_genus_20 ?_
  refine r_aload_n 1 C dX5_genus_23 rfl ?_
  refine gf_X5_12 C dX5_genus_24 ?_
  refine gf_X5_48 C dX5_genus_27 ?_
  refine r_aload_n 1 C dX5_genus_30 rfl ?_
  refine gf_X5_12 C dX5_genus_31 ?_
  refine gf_X5_109 C dX5_genus_34 ?_
  obtain ⟨o5, v⟩ := v
  refine r_isub C dX5_genus_37 o5 ?_
  refine r_iload_n 0 C dX5_genus_38 rfl ?_
  obtain ⟨o6, v⟩ := v
  refine r_iadd C dX5_genus_39 o6 ?_
  refine r_iconst C dX5_genus_40 ⟨by decide, by decide⟩ ?_
  obtain ⟨o7, v⟩ := v
  refine r_idiv C dX5_genus_41 o7 ?_
  obtain ⟨o8, v⟩ := v
  refine r_isub C dX5_genus_42 o8 ?_
  exact r_ireturn C dX5_genus_43 hXr (Nat.zero_le _) (by rw [hXP]; exact v)

def V_X5_colour (P : Int → Hp → Prop) (Px : String → Prop) (h0 : Hp) (mc : Nat) (p_X5_checkPlane : Hp → Prop) (t_X5_checkPlane : Hp → Prop) (p_X0_colourAll : Hp → Prop) (q_X0_colourAll : Hp → Hp → Prop) (p_X0_coloursUsed : Hp → Prop) (q_X0_coloursUsed : Hp → Int → Prop) : Prop :=
  p_X5_checkPlane h0 ∧ ((t_X5_checkPlane h0 → Px "java/lang/IllegalStateException" ∧ h0 = h0 ∧ 1 ≤ mc) ∧ (¬ t_X5_checkPlane h0 → (p_X0_colourAll h0 ∧ (∀ h4 : Hp, Fr [4, 20, 21, 22, 23, 24, 25] h0 h4 → RH h4 → q_X0_colourAll h0 h4 → (p_X0_coloursUsed h4 ∧ (∀ r6 : Int, InR r6 → q_X0_coloursUsed h4 r6 → (P r6 h4)))))))
set_option maxHeartbeats 4000000 in
set_option maxRecDepth 100000 in
theorem w_X5_colour {l : Launch} (P : Int → Hp → Prop) (Px : String → Prop) (h0 : Hp) (mc : Nat) (p_X5_checkPlane : Hp → Prop) (t_X5_checkPlane : Hp → Prop) (p_X0_colourAll : Hp → Prop) (q_X0_colourAll : Hp → Hp → Prop) (p_X0_coloursUsed : Hp → Prop) (q_X0_coloursUsed : Hp → Int → Prop)
    (c_X5_checkPlane : ∀ (h : Hp) (mc : Nat), p_X5_checkPlane h → (t_X5_checkPlane h → 1 ≤ mc) → Ct l yX5_checkPlane cX5_checkPlane 1 none 6 82 mc [vr 0] h [] (fun _ _ => ¬ t_X5_checkPlane h ∧ True) (fun E => t_X5_checkPlane h ∧ E = "java/lang/IllegalStateException"))
    (c_X0_colourAll : ∀ (h : Hp), p_X0_colourAll h → Ct l yX0_colourAll cX0_colourAll 3 none 5 117 0 [vr 4] h [4, 20, 21, 22, 23, 24, 25] (fun _ h1 => q_X0_colourAll h h1) (fun _ => False))
    (c_X0_coloursUsed : ∀ (h : Hp), p_X0_coloursUsed h → Ct l yX0_coloursUsed cX0_coloursUsed 3 (some .int) 1 20 0 [vr 4] h [] (fun r _ => q_X0_coloursUsed h r) (fun _ => False))
    (o : RH h0 → V_X5_colour P Px h0 mc p_X5_checkPlane t_X5_checkPlane p_X0_colourAll q_X0_colourAll p_X0_coloursUsed q_X0_coloursUsed) :
    Ct l yX5_colour cX5_colour 1 (some .int) 7 139 mc [vr 0] h0 [4, 20, 21, 22, 23, 24, 25] P Px := by
  refine Ct.of (own := RX5) (by decide) rfl (Nat.le_of_ble_eq_true rfl) ?_
  intro X C hXl hXM hXh hXP hXX hXc hXr hav hR0
  have hmain : V_X5_colour P Px h0 mc p_X5_checkPlane t_X5_checkPlane p_X0_colourAll q_X0_colourAll p_X0_coloursUsed q_X0_coloursUsed := o hR0 
  show Wh X 0 [(0, vr 0)] [] h0 0
  have v := hmain
  unfold V_X5_colour at v
  refine r_aload_n 0 C dX5_colour_0 rfl ?_
  obtain ⟨o2, v⟩ := v
  refine s_callx (tf := t_X5_checkPlane h0) (E0 := "java/lang/IllegalStateException") [] [] C dX5_colour_1 ck_X5_151 (r := 0) (fY := 6) (nY := 82) rfl rfl (by decide) (by decide) (Nat.le_of_ble_eq_true rfl) rfl (by rw [hXl]; exact fun mc => c_X5_checkPlane h0 mc o2) (fun z => by rw [hXX, hXh, hXc]; exact v.1 z) (fun o1 _ => ?_)
  have v := v.2 o1
  refine r_aload_n 0 C dX5_colour_4 rfl ?_
  refine gf_X5_35 C dX5_colour_5 ?_
  obtain ⟨o3, v⟩ := v
  refine s_callv [] [] C dX5_colour_8 ck_X5_154 (r := 4) (fY := 5) (nY := 117) rfl rfl (by decide) (by decide) (Nat.le_of_ble_eq_true rfl) rfl (MY := [4, 20, 21, 22, 23, 24, 25]) hXM (by decide) (by rw [hXl]; exact c_X0_colourAll h0 o3) (fun h4 fh4 kh4 qh4 => ?_)
  have v := v h4 fh4 kh4 qh4
  refine r_aload_n 0 C dX5_colour_11 rfl ?_
  refine gf_X5_35 C dX5_colour_12 ?_
  obtain ⟨o5, v⟩ := v
  refine s_calli0 [] [] C dX5_colour_15 ck_X5_157 (r := 4) (fY := 1) (nY := 20) rfl rfl (by decide) (by decide) (Nat.le_of_ble_eq_true rfl) rfl (by rw [hXl]; exact c_X0_coloursUsed h4 o5) (fun r6 gr6 qr6 => ?_)
  have v := v r6 gr6 qr6
  exact r_ireturn C dX5_colour_18 hXr (Nat.zero_le _) (by rw [hXP]; exact v)

def V_X5_colourOf (P : Int → Hp → Prop) (Px : String → Prop) (h0 : Hp) (mc : Nat) (p_X5_checkVertex : Int → Hp → Prop) (t_X5_checkVertex : Int → Hp → Prop) (a1 : Int) : Prop :=
  p_X5_checkVertex a1 h0 ∧ ((t_X5_checkVertex a1 h0 → Px "java/lang/IndexOutOfBoundsException" ∧ h0 = h0 ∧ 1 ≤ mc) ∧ (¬ t_X5_checkVertex a1 h0 → (((0 : Int) ≤ a1 ∧ (a1 : Int) < 30) ∧ (P (h0 20 a1) h0))))
set_option maxHeartbeats 4000000 in
set_option maxRecDepth 100000 in
theorem w_X5_colourOf {l : Launch} (P : Int → Hp → Prop) (Px : String → Prop) (h0 : Hp) (mc : Nat) (p_X5_checkVertex : Int → Hp → Prop) (t_X5_checkVertex : Int → Hp → Prop) (a1 : Int)
    (c_X5_checkVertex : ∀ (b1 : Int) (h : Hp) (mc : Nat), p_X5_checkVertex b1 h → (t_X5_checkVertex b1 h → 1 ≤ mc) → Ct l yX5_checkVertex cX5_checkVertex 2 none 6 82 mc [vr 0, vi b1] h [] (fun _ _ => ¬ t_X5_checkVertex b1 h ∧ True) (fun E => t_X5_checkVertex b1 h ∧ E = "java/lang/IndexOutOfBoundsException"))
    (o : RH h0 → InR a1 → V_X5_colourOf P Px h0 mc p_X5_checkVertex t_X5_checkVertex a1) :
    Ct l yX5_colourOf cX5_colourOf 2 (some .int) 7 103 mc [vr 0, vi a1] h0 [] P Px := by
  refine Ct.of (own := RX5) (by decide) rfl (Nat.le_of_ble_eq_true rfl) ?_
  intro X C hXl hXM hXh hXP hXX hXc hXr hav hR0
  have hmain : V_X5_colourOf P Px h0 mc p_X5_checkVertex t_X5_checkVertex a1 := o hR0 (hav (vi a1) (by simp))
  show Wh X 0 [(0, vr 0), (1, vi a1)] [] h0 0
  have v := hmain
  unfold V_X5_colourOf at v
  refine r_aload_n 0 C dX5_colourOf_0 rfl ?_
  refine r_iload_n 1 C dX5_colourOf_1 rfl ?_
  obtain ⟨o2, v⟩ := v
  refine s_callx (tf := t_X5_checkVertex a1 h0) (E0 := "java/lang/IndexOutOfBoundsException") [a1] [] C dX5_colourOf_2 ck_X5_70 (r := 0) (fY := 6) (nY := 82) rfl rfl (by decide) (by decide) (Nat.le_of_ble_eq_true rfl) rfl (by rw [hXl]; exact fun mc => c_X5_checkVertex a1 h0 mc o2) (fun z => by rw [hXX, hXh, hXc]; exact v.1 z) (fun o1 _ => ?_)
  have v := v.2 o1
  refine r_aload_n 0 C dX5_colourOf_5 rfl ?_
  refine gf_X5_35 C dX5_colourOf_6 ?_
  refine gf_X5_63 C dX5_colourOf_9 ?_
  refine r_iload_n 1 C dX5_colourOf_12 rfl ?_
  obtain ⟨o3, v⟩ := v
  refine r_iaload (r := 20) (N := 30) C dX5_colourOf_13 rfl o3 ?_
  exact r_ireturn C dX5_colourOf_14 hXr (Nat.zero_le _) (by rw [hXP]; exact v)

def V_X5_exchanges (P : Int → Hp → Prop) (h0 : Hp) : Prop :=
  P (h0 4 8) h0
set_option maxHeartbeats 4000000 in
set_option maxRecDepth 100000 in
theorem w_X5_exchanges {l : Launch} (P : Int → Hp → Prop) (h0 : Hp)
    (o : RH h0 → V_X5_exchanges P h0) :
    Ct l yX5_exchanges cX5_exchanges 1 (some .int) 0 0 0 [vr 0] h0 [] P (fun _ => False) := by
  refine Ct.of (own := RX5) (by decide) rfl (Nat.le_of_ble_eq_true rfl) ?_
  intro X C hXl hXM hXh hXP hXX hXc hXr hav hR0
  have hmain : V_X5_exchanges P h0 := o hR0 
  show Wh X 0 [(0, vr 0)] [] h0 0
  have v := hmain
  unfold V_X5_exchanges at v
  refine r_aload_n 0 C dX5_exchanges_0 rfl ?_
  refine gf_X5_35 C dX5_exchanges_1 ?_
  refine gf_X5_160 C dX5_exchanges_4 ?_
  exact r_ireturn C dX5_exchanges_7 hXr (Nat.zero_le _) (by rw [hXP]; exact v)

def V_X5_exchange_44 (P : Int → Hp → Prop) (Px : String → Prop) (h0 : Hp) (mc : Nat) (p_X5_checkVertex : Int → Hp → Prop) (t_X5_checkVertex : Int → Hp → Prop) (p_X0_collectChain : Int → Int → Hp → Prop) (q_X0_collectChain : Int → Int → Hp → Hp → Prop) (p_X0_swapChain : Int → Int → Hp → Prop) (q_X0_swapChain : Int → Int → Hp → Hp → Prop) (h : Hp) : Prop :=
  Px "java/lang/IllegalArgumentException" ∧ h = h0 ∧ 1 ≤ mc
def V_X5_exchange (P : Int → Hp → Prop) (Px : String → Prop) (h0 : Hp) (mc : Nat) (p_X5_checkVertex : Int → Hp → Prop) (t_X5_checkVertex : Int → Hp → Prop) (p_X0_collectChain : Int → Int → Hp → Prop) (q_X0_collectChain : Int → Int → Hp → Hp → Prop) (p_X0_swapChain : Int → Int → Hp → Prop) (q_X0_swapChain : Int → Int → Hp → Hp → Prop) (a1 : Int) (a2 : Int) : Prop :=
  p_X5_checkVertex a1 h0 ∧ ((t_X5_checkVertex a1 h0 → Px "java/lang/IndexOutOfBoundsException" ∧ h0 = h0 ∧ 1 ≤ mc) ∧ (¬ t_X5_checkVertex a1 h0 → (((0 : Int) ≤ a1 ∧ (a1 : Int) < 30) ∧ (∀ z4 : Int, z4 = (h0 20 a1) → ((¬ z4 = 0 → (a2 < 1 → V_X5_exchange_44 P Px h0 mc p_X5_checkVertex t_X5_checkVertex p_X0_collectChain q_X0_collectChain p_X0_swapChain q_X0_swapChain h0) ∧ (¬ a2 < 1 → (5 < a2 → V_X5_exchange_44 P Px h0 mc p_X5_checkVertex t_X5_checkVertex p_X0_collectChain q_X0_collectChain p_X0_swapChain q_X0_swapChain h0) ∧ (¬ 5 < a2 → (¬ a2 = z4 → p_X0_collectChain a1 a2 h0 ∧ (∀ h10 : Hp, Fr [4, 24, 25] h0 h10 → RH h10 → q_X0_collectChain a1 a2 h0 h10 → (p_X0_swapChain z4 a2 h10 ∧ (∀ h12 : Hp, Fr [20] h10 h12 → RH h12 → q_X0_swapChain z4 a2 h10 h12 → (P (h12 4 7) h12))))) ∧ (a2 = z4 → V_X5_exchange_44 P Px h0 mc p_X5_checkVertex t_X5_checkVertex p_X0_collectChain q_X0_collectChain p_X0_swapChain q_X0_swapChain h0)))) ∧ (z4 = 0 → Px "java/lang/IllegalArgumentException" ∧ h0 = h0 ∧ 1 ≤ mc))))))
set_option maxHeartbeats 4000000 in
set_option maxRecDepth 100000 in
theorem w_X5_exchange {l : Launch} (P : Int → Hp → Prop) (Px : String → Prop) (h0 : Hp) (mc : Nat) (p_X5_checkVertex : Int → Hp → Prop) (t_X5_checkVertex : Int → Hp → Prop) (p_X0_collectChain : Int → Int → Hp → Prop) (q_X0_collectChain : Int → Int → Hp → Hp → Prop) (p_X0_swapChain : Int → Int → Hp → Prop) (q_X0_swapChain : Int → Int → Hp → Hp → Prop) (a1 : Int) (a2 : Int)
    (c_X5_checkVertex : ∀ (b1 : Int) (h : Hp) (mc : Nat), p_X5_checkVertex b1 h → (t_X5_checkVertex b1 h → 1 ≤ mc) → Ct l yX5_checkVertex cX5_checkVertex 2 none 6 82 mc [vr 0, vi b1] h [] (fun _ _ => ¬ t_X5_checkVertex b1 h ∧ True) (fun E => t_X5_checkVertex b1 h ∧ E = "java/lang/IndexOutOfBoundsException"))
    (c_X0_collectChain : ∀ (b1 : Int) (b2 : Int) (h : Hp), p_X0_collectChain b1 b2 h → Ct l yX0_collectChain cX0_collectChain 5 none 2 48 0 [vr 4, vi b1, vi b2] h [4, 24, 25] (fun _ h1 => q_X0_collectChain b1 b2 h h1) (fun _ => False))
    (c_X0_swapChain : ∀ (b1 : Int) (b2 : Int) (h : Hp), p_X0_swapChain b1 b2 h → Ct l yX0_swapChain cX0_swapChain 5 none 0 0 0 [vr 4, vi b1, vi b2] h [20] (fun _ h1 => q_X0_swapChain b1 b2 h h1) (fun _ => False))
    (hst : l.stackTraces = false)
    (o : RH h0 → InR a1 → InR a2 → V_X5_exchange P Px h0 mc p_X5_checkVertex t_X5_checkVertex p_X0_collectChain q_X0_collectChain p_X0_swapChain q_X0_swapChain a1 a2) :
    Ct l yX5_exchange cX5_exchange 4 (some .int) 7 103 mc [vr 0, vi a1, vi a2] h0 [4, 20, 24, 25] P Px := by
  refine Ct.of (own := RX5) (by decide) rfl (Nat.le_of_ble_eq_true rfl) ?_
  intro X C hXl hXM hXh hXP hXX hXc hXr hav hR0
  have hmain : V_X5_exchange P Px h0 mc p_X5_checkVertex t_X5_checkVertex p_X0_collectChain q_X0_collectChain p_X0_swapChain q_X0_swapChain a1 a2 := o hR0 (hav (vi a1) (by simp)) (hav (vi a2) (by simp))
  have B_44 : ∀ (h : Hp), V_X5_exchange_44 P Px h0 mc p_X5_checkVertex t_X5_checkVertex p_X0_collectChain q_X0_collectChain p_X0_swapChain q_X0_swapChain h → Wh X 44 [(0, vr 0)] [] h 0 := by
    intro h v
    unfold V_X5_exchange_44 at v
    exact s_throw "not another colour" C (by rw [hXl]; exact hst) dX5_exchange_44 dX5_exchange_47 dX5_exchange_48 dX5_exchange_50 dX5_exchange_53 tk_81_85 (by decide +kernel) (by decide) (by decide) (by rw [hXX, hXh, hXc]; exact v)
  show Wh X 0 [(0, vr 0), (1, vi a1), (2, vi a2)] [] h0 0
  have v := hmain
  unfold V_X5_exchange at v
  refine r_aload_n 0 C dX5_exchange_0 rfl ?_
  refine r_iload_n 1 C dX5_exchange_1 rfl ?_
  obtain ⟨o2, v⟩ := v
  refine s_callx (tf := t_X5_checkVertex a1 h0) (E0 := "java/lang/IndexOutOfBoundsException") [a1] [] C dX5_exchange_2 ck_X5_70 (r := 0) (fY := 6) (nY := 82) rfl rfl (by decide) (by decide) (Nat.le_of_ble_eq_true rfl) rfl (by rw [hXl]; exact fun mc => c_X5_checkVertex a1 h0 mc o2) (fun z => by rw [hXX, hXh, hXc]; exact v.1 z) (fun o1 _ => ?_)
  have v := v.2 o1
  refine r_aload_n 0 C dX5_exchange_5 rfl ?_
  refine gf_X5_35 C dX5_exchange_6 ?_
  refine gf_X5_63 C dX5_exchange_9 ?_
  refine r_iload_n 1 C dX5_exchange_12 rfl ?_
  obtain ⟨o3, v⟩ := v
  refine r_iaload (r := 20) (N := 30) C dX5_exchange_13 rfl o3 ?_
  refine s_istore_n C dX5_exchange_14 (by decide) (fun z4 ez4 => ?_)
  have v := v z4 ez4
  show Wh X 15 [(3, vi z4), (0, vr 0), (1, vi a1), (2, vi a2)] [] h0 0
  refine r_iload_n 0 C dX5_exchange_15 rfl ?_
  refine r_if_ne (tgt := 29) C dX5_exchange_16 (by decide) (fun c5 => ?_) (fun c5 => ?_)
  · have v := v.1 c5
    refine r_iload_n 3 C dX5_exchange_29 rfl ?_
    refine r_iconst C dX5_exchange_30 ⟨by decide, by decide⟩ ?_
    refine r_icmp_lt (tgt := 44) C dX5_exchange_31 (by decide) (fun c6 => ?_) (fun c6 => ?_)
    · have v := v.1 c6
      exact s_sub [1] rfl (B_44 _ v)
    · have v := v.2 c6
      refine r_iload_n 3 C dX5_exchange_34 rfl ?_
      refine r_iconst C dX5_exchange_35 ⟨by decide, by decide⟩ ?_
      refine r_icmp_gt (tgt := 44) C dX5_exchange_36 (by decide) (fun c7 => ?_) (fun c7 => ?_)
      · have v := v.1 c7
        exact s_sub [1] rfl (B_44 _ v)
      · have v := v.2 c7
        refine r_iload_n 3 C dX5_exchange_39 rfl ?_
        refine r_iload_n 0 C dX5_exchange_40 rfl ?_
        refine r_icmp_ne (tgt := 54) C dX5_exchange_41 (by decide) (fun c8 => ?_) (fun c8 => ?_)
        · have v := v.1 c8
          refine r_aload_n 1 C dX5_exchange_54 rfl ?_
          refine gf_X5_35 C dX5_exchange_55 ?_
          refine r_iload_n 2 C dX5_exchange_58 rfl ?_
          refine r_iload_n 3 C dX5_exchange_59 rfl ?_
          obtain ⟨o9, v⟩ := v
          refine s_callv [a1, a2] [] C dX5_exchange_60 ck_X5_167 (r := 4) (fY := 2) (nY := 48) rfl rfl (by decide) (by decide) (Nat.le_of_ble_eq_true rfl) rfl (MY := [4, 24, 25]) hXM (by decide) (by rw [hXl]; exact c_X0_collectChain a1 a2 h0 o9) (fun h10 fh10 kh10 qh10 => ?_)
          have v := v h10 fh10 kh10 qh10
          refine r_aload_n 1 C dX5_exchange_63 rfl ?_
          refine gf_X5_35 C dX5_exchange_64 ?_
          refine r_iload_n 0 C dX5_exchange_67 rfl ?_
          refine r_iload_n 3 C dX5_exchange_68 rfl ?_
          obtain ⟨o11, v⟩ := v
          refine s_callv [z4, a2] [] C dX5_exchange_69 ck_X5_171 (r := 4) (fY := 0) (nY := 0) rfl rfl (by decide) (by decide) (Nat.le_of_ble_eq_true rfl) rfl (MY := [20]) hXM (by decide) (by rw [hXl]; exact c_X0_swapChain z4 a2 h10 o11) (fun h12 fh12 kh12 qh12 => ?_)
          have v := v h12 fh12 kh12 qh12
          refine r_aload_n 1 C dX5_exchange_72 rfl ?_
          refine gf_X5_35 C dX5_exchange_73 ?_
          refine gf_X5_174 C dX5_exchange_76 ?_
          exact r_ireturn C dX5_exchange_79 hXr (Nat.zero_le _) (by rw [hXP]; exact v)
        · have v := v.2 c8
          exact s_sub [1] rfl (B_44 _ v)
  · have v := v.2 c5
    exact s_throw "the vertex has no colour" C (by rw [hXl]; exact hst) dX5_exchange_19 dX5_exchange_22 dX5_exchange_23 dX5_exchange_25 dX5_exchange_28 tk_81_85 (by decide +kernel) (by decide) (by decide) (by rw [hXX, hXh, hXc]; exact v)

def V_X5_clashes (P : Int → Hp → Prop) (p_X0_equalEnds : Hp → Prop) (q_X0_equalEnds : Hp → Int → Prop) (h0 : Hp) : Prop :=
  p_X0_equalEnds h0 ∧ (∀ r2 : Int, InR r2 → q_X0_equalEnds h0 r2 → (P r2 h0))
set_option maxHeartbeats 4000000 in
set_option maxRecDepth 100000 in
theorem w_X5_clashes {l : Launch} (P : Int → Hp → Prop) (p_X0_equalEnds : Hp → Prop) (q_X0_equalEnds : Hp → Int → Prop) (h0 : Hp)
    (c_X0_equalEnds : ∀ (h : Hp), p_X0_equalEnds h → Ct l yX0_equalEnds cX0_equalEnds 4 (some .int) 0 0 0 [vr 4] h [] (fun r _ => q_X0_equalEnds h r) (fun _ => False))
    (o : RH h0 → V_X5_clashes P p_X0_equalEnds q_X0_equalEnds h0) :
    Ct l yX5_clashes cX5_clashes 1 (some .int) 1 23 0 [vr 0] h0 [] P (fun _ => False) := by
  refine Ct.of (own := RX5) (by decide) rfl (Nat.le_of_ble_eq_true rfl) ?_
  intro X C hXl hXM hXh hXP hXX hXc hXr hav hR0
  have hmain : V_X5_clashes P p_X0_equalEnds q_X0_equalEnds h0 := o hR0 
  show Wh X 0 [(0, vr 0)] [] h0 0
  have v := hmain
  unfold V_X5_clashes at v
  refine r_aload_n 0 C dX5_clashes_0 rfl ?_
  refine gf_X5_35 C dX5_clashes_1 ?_
  obtain ⟨o1, v⟩ := v
  refine s_calli0 [] [] C dX5_clashes_4 ck_X5_177 (r := 4) (fY := 0) (nY := 0) rfl rfl (by decide) (by decide) (Nat.le_of_ble_eq_true rfl) rfl (by rw [hXl]; exact c_X0_equalEnds h0 o1) (fun r2 gr2 qr2 => ?_)
  have v := v r2 gr2 qr2
  exact r_ireturn C dX5_clashes_7 hXr (Nat.zero_le _) (by rw [hXP]; exact v)

def V_X5_above (P : Int → Hp → Prop) (Px : String → Prop) (h0 : Hp) (mc : Nat) (p_X5_checkVertex : Int → Hp → Prop) (t_X5_checkVertex : Int → Hp → Prop) (a1 : Int) : Prop :=
  p_X5_checkVertex a1 h0 ∧ ((t_X5_checkVertex a1 h0 → Px "java/lang/IndexOutOfBoundsException" ∧ h0 = h0 ∧ 1 ≤ mc) ∧ (¬ t_X5_checkVertex a1 h0 → (((0 : Int) ≤ a1 ∧ (a1 : Int) < 30) ∧ (P (h0 15 a1) h0))))
set_option maxHeartbeats 4000000 in
set_option maxRecDepth 100000 in
theorem w_X5_above {l : Launch} (P : Int → Hp → Prop) (Px : String → Prop) (h0 : Hp) (mc : Nat) (p_X5_checkVertex : Int → Hp → Prop) (t_X5_checkVertex : Int → Hp → Prop) (a1 : Int)
    (c_X5_checkVertex : ∀ (b1 : Int) (h : Hp) (mc : Nat), p_X5_checkVertex b1 h → (t_X5_checkVertex b1 h → 1 ≤ mc) → Ct l yX5_checkVertex cX5_checkVertex 2 none 6 82 mc [vr 0, vi b1] h [] (fun _ _ => ¬ t_X5_checkVertex b1 h ∧ True) (fun E => t_X5_checkVertex b1 h ∧ E = "java/lang/IndexOutOfBoundsException"))
    (o : RH h0 → InR a1 → V_X5_above P Px h0 mc p_X5_checkVertex t_X5_checkVertex a1) :
    Ct l yX5_above cX5_above 2 (some .int) 7 103 mc [vr 0, vi a1] h0 [] P Px := by
  refine Ct.of (own := RX5) (by decide) rfl (Nat.le_of_ble_eq_true rfl) ?_
  intro X C hXl hXM hXh hXP hXX hXc hXr hav hR0
  have hmain : V_X5_above P Px h0 mc p_X5_checkVertex t_X5_checkVertex a1 := o hR0 (hav (vi a1) (by simp))
  show Wh X 0 [(0, vr 0), (1, vi a1)] [] h0 0
  have v := hmain
  unfold V_X5_above at v
  refine r_aload_n 0 C dX5_above_0 rfl ?_
  refine r_iload_n 1 C dX5_above_1 rfl ?_
  obtain ⟨o2, v⟩ := v
  refine s_callx (tf := t_X5_checkVertex a1 h0) (E0 := "java/lang/IndexOutOfBoundsException") [a1] [] C dX5_above_2 ck_X5_70 (r := 0) (fY := 6) (nY := 82) rfl rfl (by decide) (by decide) (Nat.le_of_ble_eq_true rfl) rfl (by rw [hXl]; exact fun mc => c_X5_checkVertex a1 h0 mc o2) (fun z => by rw [hXX, hXh, hXc]; exact v.1 z) (fun o1 _ => ?_)
  have v := v.2 o1
  refine r_aload_n 0 C dX5_above_5 rfl ?_
  refine gf_X5_28 C dX5_above_6 ?_
  refine gf_X5_180 C dX5_above_9 ?_
  refine r_iload_n 1 C dX5_above_12 rfl ?_
  obtain ⟨o3, v⟩ := v
  refine r_iaload (r := 15) (N := 30) C dX5_above_13 rfl o3 ?_
  exact r_ireturn C dX5_above_14 hXr (Nat.zero_le _) (by rw [hXP]; exact v)

def V_X5_cycle (P : Int → Hp → Prop) (Px : String → Prop) (h0 : Hp) (mc : Nat) (p_X5_checkEdge : Int → Hp → Prop) (t_X5_checkEdge : Int → Hp → Prop) (p_X4_holds : Int → Hp → Prop) (q_X4_holds : Int → Hp → Int → Prop) (p_X3_markCycle : Int → Hp → Prop) (q_X3_markCycle : Int → Hp → Hp → Prop) (a1 : Int) : Prop :=
  p_X5_checkEdge a1 h0 ∧ ((t_X5_checkEdge a1 h0 → Px "java/lang/IndexOutOfBoundsException" ∧ h0 = h0 ∧ 1 ≤ mc) ∧ (¬ t_X5_checkEdge a1 h0 → (p_X4_holds a1 h0 ∧ (∀ r4 : Int, InR r4 → q_X4_holds a1 h0 r4 → ((r4 = 0 → p_X3_markCycle a1 h0 ∧ (∀ h7 : Hp, Fr [5, 26, 27] h0 h7 → RH h7 → q_X3_markCycle a1 h0 h7 → (P (h7 5 8) h7))) ∧ (¬ r4 = 0 → P 0 h0))))))
set_option maxHeartbeats 4000000 in
set_option maxRecDepth 100000 in
theorem w_X5_cycle {l : Launch} (P : Int → Hp → Prop) (Px : String → Prop) (h0 : Hp) (mc : Nat) (p_X5_checkEdge : Int → Hp → Prop) (t_X5_checkEdge : Int → Hp → Prop) (p_X4_holds : Int → Hp → Prop) (q_X4_holds : Int → Hp → Int → Prop) (p_X3_markCycle : Int → Hp → Prop) (q_X3_markCycle : Int → Hp → Hp → Prop) (a1 : Int)
    (c_X5_checkEdge : ∀ (b1 : Int) (h : Hp) (mc : Nat), p_X5_checkEdge b1 h → (t_X5_checkEdge b1 h → 1 ≤ mc) → Ct l yX5_checkEdge cX5_checkEdge 2 none 6 82 mc [vr 0, vi b1] h [] (fun _ _ => ¬ t_X5_checkEdge b1 h ∧ True) (fun E => t_X5_checkEdge b1 h ∧ E = "java/lang/IndexOutOfBoundsException"))
    (c_X4_holds : ∀ (b1 : Int) (h : Hp), p_X4_holds b1 h → Ct l yX4_holds cX4_holds 2 (some .boolean) 0 0 0 [vr 3, vi b1] h [] (fun r _ => q_X4_holds b1 h r) (fun _ => False))
    (c_X3_markCycle : ∀ (b1 : Int) (h : Hp), p_X3_markCycle b1 h → Ct l yX3_markCycle cX3_markCycle 5 none 1 21 0 [vr 5, vi b1] h [5, 26, 27] (fun _ h1 => q_X3_markCycle b1 h h1) (fun _ => False))
    (o : RH h0 → InR a1 → V_X5_cycle P Px h0 mc p_X5_checkEdge t_X5_checkEdge p_X4_holds q_X4_holds p_X3_markCycle q_X3_markCycle a1) :
    Ct l yX5_cycle cX5_cycle 2 (some .int) 7 103 mc [vr 0, vi a1] h0 [5, 26, 27] P Px := by
  refine Ct.of (own := RX5) (by decide) rfl (Nat.le_of_ble_eq_true rfl) ?_
  intro X C hXl hXM hXh hXP hXX hXc hXr hav hR0
  have hmain : V_X5_cycle P Px h0 mc p_X5_checkEdge t_X5_checkEdge p_X4_holds q_X4_holds p_X3_markCycle q_X3_markCycle a1 := o hR0 (hav (vi a1) (by simp))
  show Wh X 0 [(0, vr 0), (1, vi a1)] [] h0 0
  have v := hmain
  unfold V_X5_cycle at v
  refine r_aload_n 0 C dX5_cycle_0 rfl ?_
  refine r_iload_n 1 C dX5_cycle_1 rfl ?_
  obtain ⟨o2, v⟩ := v
  refine s_callx (tf := t_X5_checkEdge a1 h0) (E0 := "java/lang/IndexOutOfBoundsException") [a1] [] C dX5_cycle_2 ck_X5_103 (r := 0) (fY := 6) (nY := 82) rfl rfl (by decide) (by decide) (Nat.le_of_ble_eq_true rfl) rfl (by rw [hXl]; exact fun mc => c_X5_checkEdge a1 h0 mc o2) (fun z => by rw [hXX, hXh, hXc]; exact v.1 z) (fun o1 _ => ?_)
  have v := v.2 o1
  refine r_aload_n 0 C dX5_cycle_5 rfl ?_
  refine gf_X5_28 C dX5_cycle_6 ?_
  refine r_iload_n 1 C dX5_cycle_9 rfl ?_
  obtain ⟨o3, v⟩ := v
  refine s_calli0 [a1] [] C dX5_cycle_10 ck_X5_183 (r := 3) (fY := 0) (nY := 0) rfl rfl (by decide) (by decide) (Nat.le_of_ble_eq_true rfl) rfl (by rw [hXl]; exact c_X4_holds a1 h0 o3) (fun r4 gr4 qr4 => ?_)
  have v := v r4 gr4 qr4
  refine r_if_eq (tgt := 18) C dX5_cycle_13 (by decide) (fun c5 => ?_) (fun c5 => ?_)
  · have v := v.1 c5
    refine r_aload_n 0 C dX5_cycle_18 rfl ?_
    refine gf_X5_44 C dX5_cycle_19 ?_
    refine r_iload_n 1 C dX5_cycle_22 rfl ?_
    obtain ⟨o6, v⟩ := v
    refine s_callv [a1] [] C dX5_cycle_23 ck_X5_187 (r := 5) (fY := 1) (nY := 21) rfl rfl (by decide) (by decide) (Nat.le_of_ble_eq_true rfl) rfl (MY := [5, 26, 27]) hXM (by decide) (by rw [hXl]; exact c_X3_markCycle a1 h0 o6) (fun h7 fh7 kh7 qh7 => ?_)
    have v := v h7 fh7 kh7 qh7
    refine r_aload_n 0 C dX5_cycle_26 rfl ?_
    refine gf_X5_44 C dX5_cycle_27 ?_
    refine gf_X5_190 C dX5_cycle_30 ?_
    exact r_ireturn C dX5_cycle_33 hXr (Nat.zero_le _) (by rw [hXP]; exact v)
  · have v := v.2 c5
    refine r_iconst C dX5_cycle_16 ⟨by decide, by decide⟩ ?_
    exact r_ireturn C dX5_cycle_17 hXr (Nat.zero_le _) (by rw [hXP]; exact v)

def V_X5_side_51 (P : Int → Hp → Prop) (Px : String → Prop) (h0 : Hp) (mc : Nat) (p_X5_checkEdge : Int → Hp → Prop) (t_X5_checkEdge : Int → Hp → Prop) (p_X5_checkPlane : Hp → Prop) (t_X5_checkPlane : Hp → Prop) (p_X4_holds : Int → Hp → Prop) (q_X4_holds : Int → Hp → Int → Prop) (p_X3_partBy : Int → Hp → Prop) (q_X3_partBy : Int → Hp → Hp → Prop) (h : Hp) (y0 : Int) : Prop :=
  P y0 h
def V_X5_side (P : Int → Hp → Prop) (Px : String → Prop) (h0 : Hp) (mc : Nat) (p_X5_checkEdge : Int → Hp → Prop) (t_X5_checkEdge : Int → Hp → Prop) (p_X5_checkPlane : Hp → Prop) (t_X5_checkPlane : Hp → Prop) (p_X4_holds : Int → Hp → Prop) (q_X4_holds : Int → Hp → Int → Prop) (p_X3_partBy : Int → Hp → Prop) (q_X3_partBy : Int → Hp → Hp → Prop) (a1 : Int) (a2 : Int) : Prop :=
  p_X5_checkEdge a1 h0 ∧ ((t_X5_checkEdge a1 h0 → Px "java/lang/IndexOutOfBoundsException" ∧ h0 = h0 ∧ 1 ≤ mc) ∧ (¬ t_X5_checkEdge a1 h0 → (p_X5_checkPlane h0 ∧ ((t_X5_checkPlane h0 → Px "java/lang/IllegalStateException" ∧ h0 = h0 ∧ 1 ≤ mc) ∧ (¬ t_X5_checkPlane h0 → (p_X4_holds a1 h0 ∧ (∀ r6 : Int, InR r6 → q_X4_holds a1 h0 r6 → ((r6 = 0 → p_X3_partBy a1 h0 ∧ (∀ h9 : Hp, Fr [5, 26, 27, 28, 29] h0 h9 → RH h9 → q_X3_partBy a1 h0 h9 → ((a2 = 0 → V_X5_side_51 P Px h0 mc p_X5_checkEdge t_X5_checkEdge p_X5_checkPlane t_X5_checkPlane p_X4_holds q_X4_holds p_X3_partBy q_X3_partBy h9 (h9 5 10)) ∧ (¬ a2 = 0 → V_X5_side_51 P Px h0 mc p_X5_checkEdge t_X5_checkEdge p_X5_checkPlane t_X5_checkPlane p_X4_holds q_X4_holds p_X3_partBy q_X3_partBy h9 (h9 5 9))))) ∧ (¬ r6 = 0 → P 0 h0)))))))))
set_option maxHeartbeats 4000000 in
set_option maxRecDepth 100000 in
theorem w_X5_side {l : Launch} (P : Int → Hp → Prop) (Px : String → Prop) (h0 : Hp) (mc : Nat) (p_X5_checkEdge : Int → Hp → Prop) (t_X5_checkEdge : Int → Hp → Prop) (p_X5_checkPlane : Hp → Prop) (t_X5_checkPlane : Hp → Prop) (p_X4_holds : Int → Hp → Prop) (q_X4_holds : Int → Hp → Int → Prop) (p_X3_partBy : Int → Hp → Prop) (q_X3_partBy : Int → Hp → Hp → Prop) (a1 : Int) (a2 : Int)
    (c_X5_checkEdge : ∀ (b1 : Int) (h : Hp) (mc : Nat), p_X5_checkEdge b1 h → (t_X5_checkEdge b1 h → 1 ≤ mc) → Ct l yX5_checkEdge cX5_checkEdge 2 none 6 82 mc [vr 0, vi b1] h [] (fun _ _ => ¬ t_X5_checkEdge b1 h ∧ True) (fun E => t_X5_checkEdge b1 h ∧ E = "java/lang/IndexOutOfBoundsException"))
    (c_X5_checkPlane : ∀ (h : Hp) (mc : Nat), p_X5_checkPlane h → (t_X5_checkPlane h → 1 ≤ mc) → Ct l yX5_checkPlane cX5_checkPlane 1 none 6 82 mc [vr 0] h [] (fun _ _ => ¬ t_X5_checkPlane h ∧ True) (fun E => t_X5_checkPlane h ∧ E = "java/lang/IllegalStateException"))
    (c_X4_holds : ∀ (b1 : Int) (h : Hp), p_X4_holds b1 h → Ct l yX4_holds cX4_holds 2 (some .boolean) 0 0 0 [vr 3, vi b1] h [] (fun r _ => q_X4_holds b1 h r) (fun _ => False))
    (c_X3_partBy : ∀ (b1 : Int) (h : Hp), p_X3_partBy b1 h → Ct l yX3_partBy cX3_partBy 2 none 3 67 0 [vr 5, vi b1] h [5, 26, 27, 28, 29] (fun _ h1 => q_X3_partBy b1 h h1) (fun _ => False))
    (o : RH h0 → InR a1 → InR a2 → V_X5_side P Px h0 mc p_X5_checkEdge t_X5_checkEdge p_X5_checkPlane t_X5_checkPlane p_X4_holds q_X4_holds p_X3_partBy q_X3_partBy a1 a2) :
    Ct l yX5_side cX5_side 3 (some .int) 7 103 mc [vr 0, vi a1, vi a2] h0 [5, 26, 27, 28, 29] P Px := by
  refine Ct.of (own := RX5) (by decide) rfl (Nat.le_of_ble_eq_true rfl) ?_
  intro X C hXl hXM hXh hXP hXX hXc hXr hav hR0
  have hmain : V_X5_side P Px h0 mc p_X5_checkEdge t_X5_checkEdge p_X5_checkPlane t_X5_checkPlane p_X4_holds q_X4_holds p_X3_partBy q_X3_partBy a1 a2 := o hR0 (hav (vi a1) (by simp)) (hav (vi a2) (by simp))
  have B_51 : ∀ (h : Hp) (y0 : Int), V_X5_side_51 P Px h0 mc p_X5_checkEdge t_X5_checkEdge p_X5_checkPlane t_X5_checkPlane p_X4_holds q_X4_holds p_X3_partBy q_X3_partBy h y0 → Wh X 51 [(0, vr 0)] [vi y0] h 0 := by
    intro h y0 v
    unfold V_X5_side_51 at v
    exact r_ireturn C dX5_side_51 hXr (Nat.zero_le _) (by rw [hXP]; exact v)
  show Wh X 0 [(0, vr 0), (1, vi a1), (2, vi a2)] [] h0 0
  have v := hmain
  unfold V_X5_side at v
  refine r_aload_n 0 C dX5_side_0 rfl ?_
  refine r_iload_n 1 C dX5_side_1 rfl ?_
  obtain ⟨o2, v⟩ := v
  refine s_callx (tf := t_X5_checkEdge a1 h0) (E0 := "java/lang/IndexOutOfBoundsException") [a1] [] C dX5_side_2 ck_X5_103 (r := 0) (fY := 6) (nY := 82) rfl rfl (by decide) (by decide) (Nat.le_of_ble_eq_true rfl) rfl (by rw [hXl]; exact fun mc => c_X5_checkEdge a1 h0 mc o2) (fun z => by rw [hXX, hXh, hXc]; exact v.1 z) (fun o1 _ => ?_)
  have v := v.2 o1
  refine r_aload_n 0 C dX5_side_5 rfl ?_
  obtain ⟨o4, v⟩ := v
  refine s_callx (tf := t_X5_checkPlane h0) (E0 := "java/lang/IllegalStateException") [] [] C dX5_side_6 ck_X5_151 (r := 0) (fY := 6) (nY := 82) rfl rfl (by decide) (by decide) (Nat.le_of_ble_eq_true rfl) rfl (by rw [hXl]; exact fun mc => c_X5_checkPlane h0 mc o4) (fun z => by rw [hXX, hXh, hXc]; exact v.1 z) (fun o3 _ => ?_)
  have v := v.2 o3
  refine r_aload_n 0 C dX5_side_9 rfl ?_
  refine gf_X5_28 C dX5_side_10 ?_
  refine r_iload_n 1 C dX5_side_13 rfl ?_
  obtain ⟨o5, v⟩ := v
  refine s_calli0 [a1] [] C dX5_side_14 ck_X5_183 (r := 3) (fY := 0) (nY := 0) rfl rfl (by decide) (by decide) (Nat.le_of_ble_eq_true rfl) rfl (by rw [hXl]; exact c_X4_holds a1 h0 o5) (fun r6 gr6 qr6 => ?_)
  have v := v r6 gr6 qr6
  refine r_if_eq (tgt := 22) C dX5_side_17 (by decide) (fun c7 => ?_) (fun c7 => ?_)
  · have v := v.1 c7
    refine r_aload_n 0 C dX5_side_22 rfl ?_
    refine gf_X5_44 C dX5_side_23 ?_
    refine r_iload_n 1 C dX5_side_26 rfl ?_
    obtain ⟨o8, v⟩ := v
    refine s_callv [a1] [] C dX5_side_27 ck_X5_193 (r := 5) (fY := 3) (nY := 67) rfl rfl (by decide) (by decide) (Nat.le_of_ble_eq_true rfl) rfl (MY := [5, 26, 27, 28, 29]) hXM (by decide) (by rw [hXl]; exact c_X3_partBy a1 h0 o8) (fun h9 fh9 kh9 qh9 => ?_)
    have v := v h9 fh9 kh9 qh9
    refine r_iload_n 2 C dX5_side_30 rfl ?_
    refine r_if_eq (tgt := 44) C dX5_side_31 (by decide) (fun c10 => ?_) (fun c10 => ?_)
    · have v := v.1 c10
      refine r_aload_n 0 C dX5_side_44 rfl ?_
      refine gf_X5_44 C dX5_side_45 ?_
      refine gf_X5_199 C dX5_side_48 ?_
      exact s_sub [0] rfl (B_51 _ _ v)
    · have v := v.2 c10
      refine r_aload_n 0 C dX5_side_34 rfl ?_
      refine gf_X5_44 C dX5_side_35 ?_
      refine gf_X5_196 C dX5_side_38 ?_
      refine r_goto (tgt := 51) C dX5_side_41 (by decide) ?_
      exact s_sub [0] rfl (B_51 _ _ v)
  · have v := v.2 c7
    refine r_iconst C dX5_side_20 ⟨by decide, by decide⟩ ?_
    exact r_ireturn C dX5_side_21 hXr (Nat.zero_le _) (by rw [hXP]; exact v)

def V_X5_best_135 (P : Int → Hp → Prop) (Px : String → Prop) (h0 : Hp) (mc : Nat) (p_X5_checkPlane : Hp → Prop) (t_X5_checkPlane : Hp → Prop) (p_X4_holds : Int → Hp → Prop) (q_X4_holds : Int → Hp → Int → Prop) (p_X3_partBy : Int → Hp → Prop) (q_X3_partBy : Int → Hp → Hp → Prop) (I_13 : Nat → Hp → Int → Int → Int → Int → Prop) (n_13 : Nat) (h : Hp) (x1 : Int) (x2 : Int) (x3 : Int) (x4 : Int) : Prop :=
  InR (x4 + 1) ∧ (∀ z1 : Int, z1 = x4 + 1 → (∃ n', n' < n_13 ∧ I_13 n' h x1 x2 x3 z1))
def V_X5_best_121 (P : Int → Hp → Prop) (Px : String → Prop) (h0 : Hp) (mc : Nat) (p_X5_checkPlane : Hp → Prop) (t_X5_checkPlane : Hp → Prop) (p_X4_holds : Int → Hp → Prop) (q_X4_holds : Int → Hp → Int → Prop) (p_X3_partBy : Int → Hp → Prop) (q_X3_partBy : Int → Hp → Hp → Prop) (I_13 : Nat → Hp → Int → Int → Int → Int → Prop) (n_13 : Nat) (h : Hp) (x4 : Int) (x5 : Int) : Prop :=
  ∀ z3 : Int, z3 = x4 → (∀ z4 : Int, z4 = x5 → (∀ z5 : Int, z5 = (h 5 8) → (V_X5_best_135 P Px h0 mc p_X5_checkPlane t_X5_checkPlane p_X4_holds q_X4_holds p_X3_partBy q_X3_partBy I_13 n_13 h z3 z4 z5 x4)))
def V_X5_best_109 (P : Int → Hp → Prop) (Px : String → Prop) (h0 : Hp) (mc : Nat) (p_X5_checkPlane : Hp → Prop) (t_X5_checkPlane : Hp → Prop) (p_X4_holds : Int → Hp → Prop) (q_X4_holds : Int → Hp → Int → Prop) (p_X3_partBy : Int → Hp → Prop) (q_X3_partBy : Int → Hp → Hp → Prop) (I_13 : Nat → Hp → Int → Int → Int → Int → Prop) (n_13 : Nat) (h : Hp) (x1 : Int) (x2 : Int) (x3 : Int) (x4 : Int) (x5 : Int) (y0 : Int) : Prop :=
  ∀ z6 : Int, z6 = y0 → ((x1 = (-1) → V_X5_best_121 P Px h0 mc p_X5_checkPlane t_X5_checkPlane p_X4_holds q_X4_holds p_X3_partBy q_X3_partBy I_13 n_13 h x4 x5) ∧ (¬ x1 = (-1) → (z6 = 0 → V_X5_best_135 P Px h0 mc p_X5_checkPlane t_X5_checkPlane p_X4_holds q_X4_holds p_X3_partBy q_X3_partBy I_13 n_13 h x1 x2 x3 x4) ∧ (¬ z6 = 0 → V_X5_best_121 P Px h0 mc p_X5_checkPlane t_X5_checkPlane p_X4_holds q_X4_holds p_X3_partBy q_X3_partBy I_13 n_13 h x4 x5)))
def V_X5_best_104 (P : Int → Hp → Prop) (Px : String → Prop) (h0 : Hp) (mc : Nat) (p_X5_checkPlane : Hp → Prop) (t_X5_checkPlane : Hp → Prop) (p_X4_holds : Int → Hp → Prop) (q_X4_holds : Int → Hp → Int → Prop) (p_X3_partBy : Int → Hp → Prop) (q_X3_partBy : Int → Hp → Hp → Prop) (I_13 : Nat → Hp → Int → Int → Int → Int → Prop) (n_13 : Nat) (h : Hp) (x1 : Int) (x2 : Int) (x3 : Int) (x4 : Int) (x5 : Int) : Prop :=
  V_X5_best_109 P Px h0 mc p_X5_checkPlane t_X5_checkPlane p_X4_holds q_X4_holds p_X3_partBy q_X3_partBy I_13 n_13 h x1 x2 x3 x4 x5 1
def V_X5_best_108 (P : Int → Hp → Prop) (Px : String → Prop) (h0 : Hp) (mc : Nat) (p_X5_checkPlane : Hp → Prop) (t_X5_checkPlane : Hp → Prop) (p_X4_holds : Int → Hp → Prop) (q_X4_holds : Int → Hp → Int → Prop) (p_X3_partBy : Int → Hp → Prop) (q_X3_partBy : Int → Hp → Hp → Prop) (I_13 : Nat → Hp → Int → Int → Int → Int → Prop) (n_13 : Nat) (h : Hp) (x1 : Int) (x2 : Int) (x3 : Int) (x4 : Int) (x5 : Int) : Prop :=
  V_X5_best_109 P Px h0 mc p_X5_checkPlane t_X5_checkPlane p_X4_holds q_X4_holds p_X3_partBy q_X3_partBy I_13 n_13 h x1 x2 x3 x4 x5 0
def V_X5_best_13 (P : Int → Hp → Prop) (Px : String → Prop) (h0 : Hp) (mc : Nat) (p_X5_checkPlane : Hp → Prop) (t_X5_checkPlane : Hp → Prop) (p_X4_holds : Int → Hp → Prop) (q_X4_holds : Int → Hp → Int → Prop) (p_X3_partBy : Int → Hp → Prop) (q_X3_partBy : Int → Hp → Hp → Prop) (I_13 : Nat → Hp → Int → Int → Int → Int → Prop) (n_13 : Nat) (h : Hp) (x1 : Int) (x2 : Int) (x3 : Int) (x4 : Int) : Prop :=
  ((h 1 7) ≤ x4 → P x1 h) ∧ (¬ (h 1 7) ≤ x4 → ((0 : Int) ≤ x4 ∧ (x4 : Int) < 100) ∧ (((h 9 x4) = 0 → V_X5_best_135 P Px h0 mc p_X5_checkPlane t_X5_checkPlane p_X4_holds q_X4_holds p_X3_partBy q_X3_partBy I_13 n_13 h x1 x2 x3 x4) ∧ (¬ (h 9 x4) = 0 → p_X4_holds x4 h ∧ (∀ r13 : Int, InR r13 → q_X4_holds x4 h r13 → ((r13 = 0 → p_X3_partBy x4 h ∧ (∀ h16 : Hp, Fr [5, 26, 27, 28, 29] h h16 → RH h16 → q_X3_partBy x4 h h16 → (∀ z17 : Int, z17 = (max (h16 5 9) (h16 5 10)) → ((z17 < x2 → V_X5_best_104 P Px h0 mc p_X5_checkPlane t_X5_checkPlane p_X4_holds q_X4_holds p_X3_partBy q_X3_partBy I_13 n_13 h16 x1 x2 x3 x4 z17) ∧ (¬ z17 < x2 → (¬ z17 = x2 → V_X5_best_108 P Px h0 mc p_X5_checkPlane t_X5_checkPlane p_X4_holds q_X4_holds p_X3_partBy q_X3_partBy I_13 n_13 h16 x1 x2 x3 x4 z17) ∧ (z17 = x2 → (x3 ≤ (h16 5 8) → V_X5_best_108 P Px h0 mc p_X5_checkPlane t_X5_checkPlane p_X4_holds q_X4_holds p_X3_partBy q_X3_partBy I_13 n_13 h16 x1 x2 x3 x4 z17) ∧ (¬ x3 ≤ (h16 5 8) → V_X5_best_104 P Px h0 mc p_X5_checkPlane t_X5_checkPlane p_X4_holds q_X4_holds p_X3_partBy q_X3_partBy I_13 n_13 h16 x1 x2 x3 x4 z17))))))) ∧ (¬ r13 = 0 → V_X5_best_135 P Px h0 mc p_X5_checkPlane t_X5_checkPlane p_X4_holds q_X4_holds p_X3_partBy q_X3_partBy I_13 n_13 h x1 x2 x3 x4))))))
def V_X5_best (P : Int → Hp → Prop) (Px : String → Prop) (h0 : Hp) (mc : Nat) (p_X5_checkPlane : Hp → Prop) (t_X5_checkPlane : Hp → Prop) (p_X4_holds : Int → Hp → Prop) (q_X4_holds : Int → Hp → Int → Prop) (p_X3_partBy : Int → Hp → Prop) (q_X3_partBy : Int → Hp → Hp → Prop) (I_13 : Nat → Hp → Int → Int → Int → Int → Prop) : Prop :=
  p_X5_checkPlane h0 ∧ ((t_X5_checkPlane h0 → Px "java/lang/IllegalStateException" ∧ h0 = h0 ∧ 1 ≤ mc) ∧ (¬ t_X5_checkPlane h0 → (∀ z23 : Int, z23 = (-1) → (∀ z24 : Int, z24 = 0 → (∀ z25 : Int, z25 = 0 → (∀ z26 : Int, z26 = 0 → (∃ n', I_13 n' h0 z23 z24 z25 z26)))))))
set_option maxHeartbeats 4000000 in
set_option maxRecDepth 100000 in
theorem w_X5_best {l : Launch} (P : Int → Hp → Prop) (Px : String → Prop) (h0 : Hp) (mc : Nat) (p_X5_checkPlane : Hp → Prop) (t_X5_checkPlane : Hp → Prop) (p_X4_holds : Int → Hp → Prop) (q_X4_holds : Int → Hp → Int → Prop) (p_X3_partBy : Int → Hp → Prop) (q_X3_partBy : Int → Hp → Hp → Prop) (I_13 : Nat → Hp → Int → Int → Int → Int → Prop)
    (c_X5_checkPlane : ∀ (h : Hp) (mc : Nat), p_X5_checkPlane h → (t_X5_checkPlane h → 1 ≤ mc) → Ct l yX5_checkPlane cX5_checkPlane 1 none 6 82 mc [vr 0] h [] (fun _ _ => ¬ t_X5_checkPlane h ∧ True) (fun E => t_X5_checkPlane h ∧ E = "java/lang/IllegalStateException"))
    (c_X4_holds : ∀ (b1 : Int) (h : Hp), p_X4_holds b1 h → Ct l yX4_holds cX4_holds 2 (some .boolean) 0 0 0 [vr 3, vi b1] h [] (fun r _ => q_X4_holds b1 h r) (fun _ => False))
    (c_X3_partBy : ∀ (b1 : Int) (h : Hp), p_X3_partBy b1 h → Ct l yX3_partBy cX3_partBy 2 none 3 67 0 [vr 5, vi b1] h [5, 26, 27, 28, 29] (fun _ h1 => q_X3_partBy b1 h h1) (fun _ => False))
    (o_13 : ∀ (n_13 : Nat) (h : Hp) (x1 : Int) (x2 : Int) (x3 : Int) (x4 : Int), RH h → Fr [5, 26, 27, 28, 29] h0 h → InR x1 → InR x2 → InR x3 → InR x4 → I_13 n_13 h x1 x2 x3 x4 → V_X5_best_13 P Px h0 mc p_X5_checkPlane t_X5_checkPlane p_X4_holds q_X4_holds p_X3_partBy q_X3_partBy I_13 n_13 h x1 x2 x3 x4)
    (o : RH h0 → V_X5_best P Px h0 mc p_X5_checkPlane t_X5_checkPlane p_X4_holds q_X4_holds p_X3_partBy q_X3_partBy I_13) :
    Ct l yX5_best cX5_best 7 (some .int) 7 102 mc [vr 0] h0 [5, 26, 27, 28, 29] P Px := by
  refine Ct.of (own := RX5) (by decide) rfl (Nat.le_of_ble_eq_true rfl) ?_
  intro X C hXl hXM hXh hXP hXX hXc hXr hav hR0
  have hmain : V_X5_best P Px h0 mc p_X5_checkPlane t_X5_checkPlane p_X4_holds q_X4_holds p_X3_partBy q_X3_partBy I_13 := o hR0 
  have B_13 : ∀ (n_13 : Nat) (h : Hp) (x1 : Int) (x2 : Int) (x3 : Int) (x4 : Int), I_13 n_13 h x1 x2 x3 x4 → Wh X 13 [(0, vr 0), (1, vi x1), (2, vi x2), (3, vi x3), (4, vi x4)] [] h 0 := by
    intro n_13
    induction n_13 using Nat.strongRecOn with
    | _ n_13 ih_13 =>
      intro h x1 x2 x3 x4 hI
      refine s_use fun hR hF hL => ?_
      have v := o_13 n_13 h x1 x2 x3 x4 hR (by rw [hXM, hXh] at hF; exact hF) (hL (1, vi x1) (by simp)) (hL (2, vi x2) (by simp)) (hL (3, vi x3) (by simp)) (hL (4, vi x4) (by simp)) hI
      unfold V_X5_best_13 at v
      have B_135 : ∀ (h : Hp) (x1 : Int) (x2 : Int) (x3 : Int) (x4 : Int), V_X5_best_135 P Px h0 mc p_X5_checkPlane t_X5_checkPlane p_X4_holds q_X4_holds p_X3_partBy q_X3_partBy I_13 n_13 h x1 x2 x3 x4 → Wh X 135 [(0, vr 0), (1, vi x1), (2, vi x2), (3, vi x3), (4, vi x4)] [] h 0 := by
        intro h x1 x2 x3 x4 v
        unfold V_X5_best_135 at v
        obtain ⟨o2, v⟩ := v
        refine s_iinc 4 C dX5_best_135 rfl (by decide) o2 (fun z1 ez1 => ?_)
        have v := v z1 ez1
        show Wh X 138 [(4, vi z1), (0, vr 0), (1, vi x1), (2, vi x2), (3, vi x3)] [] h 0
        refine r_goto (tgt := 13) C dX5_best_138 (by decide) ?_
        obtain ⟨n', hn', hI'⟩ := v
        exact s_sub [1, 2, 3, 4, 0] rfl (ih_13 n' hn' _ _ _ _ _ hI')
      have B_121 : ∀ (h : Hp) (x4 : Int) (x5 : Int), V_X5_best_121 P Px h0 mc p_X5_checkPlane t_X5_checkPlane p_X4_holds q_X4_holds p_X3_partBy q_X3_partBy I_13 n_13 h x4 x5 → Wh X 121 [(0, vr 0), (4, vi x4), (5, vi x5)] [] h 0 := by
        intro h x4 x5 v
        unfold V_X5_best_121 at v
        refine r_iload 1 C dX5_best_121 rfl ?_
        refine s_istore_n C dX5_best_123 (by decide) (fun z3 ez3 => ?_)
        have v := v z3 ez3
        show Wh X 124 [(1, vi z3), (0, vr 0), (4, vi x4), (5, vi x5)] [] h 0
        refine r_iload 3 C dX5_best_124 rfl ?_
        refine s_istore_n C dX5_best_126 (by decide) (fun z4 ez4 => ?_)
        have v := v z4 ez4
        show Wh X 127 [(2, vi z4), (1, vi z3), (0, vr 0), (4, vi x4), (5, vi x5)] [] h 0
        refine r_aload_n 2 C dX5_best_127 rfl ?_
        refine gf_X5_44 C dX5_best_128 ?_
        refine gf_X5_190 C dX5_best_131 ?_
        refine s_istore_n C dX5_best_134 (by decide) (fun z5 ez5 => ?_)
        have v := v z5 ez5
        show Wh X 135 [(3, vi z5), (2, vi z4), (1, vi z3), (0, vr 0), (4, vi x4), (5, vi x5)] [] h 0
        exact s_sub [3, 2, 1, 0, 4] rfl (B_135 _ _ _ _ _ v)
      have B_109 : ∀ (h : Hp) (x1 : Int) (x2 : Int) (x3 : Int) (x4 : Int) (x5 : Int) (y0 : Int), V_X5_best_109 P Px h0 mc p_X5_checkPlane t_X5_checkPlane p_X4_holds q_X4_holds p_X3_partBy q_X3_partBy I_13 n_13 h x1 x2 x3 x4 x5 y0 → Wh X 109 [(0, vr 0), (1, vi x1), (2, vi x2), (3, vi x3), (4, vi x4), (5, vi x5)] [vi y0] h 0 := by
        intro h x1 x2 x3 x4 x5 y0 v
        unfold V_X5_best_109 at v
        refine s_istore C dX5_best_109 (by decide) (fun z6 ez6 => ?_)
        have v := v z6 ez6
        show Wh X 111 [(6, vi z6), (0, vr 0), (1, vi x1), (2, vi x2), (3, vi x3), (4, vi x4), (5, vi x5)] [] h 0
        refine r_iload_n 2 C dX5_best_111 rfl ?_
        refine r_iconst C dX5_best_112 ⟨by decide, by decide⟩ ?_
        refine r_icmp_eq (tgt := 121) C dX5_best_113 (by decide) (fun c7 => ?_) (fun c7 => ?_)
        · have v := v.1 c7
          exact s_sub [1, 5, 6] rfl (B_121 _ _ _ v)
        · have v := v.2 c7
          refine r_iload 0 C dX5_best_116 rfl ?_
          refine r_if_eq (tgt := 135) C dX5_best_118 (by decide) (fun c8 => ?_) (fun c8 => ?_)
          · have v := v.1 c8
            exact s_sub [1, 2, 3, 4, 5] rfl (B_135 _ _ _ _ _ v)
          · have v := v.2 c8
            exact s_sub [1, 5, 6] rfl (B_121 _ _ _ v)
      have B_104 : ∀ (h : Hp) (x1 : Int) (x2 : Int) (x3 : Int) (x4 : Int) (x5 : Int), V_X5_best_104 P Px h0 mc p_X5_checkPlane t_X5_checkPlane p_X4_holds q_X4_holds p_X3_partBy q_X3_partBy I_13 n_13 h x1 x2 x3 x4 x5 → Wh X 104 [(0, vr 0), (1, vi x1), (2, vi x2), (3, vi x3), (4, vi x4), (5, vi x5)] [] h 0 := by
        intro h x1 x2 x3 x4 x5 v
        unfold V_X5_best_104 at v
        refine r_iconst C dX5_best_104 ⟨by decide, by decide⟩ ?_
        refine r_goto (tgt := 109) C dX5_best_105 (by decide) ?_
        exact s_sub [0, 1, 2, 3, 4, 5] rfl (B_109 _ _ _ _ _ _ _ v)
      have B_108 : ∀ (h : Hp) (x1 : Int) (x2 : Int) (x3 : Int) (x4 : Int) (x5 : Int), V_X5_best_108 P Px h0 mc p_X5_checkPlane t_X5_checkPlane p_X4_holds q_X4_holds p_X3_partBy q_X3_partBy I_13 n_13 h x1 x2 x3 x4 x5 → Wh X 108 [(0, vr 0), (1, vi x1), (2, vi x2), (3, vi x3), (4, vi x4), (5, vi x5)] [] h 0 := by
        intro h x1 x2 x3 x4 x5 v
        unfold V_X5_best_108 at v
        refine r_iconst C dX5_best_108 ⟨by decide, by decide⟩ ?_
        exact s_sub [0, 1, 2, 3, 4, 5] rfl (B_109 _ _ _ _ _ _ _ v)
      refine r_iload 4 C dX5_best_13 rfl ?_
      refine r_aload_n 0 C dX5_best_15 rfl ?_
      refine gf_X5_12 C dX5_best_16 ?_
      refine gf_X5_91 C dX5_best_19 ?_
      refine r_icmp_ge (tgt := 141) C dX5_best_22 (by decide) (fun c9 => ?_) (fun c9 => ?_)
      · have v := v.1 c9
        refine r_iload_n 1 C dX5_best_141 rfl ?_
        exact r_ireturn C dX5_best_142 hXr (Nat.zero_le _) (by rw [hXP]; exact v)
      · have v := v.2 c9
        refine r_aload_n 0 C dX5_best_25 rfl ?_
        refine gf_X5_12 C dX5_best_26 ?_
        refine gf_X5_202 C dX5_best_29 ?_
        refine r_iload 4 C dX5_best_32 rfl ?_
        obtain ⟨o10, v⟩ := v
        refine r_baload (r := 9) (N := 100) C dX5_best_34 rfl o10 ?_
        refine r_if_eq (tgt := 135) C dX5_best_35 (by decide) (fun c11 => ?_) (fun c11 => ?_)
        · have v := v.1 c11
          exact s_sub [0, 1, 2, 3, 4] rfl (B_135 _ _ _ _ _ v)
        · have v := v.2 c11
          refine r_aload_n 0 C dX5_best_38 rfl ?_
          refine gf_X5_28 C dX5_best_39 ?_
          refine r_iload 4 C dX5_best_42 rfl ?_
          obtain ⟨o12, v⟩ := v
          refine s_calli0 [x4] [] C dX5_best_44 ck_X5_183 (r := 3) (fY := 0) (nY := 0) rfl rfl (by decide) (by decide) (Nat.le_of_ble_eq_true rfl) rfl (by rw [hXl]; exact c_X4_holds x4 h o12) (fun r13 gr13 qr13 => ?_)
          have v := v r13 gr13 qr13
          refine r_if_eq (tgt := 53) C dX5_best_47 (by decide) (fun c14 => ?_) (fun c14 => ?_)
          · have v := v.1 c14
            refine r_aload_n 0 C dX5_best_53 rfl ?_
            refine gf_X5_44 C dX5_best_54 ?_
            refine r_iload 4 C dX5_best_57 rfl ?_
            obtain ⟨o15, v⟩ := v
            refine s_callv [x4] [] C dX5_best_59 ck_X5_193 (r := 5) (fY := 3) (nY := 67) rfl rfl (by decide) (by decide) (Nat.le_of_ble_eq_true rfl) rfl (MY := [5, 26, 27, 28, 29]) hXM (by decide) (by rw [hXl]; exact c_X3_partBy x4 h o15) (fun h16 fh16 kh16 qh16 => ?_)
            have v := v h16 fh16 kh16 qh16
            refine r_aload_n 0 C dX5_best_62 rfl ?_
            refine gf_X5_44 C dX5_best_63 ?_
            refine gf_X5_196 C dX5_best_66 ?_
            refine r_aload_n 0 C dX5_best_69 rfl ?_
            refine gf_X5_44 C dX5_best_70 ?_
            refine gf_X5_199 C dX5_best_73 ?_
            refine s_max C dX5_best_76 (by decide +kernel) (by decide +kernel) (by decide +kernel) (by decide +kernel) (Nat.le_of_ble_eq_true rfl) (by decide) (by decide) ?_
            refine s_istore C dX5_best_79 (by decide) (fun z17 ez17 => ?_)
            have v := v z17 ez17
            show Wh X 81 [(5, vi z17), (0, vr 0), (1, vi x1), (2, vi x2), (3, vi x3), (4, vi x4)] [] h16 0
            refine r_iload 0 C dX5_best_81 rfl ?_
            refine r_iload_n 3 C dX5_best_83 rfl ?_
            refine r_icmp_lt (tgt := 104) C dX5_best_84 (by decide) (fun c18 => ?_) (fun c18 => ?_)
            · have v := v.1 c18
              exact s_sub [1, 2, 3, 4, 5, 0] rfl (B_104 _ _ _ _ _ _ v)
            · have v := v.2 c18
              refine r_iload 0 C dX5_best_87 rfl ?_
              refine r_iload_n 3 C dX5_best_89 rfl ?_
              refine r_icmp_ne (tgt := 108) C dX5_best_90 (by decide) (fun c19 => ?_) (fun c19 => ?_)
              · have v := v.1 c19
                exact s_sub [1, 2, 3, 4, 5, 0] rfl (B_108 _ _ _ _ _ _ v)
              · have v := v.2 c19
                refine r_aload_n 1 C dX5_best_93 rfl ?_
                refine gf_X5_44 C dX5_best_94 ?_
                refine gf_X5_190 C dX5_best_97 ?_
                refine r_iload_n 4 C dX5_best_100 rfl ?_
                refine r_icmp_ge (tgt := 108) C dX5_best_101 (by decide) (fun c20 => ?_) (fun c20 => ?_)
                · have v := v.1 c20
                  exact s_sub [1, 2, 3, 4, 5, 0] rfl (B_108 _ _ _ _ _ _ v)
                · have v := v.2 c20
                  exact s_sub [1, 2, 3, 4, 5, 0] rfl (B_104 _ _ _ _ _ _ v)
          · have v := v.2 c14
            refine r_goto (tgt := 135) C dX5_best_50 (by decide) ?_
            exact s_sub [0, 1, 2, 3, 4] rfl (B_135 _ _ _ _ _ v)
  show Wh X 0 [(0, vr 0)] [] h0 0
  have v := hmain
  unfold V_X5_best at v
  refine r_aload_n 0 C dX5_best_0 rfl ?_
  obtain ⟨o22, v⟩ := v
  refine s_callx (tf := t_X5_checkPlane h0) (E0 := "java/lang/IllegalStateException") [] [] C dX5_best_1 ck_X5_151 (r := 0) (fY := 6) (nY := 82) rfl rfl (by decide) (by decide) (Nat.le_of_ble_eq_true rfl) rfl (by rw [hXl]; exact fun mc => c_X5_checkPlane h0 mc o22) (fun z => by rw [hXX, hXh, hXc]; exact v.1 z) (fun o21 _ => ?_)
  have v := v.2 o21
  refine r_iconst C dX5_best_4 ⟨by decide, by decide⟩ ?_
  refine s_istore_n C dX5_best_5 (by decide) (fun z23 ez23 => ?_)
  have v := v z23 ez23
  show Wh X 6 [(1, vi z23), (0, vr 0)] [] h0 0
  refine r_iconst C dX5_best_6 ⟨by decide, by decide⟩ ?_
  refine s_istore_n C dX5_best_7 (by decide) (fun z24 ez24 => ?_)
  have v := v z24 ez24
  show Wh X 8 [(2, vi z24), (1, vi z23), (0, vr 0)] [] h0 0
  refine r_iconst C dX5_best_8 ⟨by decide, by decide⟩ ?_
  refine s_istore_n C dX5_best_9 (by decide) (fun z25 ez25 => ?_)
  have v := v z25 ez25
  show Wh X 10 [(3, vi z25), (2, vi z24), (1, vi z23), (0, vr 0)] [] h0 0
  refine r_iconst C dX5_best_10 ⟨by decide, by decide⟩ ?_
  refine s_istore C dX5_best_11 (by decide) (fun z26 ez26 => ?_)
  have v := v z26 ez26
  show Wh X 13 [(4, vi z26), (3, vi z25), (2, vi z24), (1, vi z23), (0, vr 0)] [] h0 0
  obtain ⟨n', hI'⟩ := v
  exact s_sub [4, 3, 2, 1, 0] rfl (B_13 n' _ _ _ _ _ hI')

def V_X5_told_60 (P : Int → Hp → Prop) (p_X0_coloursUsed : Hp → Prop) (q_X0_coloursUsed : Hp → Int → Prop) (p_X5_isPlane : Hp → Prop) (q_X5_isPlane : Hp → Int → Prop) (h : Hp) (y0 : Int) : Prop :=
  P y0 h
def V_X5_told (P : Int → Hp → Prop) (p_X0_coloursUsed : Hp → Prop) (q_X0_coloursUsed : Hp → Int → Prop) (p_X5_isPlane : Hp → Prop) (q_X5_isPlane : Hp → Int → Prop) (h0 : Hp) (a1 : Int) : Prop :=
  (a1 = 0 → P (h0 1 6) h0) ∧ (a1 = 1 → P (h0 1 8) h0) ∧ (a1 = 2 → p_X5_isPlane h0 ∧ (∀ r2 : Int, InR r2 → q_X5_isPlane h0 r2 → ((r2 = 0 → V_X5_told_60 P p_X0_coloursUsed q_X0_coloursUsed p_X5_isPlane q_X5_isPlane h0 0) ∧ (¬ r2 = 0 → V_X5_told_60 P p_X0_coloursUsed q_X0_coloursUsed p_X5_isPlane q_X5_isPlane h0 1)))) ∧ (a1 = 3 → p_X0_coloursUsed h0 ∧ (∀ r5 : Int, InR r5 → q_X0_coloursUsed h0 r5 → (P r5 h0))) ∧ (a1 < 0 ∨ 3 < a1 → P (-1) h0)
set_option maxHeartbeats 4000000 in
set_option maxRecDepth 100000 in
theorem w_X5_told {l : Launch} (P : Int → Hp → Prop) (p_X0_coloursUsed : Hp → Prop) (q_X0_coloursUsed : Hp → Int → Prop) (p_X5_isPlane : Hp → Prop) (q_X5_isPlane : Hp → Int → Prop) (h0 : Hp) (a1 : Int)
    (c_X0_coloursUsed : ∀ (h : Hp), p_X0_coloursUsed h → Ct l yX0_coloursUsed cX0_coloursUsed 3 (some .int) 1 20 0 [vr 4] h [] (fun r _ => q_X0_coloursUsed h r) (fun _ => False))
    (c_X5_isPlane : ∀ (h : Hp), p_X5_isPlane h → Ct l yX5_isPlane cX5_isPlane 1 (some .boolean) 2 43 0 [vr 0] h [] (fun r _ => q_X5_isPlane h r) (fun _ => False))
    (o : RH h0 → InR a1 → V_X5_told P p_X0_coloursUsed q_X0_coloursUsed p_X5_isPlane q_X5_isPlane h0 a1) :
    Ct l yX5_told cX5_told 2 (some .int) 3 63 0 [vr 0, vi a1] h0 [] P (fun _ => False) := by
  refine Ct.of (own := RX5) (by decide) rfl (Nat.le_of_ble_eq_true rfl) ?_
  intro X C hXl hXM hXh hXP hXX hXc hXr hav hR0
  have hmain : V_X5_told P p_X0_coloursUsed q_X0_coloursUsed p_X5_isPlane q_X5_isPlane h0 a1 := o hR0 (hav (vi a1) (by simp))
  have B_60 : ∀ (h : Hp) (y0 : Int), V_X5_told_60 P p_X0_coloursUsed q_X0_coloursUsed p_X5_isPlane q_X5_isPlane h y0 → Wh X 60 [(0, vr 0)] [vi y0] h 0 := by
    intro h y0 v
    unfold V_X5_told_60 at v
    exact r_ireturn C dX5_told_60 hXr (Nat.zero_le _) (by rw [hXP]; exact v)
  show Wh X 0 [(0, vr 0), (1, vi a1)] [] h0 0
  have v := hmain
  unfold V_X5_told at v
  refine r_iload_n 1 C dX5_told_0 rfl ?_
  refine r_tsw (tgd := 69) C dX5_told_1 (by decide) (fun c => ?_) (fun j off e ho => ?_) (fun j hj => ?_)
  · have v := v.2.2.2.2 c
    refine r_iconst C dX5_told_69 ⟨by decide, by decide⟩ ?_
    exact r_ireturn C dX5_told_70 hXr (Nat.zero_le _) (by rw [hXP]; exact v)
  · match j, ho, e with
    | 0, ho, e =>
      cases ho
      refine ⟨32, by decide, ?_⟩
      have v := v.1 (by omega)
      refine r_aload_n 0 C dX5_told_32 rfl ?_
      refine gf_X5_12 C dX5_told_33 ?_
      refine gf_X5_48 C dX5_told_36 ?_
      exact r_ireturn C dX5_told_39 hXr (Nat.zero_le _) (by rw [hXP]; exact v)
    | 1, ho, e =>
      cases ho
      refine ⟨40, by decide, ?_⟩
      have v := v.2.1 (by omega)
      refine r_aload_n 0 C dX5_told_40 rfl ?_
      refine gf_X5_12 C dX5_told_41 ?_
      refine gf_X5_109 C dX5_told_44 ?_
      exact r_ireturn C dX5_told_47 hXr (Nat.zero_le _) (by rw [hXP]; exact v)
    | 2, ho, e =>
      cases ho
      refine ⟨48, by decide, ?_⟩
      have v := v.2.2.1 (by omega)
      refine r_aload_n 0 C dX5_told_48 rfl ?_
      obtain ⟨o1, v⟩ := v
      refine s_calli0 [] [] C dX5_told_49 ck_X5_212 (r := 0) (fY := 2) (nY := 43) rfl rfl (by decide) (by decide) (Nat.le_of_ble_eq_true rfl) rfl (by rw [hXl]; exact c_X5_isPlane h0 o1) (fun r2 gr2 qr2 => ?_)
      have v := v r2 gr2 qr2
      refine r_if_eq (tgt := 59) C dX5_told_52 (by decide) (fun c3 => ?_) (fun c3 => ?_)
      · have v := v.1 c3
        refine r_iconst C dX5_told_59 ⟨by decide, by decide⟩ ?_
        exact s_sub [0] rfl (B_60 _ _ v)
      · have v := v.2 c3
        refine r_iconst C dX5_told_55 ⟨by decide, by decide⟩ ?_
        refine r_goto (tgt := 60) C dX5_told_56 (by decide) ?_
        exact s_sub [0] rfl (B_60 _ _ v)
    | 3, ho, e =>
      cases ho
      refine ⟨61, by decide, ?_⟩
      have v := v.2.2.2.1 (by omega)
      refine r_aload_n 0 C dX5_told_61 rfl ?_
      refine gf_X5_35 C dX5_told_62 ?_
      obtain ⟨o4, v⟩ := v
      refine s_calli0 [] [] C dX5_told_65 ck_X5_157 (r := 4) (fY := 1) (nY := 20) rfl rfl (by decide) (by decide) (Nat.le_of_ble_eq_true rfl) rfl (by rw [hXl]; exact c_X0_coloursUsed h0 o4) (fun r5 gr5 qr5 => ?_)
      have v := v r5 gr5 qr5
      exact r_ireturn C dX5_told_68 hXr (Nat.zero_le _) (by rw [hXP]; exact v)
    | j + 4, ho, e => exact absurd ho (by simp)
  · match j, hj with
    | 0, _ => exact ⟨_, rfl⟩
    | 1, _ => exact ⟨_, rfl⟩
    | 2, _ => exact ⟨_, rfl⟩
    | 3, _ => exact ⟨_, rfl⟩
    | j + 4, hj => exact absurd hj (by omega)

def V_X5_clear (P : Int → Hp → Prop) (p_X0_forget : Hp → Prop) (q_X0_forget : Hp → Hp → Prop) (p_X2_dropAll : Hp → Prop) (q_X2_dropAll : Hp → Hp → Prop) (p_X5_surveyAgain : Hp → Prop) (q_X5_surveyAgain : Hp → Hp → Prop) (h0 : Hp) : Prop :=
  p_X0_forget h0 ∧ (∀ h2 : Hp, Fr [4, 20] h0 h2 → RH h2 → q_X0_forget h0 h2 → (p_X2_dropAll h2 ∧ (∀ h4 : Hp, Fr [1] h2 h4 → RH h4 → q_X2_dropAll h2 h4 → (p_X5_surveyAgain h4 ∧ (∀ h6 : Hp, Fr [2, 3, 12, 13, 14, 15, 16, 17, 18, 19] h4 h6 → RH h6 → q_X5_surveyAgain h4 h6 → (P 0 h6))))))
set_option maxHeartbeats 4000000 in
set_option maxRecDepth 100000 in
theorem w_X5_clear {l : Launch} (P : Int → Hp → Prop) (p_X0_forget : Hp → Prop) (q_X0_forget : Hp → Hp → Prop) (p_X2_dropAll : Hp → Prop) (q_X2_dropAll : Hp → Hp → Prop) (p_X5_surveyAgain : Hp → Prop) (q_X5_surveyAgain : Hp → Hp → Prop) (h0 : Hp)
    (c_X0_forget : ∀ (h : Hp), p_X0_forget h → Ct l yX0_forget cX0_forget 2 none 0 0 0 [vr 4] h [4, 20] (fun _ h1 => q_X0_forget h h1) (fun _ => False))
    (c_X2_dropAll : ∀ (h : Hp), p_X2_dropAll h → Ct l yX2_dropAll cX2_dropAll 1 none 0 0 0 [vr 1] h [1] (fun _ h1 => q_X2_dropAll h h1) (fun _ => False))
    (c_X5_surveyAgain : ∀ (h : Hp), p_X5_surveyAgain h → Ct l yX5_surveyAgain cX5_surveyAgain 1 none 4 91 0 [vr 0] h [2, 3, 12, 13, 14, 15, 16, 17, 18, 19] (fun _ h1 => q_X5_surveyAgain h h1) (fun _ => False))
    (o : RH h0 → V_X5_clear P p_X0_forget q_X0_forget p_X2_dropAll q_X2_dropAll p_X5_surveyAgain q_X5_surveyAgain h0) :
    Ct l yX5_clear cX5_clear 1 none 5 111 0 [vr 0] h0 [1, 2, 3, 4, 12, 13, 14, 15, 16, 17, 18, 19, 20] P (fun _ => False) := by
  refine Ct.of (own := RX5) (by decide) rfl (Nat.le_of_ble_eq_true rfl) ?_
  intro X C hXl hXM hXh hXP hXX hXc hXr hav hR0
  have hmain : V_X5_clear P p_X0_forget q_X0_forget p_X2_dropAll q_X2_dropAll p_X5_surveyAgain q_X5_surveyAgain h0 := o hR0 
  show Wh X 0 [(0, vr 0)] [] h0 0
  have v := hmain
  unfold V_X5_clear at v
  refine r_aload_n 0 C dX5_clear_0 rfl ?_
  refine gf_X5_35 C dX5_clear_1 ?_
  obtain ⟨o1, v⟩ := v
  refine s_callv [] [] C dX5_clear_4 ck_X5_100 (r := 4) (fY := 0) (nY := 0) rfl rfl (by decide) (by decide) (Nat.le_of_ble_eq_true rfl) rfl (MY := [4, 20]) hXM (by decide) (by rw [hXl]; exact c_X0_forget h0 o1) (fun h2 fh2 kh2 qh2 => ?_)
  have v := v h2 fh2 kh2 qh2
  refine r_aload_n 0 C dX5_clear_7 rfl ?_
  refine gf_X5_12 C dX5_clear_8 ?_
  obtain ⟨o3, v⟩ := v
  refine s_callv [] [] C dX5_clear_11 ck_X5_216 (r := 1) (fY := 0) (nY := 0) rfl rfl (by decide) (by decide) (Nat.le_of_ble_eq_true rfl) rfl (MY := [1]) hXM (by decide) (by rw [hXl]; exact c_X2_dropAll h2 o3) (fun h4 fh4 kh4 qh4 => ?_)
  have v := v h4 fh4 kh4 qh4
  refine r_aload_n 0 C dX5_clear_14 rfl ?_
  obtain ⟨o5, v⟩ := v
  refine s_callv [] [] C dX5_clear_15 ck_X5_67 (r := 0) (fY := 4) (nY := 91) rfl rfl (by decide) (by decide) (Nat.le_of_ble_eq_true rfl) rfl (MY := [2, 3, 12, 13, 14, 15, 16, 17, 18, 19]) hXM (by decide) (by rw [hXl]; exact c_X5_surveyAgain h4 o5) (fun h6 fh6 kh6 qh6 => ?_)
  have v := v h6 fh6 kh6 qh6
  exact r_return C dX5_clear_18 hXr (Nat.zero_le _) (by rw [hXP]; exact v)

def V_X5_surveyAgain (P : Int → Hp → Prop) (p_X1_survey : Hp → Prop) (q_X1_survey : Hp → Hp → Prop) (p_X4_survey : Hp → Prop) (q_X4_survey : Hp → Hp → Prop) (h0 : Hp) : Prop :=
  p_X1_survey h0 ∧ (∀ h2 : Hp, Fr [2, 12, 13, 14] h0 h2 → RH h2 → q_X1_survey h0 h2 → (p_X4_survey h2 ∧ (∀ h4 : Hp, Fr [3, 15, 16, 17, 18, 19] h2 h4 → RH h4 → q_X4_survey h2 h4 → (P 0 h4))))
set_option maxHeartbeats 4000000 in
set_option maxRecDepth 100000 in
theorem w_X5_surveyAgain {l : Launch} (P : Int → Hp → Prop) (p_X1_survey : Hp → Prop) (q_X1_survey : Hp → Hp → Prop) (p_X4_survey : Hp → Prop) (q_X4_survey : Hp → Hp → Prop) (h0 : Hp)
    (c_X1_survey : ∀ (h : Hp), p_X1_survey h → Ct l yX1_survey cX1_survey 3 none 2 44 0 [vr 2] h [2, 12, 13, 14] (fun _ h1 => q_X1_survey h h1) (fun _ => False))
    (c_X4_survey : ∀ (h : Hp), p_X4_survey h → Ct l yX4_survey cX4_survey 2 none 3 70 0 [vr 3] h [3, 15, 16, 17, 18, 19] (fun _ h1 => q_X4_survey h h1) (fun _ => False))
    (o : RH h0 → V_X5_surveyAgain P p_X1_survey q_X1_survey p_X4_survey q_X4_survey h0) :
    Ct l yX5_surveyAgain cX5_surveyAgain 1 none 4 91 0 [vr 0] h0 [2, 3, 12, 13, 14, 15, 16, 17, 18, 19] P (fun _ => False) := by
  refine Ct.of (own := RX5) (by decide) rfl (Nat.le_of_ble_eq_true rfl) ?_
  intro X C hXl hXM hXh hXP hXX hXc hXr hav hR0
  have hmain : V_X5_surveyAgain P p_X1_survey q_X1_survey p_X4_survey q_X4_survey h0 := o hR0 
  show Wh X 0 [(0, vr 0)] [] h0 0
  have v := hmain
  unfold V_X5_surveyAgain at v
  refine r_aload_n 0 C dX5_surveyAgain_0 rfl ?_
  refine gf_X5_21 C dX5_surveyAgain_1 ?_
  obtain ⟨o1, v⟩ := v
  refine s_callv [] [] C dX5_surveyAgain_4 ck_X5_219 (r := 2) (fY := 2) (nY := 44) rfl rfl (by decide) (by decide) (Nat.le_of_ble_eq_true rfl) rfl (MY := [2, 12, 13, 14]) hXM (by decide) (by rw [hXl]; exact c_X1_survey h0 o1) (fun h2 fh2 kh2 qh2 => ?_)
  have v := v h2 fh2 kh2 qh2
  refine r_aload_n 0 C dX5_surveyAgain_7 rfl ?_
  refine gf_X5_28 C dX5_surveyAgain_8 ?_
  obtain ⟨o3, v⟩ := v
  refine s_callv [] [] C dX5_surveyAgain_11 ck_X5_222 (r := 3) (fY := 3) (nY := 70) rfl rfl (by decide) (by decide) (Nat.le_of_ble_eq_true rfl) rfl (MY := [3, 15, 16, 17, 18, 19]) hXM (by decide) (by rw [hXl]; exact c_X4_survey h2 o3) (fun h4 fh4 kh4 qh4 => ?_)
  have v := v h4 fh4 kh4 qh4
  exact r_return C dX5_surveyAgain_14 hXr (Nat.zero_le _) (by rw [hXP]; exact v)

def V_X5_isPlane_12 (P : Int → Hp → Prop) (p_X5_genus : Hp → Prop) (q_X5_genus : Hp → Int → Prop) (h : Hp) (y0 : Int) : Prop :=
  (y0 = 0 ∨ y0 = 1) ∧ P y0 h
def V_X5_isPlane (P : Int → Hp → Prop) (p_X5_genus : Hp → Prop) (q_X5_genus : Hp → Int → Prop) (h0 : Hp) : Prop :=
  p_X5_genus h0 ∧ (∀ r2 : Int, InR r2 → q_X5_genus h0 r2 → ((¬ r2 = 0 → V_X5_isPlane_12 P p_X5_genus q_X5_genus h0 0) ∧ (r2 = 0 → V_X5_isPlane_12 P p_X5_genus q_X5_genus h0 1)))
set_option maxHeartbeats 4000000 in
set_option maxRecDepth 100000 in
theorem w_X5_isPlane {l : Launch} (P : Int → Hp → Prop) (p_X5_genus : Hp → Prop) (q_X5_genus : Hp → Int → Prop) (h0 : Hp)
    (c_X5_genus : ∀ (h : Hp), p_X5_genus h → Ct l yX5_genus cX5_genus 2 (some .int) 1 22 0 [vr 0] h [] (fun r _ => q_X5_genus h r) (fun _ => False))
    (o : RH h0 → V_X5_isPlane P p_X5_genus q_X5_genus h0) :
    Ct l yX5_isPlane cX5_isPlane 1 (some .boolean) 2 43 0 [vr 0] h0 [] P (fun _ => False) := by
  refine Ct.of (own := RX5) (by decide) rfl (Nat.le_of_ble_eq_true rfl) ?_
  intro X C hXl hXM hXh hXP hXX hXc hXr hav hR0
  have hmain : V_X5_isPlane P p_X5_genus q_X5_genus h0 := o hR0 
  have B_12 : ∀ (h : Hp) (y0 : Int), V_X5_isPlane_12 P p_X5_genus q_X5_genus h y0 → Wh X 12 [(0, vr 0)] [vi y0] h 0 := by
    intro h y0 v
    unfold V_X5_isPlane_12 at v
    exact r_zreturn C dX5_isPlane_12 hXr (Nat.zero_le _) v.1 (by rw [hXP]; exact v.2)
  show Wh X 0 [(0, vr 0)] [] h0 0
  have v := hmain
  unfold V_X5_isPlane at v
  refine r_aload_n 0 C dX5_isPlane_0 rfl ?_
  obtain ⟨o1, v⟩ := v
  refine s_calli0 [] [] C dX5_isPlane_1 ck_X5_223 (r := 0) (fY := 1) (nY := 22) rfl rfl (by decide) (by decide) (Nat.le_of_ble_eq_true rfl) rfl (by rw [hXl]; exact c_X5_genus h0 o1) (fun r2 gr2 qr2 => ?_)
  have v := v r2 gr2 qr2
  refine r_if_ne (tgt := 11) C dX5_isPlane_4 (by decide) (fun c3 => ?_) (fun c3 => ?_)
  · have v := v.1 c3
    refine r_iconst C dX5_isPlane_11 ⟨by decide, by decide⟩ ?_
    exact s_sub [0] rfl (B_12 _ _ v)
  · have v := v.2 c3
    refine r_iconst C dX5_isPlane_7 ⟨by decide, by decide⟩ ?_
    refine r_goto (tgt := 12) C dX5_isPlane_8 (by decide) ?_
    exact s_sub [0] rfl (B_12 _ _ v)

def V_X5_checkPlane (P : Int → Hp → Prop) (Px : String → Prop) (h0 : Hp) (mc : Nat) (p_X5_isPlane : Hp → Prop) (q_X5_isPlane : Hp → Int → Prop) : Prop :=
  p_X5_isPlane h0 ∧ (∀ r2 : Int, InR r2 → q_X5_isPlane h0 r2 → ((¬ r2 = 0 → P 0 h0) ∧ (r2 = 0 → Px "java/lang/IllegalStateException" ∧ h0 = h0 ∧ 1 ≤ mc)))
set_option maxHeartbeats 4000000 in
set_option maxRecDepth 100000 in
theorem w_X5_checkPlane {l : Launch} (P : Int → Hp → Prop) (Px : String → Prop) (h0 : Hp) (mc : Nat) (p_X5_isPlane : Hp → Prop) (q_X5_isPlane : Hp → Int → Prop)
    (c_X5_isPlane : ∀ (h : Hp), p_X5_isPlane h → Ct l yX5_isPlane cX5_isPlane 1 (some .boolean) 2 43 0 [vr 0] h [] (fun r _ => q_X5_isPlane h r) (fun _ => False))
    (hst : l.stackTraces = false)
    (o : RH h0 → V_X5_checkPlane P Px h0 mc p_X5_isPlane q_X5_isPlane) :
    Ct l yX5_checkPlane cX5_checkPlane 1 none 6 82 mc [vr 0] h0 [] P Px := by
  refine Ct.of (own := RX5) (by decide) rfl (Nat.le_of_ble_eq_true rfl) ?_
  intro X C hXl hXM hXh hXP hXX hXc hXr hav hR0
  have hmain : V_X5_checkPlane P Px h0 mc p_X5_isPlane q_X5_isPlane := o hR0 
  show Wh X 0 [(0, vr 0)] [] h0 0
  have v := hmain
  unfold V_X5_checkPlane at v
  refine r_aload_n 0 C dX5_checkPlane_0 rfl ?_
  obtain ⟨o1, v⟩ := v
  refine s_calli0 [] [] C dX5_checkPlane_1 ck_X5_212 (r := 0) (fY := 2) (nY := 43) rfl rfl (by decide) (by decide) (Nat.le_of_ble_eq_true rfl) rfl (by rw [hXl]; exact c_X5_isPlane h0 o1) (fun r2 gr2 qr2 => ?_)
  have v := v r2 gr2 qr2
  refine r_if_ne (tgt := 17) C dX5_checkPlane_4 (by decide) (fun c3 => ?_) (fun c3 => ?_)
  · have v := v.1 c3
    exact r_return C dX5_checkPlane_17 hXr (Nat.zero_le _) (by rw [hXP]; exact v)
  · have v := v.2 c3
    exact s_throw "not plane" C (by rw [hXl]; exact hst) dX5_checkPlane_7 dX5_checkPlane_10 dX5_checkPlane_11 dX5_checkPlane_13 dX5_checkPlane_16 tk_226_230 (by decide +kernel) (by decide) (by decide) (by rw [hXX, hXh, hXc]; exact v)

def V_X5_checkVertex_15 (P : Int → Hp → Prop) (Px : String → Prop) (h0 : Hp) (mc : Nat) (h : Hp) : Prop :=
  Px "java/lang/IndexOutOfBoundsException" ∧ h = h0 ∧ 1 ≤ mc
def V_X5_checkVertex (P : Int → Hp → Prop) (Px : String → Prop) (h0 : Hp) (mc : Nat) (a1 : Int) : Prop :=
  (a1 < 0 → V_X5_checkVertex_15 P Px h0 mc h0) ∧ (¬ a1 < 0 → (a1 < (h0 1 6) → P 0 h0) ∧ (¬ a1 < (h0 1 6) → V_X5_checkVertex_15 P Px h0 mc h0))
set_option maxHeartbeats 4000000 in
set_option maxRecDepth 100000 in
theorem w_X5_checkVertex {l : Launch} (P : Int → Hp → Prop) (Px : String → Prop) (h0 : Hp) (mc : Nat) (a1 : Int)
    (hst : l.stackTraces = false)
    (o : RH h0 → InR a1 → V_X5_checkVertex P Px h0 mc a1) :
    Ct l yX5_checkVertex cX5_checkVertex 2 none 6 82 mc [vr 0, vi a1] h0 [] P Px := by
  refine Ct.of (own := RX5) (by decide) rfl (Nat.le_of_ble_eq_true rfl) ?_
  intro X C hXl hXM hXh hXP hXX hXc hXr hav hR0
  have hmain : V_X5_checkVertex P Px h0 mc a1 := o hR0 (hav (vi a1) (by simp))
  have B_15 : ∀ (h : Hp), V_X5_checkVertex_15 P Px h0 mc h → Wh X 15 [(0, vr 0)] [] h 0 := by
    intro h v
    unfold V_X5_checkVertex_15 at v
    exact s_throw "no such vertex" C (by rw [hXl]; exact hst) dX5_checkVertex_15 dX5_checkVertex_18 dX5_checkVertex_19 dX5_checkVertex_21 dX5_checkVertex_24 tk_115_119 (by decide +kernel) (by decide) (by decide) (by rw [hXX, hXh, hXc]; exact v)
  show Wh X 0 [(0, vr 0), (1, vi a1)] [] h0 0
  have v := hmain
  unfold V_X5_checkVertex at v
  refine r_iload_n 1 C dX5_checkVertex_0 rfl ?_
  refine r_if_lt (tgt := 15) C dX5_checkVertex_1 (by decide) (fun c1 => ?_) (fun c1 => ?_)
  · have v := v.1 c1
    exact s_sub [0] rfl (B_15 _ v)
  · have v := v.2 c1
    refine r_iload_n 1 C dX5_checkVertex_4 rfl ?_
    refine r_aload_n 0 C dX5_checkVertex_5 rfl ?_
    refine gf_X5_12 C dX5_checkVertex_6 ?_
    refine gf_X5_48 C dX5_checkVertex_9 ?_
    refine r_icmp_lt (tgt := 25) C dX5_checkVertex_12 (by decide) (fun c2 => ?_) (fun c2 => ?_)
    · have v := v.1 c2
      exact r_return C dX5_checkVertex_25 hXr (Nat.zero_le _) (by rw [hXP]; exact v)
    · have v := v.2 c2
      exact s_sub [0] rfl (B_15 _ v)

def V_X5_checkEdge_27 (P : Int → Hp → Prop) (Px : String → Prop) (h0 : Hp) (mc : Nat) (h : Hp) : Prop :=
  Px "java/lang/IndexOutOfBoundsException" ∧ h = h0 ∧ 1 ≤ mc
def V_X5_checkEdge (P : Int → Hp → Prop) (Px : String → Prop) (h0 : Hp) (mc : Nat) (a1 : Int) : Prop :=
  (a1 < 0 → V_X5_checkEdge_27 P Px h0 mc h0) ∧ (¬ a1 < 0 → ((h0 1 7) ≤ a1 → V_X5_checkEdge_27 P Px h0 mc h0) ∧ (¬ (h0 1 7) ≤ a1 → ((0 : Int) ≤ a1 ∧ (a1 : Int) < 100) ∧ ((¬ (h0 9 a1) = 0 → P 0 h0) ∧ ((h0 9 a1) = 0 → V_X5_checkEdge_27 P Px h0 mc h0))))
set_option maxHeartbeats 4000000 in
set_option maxRecDepth 100000 in
theorem w_X5_checkEdge {l : Launch} (P : Int → Hp → Prop) (Px : String → Prop) (h0 : Hp) (mc : Nat) (a1 : Int)
    (hst : l.stackTraces = false)
    (o : RH h0 → InR a1 → V_X5_checkEdge P Px h0 mc a1) :
    Ct l yX5_checkEdge cX5_checkEdge 2 none 6 82 mc [vr 0, vi a1] h0 [] P Px := by
  refine Ct.of (own := RX5) (by decide) rfl (Nat.le_of_ble_eq_true rfl) ?_
  intro X C hXl hXM hXh hXP hXX hXc hXr hav hR0
  have hmain : V_X5_checkEdge P Px h0 mc a1 := o hR0 (hav (vi a1) (by simp))
  have B_27 : ∀ (h : Hp), V_X5_checkEdge_27 P Px h0 mc h → Wh X 27 [(0, vr 0)] [] h 0 := by
    intro h v
    unfold V_X5_checkEdge_27 at v
    exact s_throw "no such edge" C (by rw [hXl]; exact hst) dX5_checkEdge_27 dX5_checkEdge_30 dX5_checkEdge_31 dX5_checkEdge_33 dX5_checkEdge_36 tk_115_119 (by decide +kernel) (by decide) (by decide) (by rw [hXX, hXh, hXc]; exact v)
  show Wh X 0 [(0, vr 0), (1, vi a1)] [] h0 0
  have v := hmain
  unfold V_X5_checkEdge at v
  refine r_iload_n 1 C dX5_checkEdge_0 rfl ?_
  refine r_if_lt (tgt := 27) C dX5_checkEdge_1 (by decide) (fun c1 => ?_) (fun c1 => ?_)
  · have v := v.1 c1
    exact s_sub [0] rfl (B_27 _ v)
  · have v := v.2 c1
    refine r_iload_n 1 C dX5_checkEdge_4 rfl ?_
    refine r_aload_n 0 C dX5_checkEdge_5 rfl ?_
    refine gf_X5_12 C dX5_checkEdge_6 ?_
    refine gf_X5_91 C dX5_checkEdge_9 ?_
    refine r_icmp_ge (tgt := 27) C dX5_checkEdge_12 (by decide) (fun c2 => ?_) (fun c2 => ?_)
    · have v := v.1 c2
      exact s_sub [0] rfl (B_27 _ v)
    · have v := v.2 c2
      refine r_aload_n 0 C dX5_checkEdge_15 rfl ?_
      refine gf_X5_12 C dX5_checkEdge_16 ?_
      refine gf_X5_202 C dX5_checkEdge_19 ?_
      refine r_iload_n 1 C dX5_checkEdge_22 rfl ?_
      obtain ⟨o3, v⟩ := v
      refine r_baload (r := 9) (N := 100) C dX5_checkEdge_23 rfl o3 ?_
      refine r_if_ne (tgt := 37) C dX5_checkEdge_24 (by decide) (fun c4 => ?_) (fun c4 => ?_)
      · have v := v.1 c4
        exact r_return C dX5_checkEdge_37 hXr (Nat.zero_le _) (by rw [hXP]; exact v)
      · have v := v.2 c4
        exact s_sub [0] rfl (B_27 _ v)

def V_X5_checkEdgeOrNone_10 (P : Int → Hp → Prop) (Px : String → Prop) (h0 : Hp) (mc : Nat) (p_X5_checkEdge : Int → Hp → Prop) (t_X5_checkEdge : Int → Hp → Prop) (h : Hp) : Prop :=
  P 0 h
def V_X5_checkEdgeOrNone (P : Int → Hp → Prop) (Px : String → Prop) (h0 : Hp) (mc : Nat) (p_X5_checkEdge : Int → Hp → Prop) (t_X5_checkEdge : Int → Hp → Prop) (a1 : Int) : Prop :=
  (a1 = (-1) → V_X5_checkEdgeOrNone_10 P Px h0 mc p_X5_checkEdge t_X5_checkEdge h0) ∧ (¬ a1 = (-1) → p_X5_checkEdge a1 h0 ∧ ((t_X5_checkEdge a1 h0 → Px "java/lang/IndexOutOfBoundsException" ∧ h0 = h0 ∧ 1 ≤ mc) ∧ (¬ t_X5_checkEdge a1 h0 → (V_X5_checkEdgeOrNone_10 P Px h0 mc p_X5_checkEdge t_X5_checkEdge h0))))
set_option maxHeartbeats 4000000 in
set_option maxRecDepth 100000 in
theorem w_X5_checkEdgeOrNone {l : Launch} (P : Int → Hp → Prop) (Px : String → Prop) (h0 : Hp) (mc : Nat) (p_X5_checkEdge : Int → Hp → Prop) (t_X5_checkEdge : Int → Hp → Prop) (a1 : Int)
    (c_X5_checkEdge : ∀ (b1 : Int) (h : Hp) (mc : Nat), p_X5_checkEdge b1 h → (t_X5_checkEdge b1 h → 1 ≤ mc) → Ct l yX5_checkEdge cX5_checkEdge 2 none 6 82 mc [vr 0, vi b1] h [] (fun _ _ => ¬ t_X5_checkEdge b1 h ∧ True) (fun E => t_X5_checkEdge b1 h ∧ E = "java/lang/IndexOutOfBoundsException"))
    (o : RH h0 → InR a1 → V_X5_checkEdgeOrNone P Px h0 mc p_X5_checkEdge t_X5_checkEdge a1) :
    Ct l yX5_checkEdgeOrNone cX5_checkEdgeOrNone 2 none 7 103 mc [vr 0, vi a1] h0 [] P Px := by
  refine Ct.of (own := RX5) (by decide) rfl (Nat.le_of_ble_eq_true rfl) ?_
  intro X C hXl hXM hXh hXP hXX hXc hXr hav hR0
  have hmain : V_X5_checkEdgeOrNone P Px h0 mc p_X5_checkEdge t_X5_checkEdge a1 := o hR0 (hav (vi a1) (by simp))
  have B_10 : ∀ (h : Hp), V_X5_checkEdgeOrNone_10 P Px h0 mc p_X5_checkEdge t_X5_checkEdge h → Wh X 10 [(0, vr 0)] [] h 0 := by
    intro h v
    unfold V_X5_checkEdgeOrNone_10 at v
    exact r_return C dX5_checkEdgeOrNone_10 hXr (Nat.zero_le _) (by rw [hXP]; exact v)
  show Wh X 0 [(0, vr 0), (1, vi a1)] [] h0 0
  have v := hmain
  unfold V_X5_checkEdgeOrNone at v
  refine r_iload_n 1 C dX5_checkEdgeOrNone_0 rfl ?_
  refine r_iconst C dX5_checkEdgeOrNone_1 ⟨by decide, by decide⟩ ?_
  refine r_icmp_eq (tgt := 10) C dX5_checkEdgeOrNone_2 (by decide) (fun c1 => ?_) (fun c1 => ?_)
  · have v := v.1 c1
    exact s_sub [0] rfl (B_10 _ v)
  · have v := v.2 c1
    refine r_aload_n 0 C dX5_checkEdgeOrNone_5 rfl ?_
    refine r_iload_n 1 C dX5_checkEdgeOrNone_6 rfl ?_
    obtain ⟨o3, v⟩ := v
    refine s_callx (tf := t_X5_checkEdge a1 h0) (E0 := "java/lang/IndexOutOfBoundsException") [a1] [] C dX5_checkEdgeOrNone_7 ck_X5_103 (r := 0) (fY := 6) (nY := 82) rfl rfl (by decide) (by decide) (Nat.le_of_ble_eq_true rfl) rfl (by rw [hXl]; exact fun mc => c_X5_checkEdge a1 h0 mc o3) (fun z => by rw [hXX, hXh, hXc]; exact v.1 z) (fun o2 _ => ?_)
    have v := v.2 o2
    exact s_sub [0] rfl (B_10 _ v)

def V_X5_checkFace_15 (P : Int → Hp → Prop) (Px : String → Prop) (h0 : Hp) (mc : Nat) (h : Hp) : Prop :=
  Px "java/lang/IndexOutOfBoundsException" ∧ h = h0 ∧ 1 ≤ mc
def V_X5_checkFace (P : Int → Hp → Prop) (Px : String → Prop) (h0 : Hp) (mc : Nat) (a1 : Int) : Prop :=
  (a1 < 0 → V_X5_checkFace_15 P Px h0 mc h0) ∧ (¬ a1 < 0 → (a1 < (h0 2 4) → P 0 h0) ∧ (¬ a1 < (h0 2 4) → V_X5_checkFace_15 P Px h0 mc h0))
set_option maxHeartbeats 4000000 in
set_option maxRecDepth 100000 in
theorem w_X5_checkFace {l : Launch} (P : Int → Hp → Prop) (Px : String → Prop) (h0 : Hp) (mc : Nat) (a1 : Int)
    (hst : l.stackTraces = false)
    (o : RH h0 → InR a1 → V_X5_checkFace P Px h0 mc a1) :
    Ct l yX5_checkFace cX5_checkFace 2 none 6 82 mc [vr 0, vi a1] h0 [] P Px := by
  refine Ct.of (own := RX5) (by decide) rfl (Nat.le_of_ble_eq_true rfl) ?_
  intro X C hXl hXM hXh hXP hXX hXc hXr hav hR0
  have hmain : V_X5_checkFace P Px h0 mc a1 := o hR0 (hav (vi a1) (by simp))
  have B_15 : ∀ (h : Hp), V_X5_checkFace_15 P Px h0 mc h → Wh X 15 [(0, vr 0)] [] h 0 := by
    intro h v
    unfold V_X5_checkFace_15 at v
    exact s_throw "no such face" C (by rw [hXl]; exact hst) dX5_checkFace_15 dX5_checkFace_18 dX5_checkFace_19 dX5_checkFace_21 dX5_checkFace_24 tk_115_119 (by decide +kernel) (by decide) (by decide) (by rw [hXX, hXh, hXc]; exact v)
  show Wh X 0 [(0, vr 0), (1, vi a1)] [] h0 0
  have v := hmain
  unfold V_X5_checkFace at v
  refine r_iload_n 1 C dX5_checkFace_0 rfl ?_
  refine r_if_lt (tgt := 15) C dX5_checkFace_1 (by decide) (fun c1 => ?_) (fun c1 => ?_)
  · have v := v.1 c1
    exact s_sub [0] rfl (B_15 _ v)
  · have v := v.2 c1
    refine r_iload_n 1 C dX5_checkFace_4 rfl ?_
    refine r_aload_n 0 C dX5_checkFace_5 rfl ?_
    refine gf_X5_21 C dX5_checkFace_6 ?_
    refine gf_X5_129 C dX5_checkFace_9 ?_
    refine r_icmp_lt (tgt := 25) C dX5_checkFace_12 (by decide) (fun c2 => ?_) (fun c2 => ?_)
    · have v := v.1 c2
      exact r_return C dX5_checkFace_25 hXr (Nat.zero_le _) (by rw [hXP]; exact v)
    · have v := v.2 c2
      exact s_sub [0] rfl (B_15 _ v)


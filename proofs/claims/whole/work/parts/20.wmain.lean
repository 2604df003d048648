def V_X5_remove (P : Int → Hp → Prop) (Px : String → Prop) (h0 : Hp) (mc : Nat) (t_X5_checkEdge : Int → Hp → Prop) (p_X2_dropEdge : Int → Hp → Prop) (q_X2_dropEdge : Int → Hp → Hp → Prop) (p_X0_forget : Hp → Prop) (q_X0_forget : Hp → Hp → Prop) (p_X5_surveyAgain : Hp → Prop) (q_X5_surveyAgain : Hp → Hp → Prop) (a1 : Int) : Prop :=
  (t_X5_checkEdge a1 h0 → Px "java/lang/IndexOutOfBoundsException" ∧ h0 = h0 ∧ 1 ≤ mc) ∧ (¬ t_X5_checkEdge a1 h0 → (p_X2_dropEdge a1 h0 ∧ (∀ h3 : Hp, Fr [1, 7, 8, 9, 10, 11] h0 h3 → RH h3 → q_X2_dropEdge a1 h0 h3 → (p_X0_forget h3 ∧ (∀ h5 : Hp, Fr [4, 20] h3 h5 → RH h5 → q_X0_forget h3 h5 → (p_X5_surveyAgain h5 ∧ (∀ h7 : Hp, Fr [2, 3, 12, 13, 14, 15, 16, 17, 18, 19] h5 h7 → RH h7 → q_X5_surveyAgain h5 h7 → (P (h7 1 8) h7))))))))
set_option maxHeartbeats 4000000 in
set_option maxRecDepth 100000 in
theorem w_X5_remove {l : Launch} (P : Int → Hp → Prop) (Px : String → Prop) (h0 : Hp) (mc : Nat) (t_X5_checkEdge : Int → Hp → Prop) (p_X2_dropEdge : Int → Hp → Prop) (q_X2_dropEdge : Int → Hp → Hp → Prop) (p_X0_forget : Hp → Prop) (q_X0_forget : Hp → Hp → Prop) (p_X5_surveyAgain : Hp → Prop) (q_X5_surveyAgain : Hp → Hp → Prop) (a1 : Int)
    (c_X5_checkEdge : ∀ (b1 : Int) (h : Hp) (mc : Nat), (t_X5_checkEdge b1 h → 1 ≤ mc) → Ct l yX5_checkEdge cX5_checkEdge 2 none 6 81 mc [vr 0, vi b1] h [] (fun _ _ => ¬ t_X5_checkEdge b1 h ∧ True) (fun E => t_X5_checkEdge b1 h ∧ E = "java/lang/IndexOutOfBoundsException"))
    (c_X2_dropEdge : ∀ (b1 : Int) (h : Hp), p_X2_dropEdge b1 h → Ct l yX2_dropEdge cX2_dropEdge 2 none 2 44 0 [vr 1, vi b1] h [1, 7, 8, 9, 10, 11] (fun _ h1 => q_X2_dropEdge b1 h h1) (fun _ => False))
    (c_X0_forget : ∀ (h : Hp), p_X0_forget h → Ct l yX0_forget cX0_forget 2 none 0 0 0 [vr 4] h [4, 20] (fun _ h1 => q_X0_forget h h1) (fun _ => False))
    (c_X5_surveyAgain : ∀ (h : Hp), p_X5_surveyAgain h → Ct l yX5_surveyAgain cX5_surveyAgain 1 none 4 91 0 [vr 0] h [2, 3, 12, 13, 14, 15, 16, 17, 18, 19] (fun _ h1 => q_X5_surveyAgain h h1) (fun _ => False))
    (o : RH h0 → InR a1 → V_X5_remove P Px h0 mc t_X5_checkEdge p_X2_dropEdge q_X2_dropEdge p_X0_forget q_X0_forget p_X5_surveyAgain q_X5_surveyAgain a1) :
    Ct l yX5_remove cX5_remove 2 (some .int) 7 111 mc [vr 0, vi a1] h0 [1, 2, 3, 4, 7, 8, 9, 10, 11, 12, 13, 14, 15, 16, 17, 18, 19, 20] P Px := by
  refine Ct.of (own := RX5) (by decide) rfl (Nat.le_of_ble_eq_true rfl) ?_
  intro X C hXl hXM hXh hXP hXX hXc hXr hav hR0
  have hmain : V_X5_remove P Px h0 mc t_X5_checkEdge p_X2_dropEdge q_X2_dropEdge p_X0_forget q_X0_forget p_X5_surveyAgain q_X5_surveyAgain a1 := o hR0 (hav (vi a1) (by simp))
  show Wh X 0 [(0, vr 0), (1, vi a1)] [] h0 0
  have v := hmain
  unfold V_X5_remove at v
  refine r_aload_n 0 C dX5_remove_0 rfl ?_
  refine r_iload_n 1 C dX5_remove_1 rfl ?_
  refine s_callx (tf := t_X5_checkEdge a1 h0) (E0 := "java/lang/IndexOutOfBoundsException") [a1] [] C dX5_remove_2 ck_X5_103 (r := 0) (fY := 6) (nY := 81) rfl rfl (by decide) (by decide) (Nat.le_of_ble_eq_true rfl) rfl (by rw [hXl]; exact c_X5_checkEdge a1 h0) (fun z => by rw [hXX, hXh, hXc]; exact v.1 z) (fun o1 _ => ?_)
  have v := v.2 o1
  refine r_aload_n 0 C dX5_remove_5 rfl ?_
  refine gf_X5_12 C dX5_remove_6 ?_
  refine r_iload_n 1 C dX5_remove_9 rfl ?_
  obtain ⟨o2, v⟩ := v
  refine s_callv [a1] [] C dX5_remove_10 ck_X5_106 (r := 1) (fY := 2) (nY := 44) rfl rfl (by decide) (by decide) (Nat.le_of_ble_eq_true rfl) rfl (MY := [1, 7, 8, 9, 10, 11]) hXM (by decide) (by rw [hXl]; exact c_X2_dropEdge a1 h0 o2) (fun h3 fh3 kh3 qh3 => ?_)
  have v := v h3 fh3 kh3 qh3
  refine r_aload_n 0 C dX5_remove_13 rfl ?_
  refine gf_X5_35 C dX5_remove_14 ?_
  obtain ⟨o4, v⟩ := v
  refine s_callv [] [] C dX5_remove_17 ck_X5_100 (r := 4) (fY := 0) (nY := 0) rfl rfl (by decide) (by decide) (Nat.le_of_ble_eq_true rfl) rfl (MY := [4, 20]) hXM (by decide) (by rw [hXl]; exact c_X0_forget h3 o4) (fun h5 fh5 kh5 qh5 => ?_)
  have v := v h5 fh5 kh5 qh5
  refine r_aload_n 0 C dX5_remove_20 rfl ?_
  obtain ⟨o6, v⟩ := v
  refine s_callv [] [] C dX5_remove_21 ck_X5_67 (r := 0) (fY := 4) (nY := 91) rfl rfl (by decide) (by decide) (Nat.le_of_ble_eq_true rfl) rfl (MY := [2, 3, 12, 13, 14, 15, 16, 17, 18, 19]) hXM (by decide) (by rw [hXl]; exact c_X5_surveyAgain h5 o6) (fun h7 fh7 kh7 qh7 => ?_)
  have v := v h7 fh7 kh7 qh7
  refine r_aload_n 0 C dX5_remove_24 rfl ?_
  refine gf_X5_12 C dX5_remove_25 ?_
  refine gf_X5_109 C dX5_remove_28 ?_
  exact r_ireturn C dX5_remove_31 hXr (Nat.zero_le _) (by rw [hXP]; exact v)

def V_X5_degree (P : Int → Hp → Prop) (Px : String → Prop) (h0 : Hp) (mc : Nat) (t_X5_checkVertex : Int → Hp → Prop) (a1 : Int) : Prop :=
  (t_X5_checkVertex a1 h0 → Px "java/lang/IndexOutOfBoundsException" ∧ h0 = h0 ∧ 1 ≤ mc) ∧ (¬ t_X5_checkVertex a1 h0 → (((0 : Int) ≤ a1 ∧ (a1 : Int) < 30) ∧ (P (h0 11 a1) h0)))
set_option maxHeartbeats 4000000 in
set_option maxRecDepth 100000 in
theorem w_X5_degree {l : Launch} (P : Int → Hp → Prop) (Px : String → Prop) (h0 : Hp) (mc : Nat) (t_X5_checkVertex : Int → Hp → Prop) (a1 : Int)
    (c_X5_checkVertex : ∀ (b1 : Int) (h : Hp) (mc : Nat), (t_X5_checkVertex b1 h → 1 ≤ mc) → Ct l yX5_checkVertex cX5_checkVertex 2 none 6 81 mc [vr 0, vi b1] h [] (fun _ _ => ¬ t_X5_checkVertex b1 h ∧ True) (fun E => t_X5_checkVertex b1 h ∧ E = "java/lang/IndexOutOfBoundsException"))
    (o : RH h0 → InR a1 → V_X5_degree P Px h0 mc t_X5_checkVertex a1) :
    Ct l yX5_degree cX5_degree 2 (some .int) 7 102 mc [vr 0, vi a1] h0 [] P Px := by
  refine Ct.of (own := RX5) (by decide) rfl (Nat.le_of_ble_eq_true rfl) ?_
  intro X C hXl hXM hXh hXP hXX hXc hXr hav hR0
  have hmain : V_X5_degree P Px h0 mc t_X5_checkVertex a1 := o hR0 (hav (vi a1) (by simp))
  show Wh X 0 [(0, vr 0), (1, vi a1)] [] h0 0
  have v := hmain
  unfold V_X5_degree at v
  refine r_aload_n 0 C dX5_degree_0 rfl ?_
  refine r_iload_n 1 C dX5_degree_1 rfl ?_
  refine s_callx (tf := t_X5_checkVertex a1 h0) (E0 := "java/lang/IndexOutOfBoundsException") [a1] [] C dX5_degree_2 ck_X5_70 (r := 0) (fY := 6) (nY := 81) rfl rfl (by decide) (by decide) (Nat.le_of_ble_eq_true rfl) rfl (by rw [hXl]; exact c_X5_checkVertex a1 h0) (fun z => by rw [hXX, hXh, hXc]; exact v.1 z) (fun o1 _ => ?_)
  have v := v.2 o1
  refine r_aload_n 0 C dX5_degree_5 rfl ?_
  refine gf_X5_12 C dX5_degree_6 ?_
  refine gf_X5_112 C dX5_degree_9 ?_
  refine r_iload_n 1 C dX5_degree_12 rfl ?_
  obtain ⟨o2, v⟩ := v
  refine r_iaload (r := 11) (N := 30) C dX5_degree_13 rfl o2 ?_
  exact r_ireturn C dX5_degree_14 hXr (Nat.zero_le _) (by rw [hXP]; exact v)

def V_X5_end_27 (P : Int → Hp → Prop) (Px : String → Prop) (h0 : Hp) (mc : Nat) (t_X5_checkEdge : Int → Hp → Prop) (h : Hp) (y1 : Int) : Prop :=
  ((0 : Int) ≤ y1 ∧ (y1 : Int) < 200) ∧ (P (h 6 y1) h)
def V_X5_end (P : Int → Hp → Prop) (Px : String → Prop) (h0 : Hp) (mc : Nat) (t_X5_checkEdge : Int → Hp → Prop) (a1 : Int) (a2 : Int) : Prop :=
  (t_X5_checkEdge a1 h0 → Px "java/lang/IndexOutOfBoundsException" ∧ h0 = h0 ∧ 1 ≤ mc) ∧ (¬ t_X5_checkEdge a1 h0 → ((a2 = 0 → InR (2 * a1) ∧ (V_X5_end_27 P Px h0 mc t_X5_checkEdge h0 (2 * a1))) ∧ (¬ a2 = 0 → InR (2 * a1) ∧ (InR ((2 * a1) + 1) ∧ (V_X5_end_27 P Px h0 mc t_X5_checkEdge h0 ((2 * a1) + 1))))))
set_option maxHeartbeats 4000000 in
set_option maxRecDepth 100000 in
theorem w_X5_end {l : Launch} (P : Int → Hp → Prop) (Px : String → Prop) (h0 : Hp) (mc : Nat) (t_X5_checkEdge : Int → Hp → Prop) (a1 : Int) (a2 : Int)
    (c_X5_checkEdge : ∀ (b1 : Int) (h : Hp) (mc : Nat), (t_X5_checkEdge b1 h → 1 ≤ mc) → Ct l yX5_checkEdge cX5_checkEdge 2 none 6 81 mc [vr 0, vi b1] h [] (fun _ _ => ¬ t_X5_checkEdge b1 h ∧ True) (fun E => t_X5_checkEdge b1 h ∧ E = "java/lang/IndexOutOfBoundsException"))
    (o : RH h0 → InR a1 → InR a2 → V_X5_end P Px h0 mc t_X5_checkEdge a1 a2) :
    Ct l yX5_end cX5_end 3 (some .int) 7 102 mc [vr 0, vi a1, vi a2] h0 [] P Px := by
  refine Ct.of (own := RX5) (by decide) rfl (Nat.le_of_ble_eq_true rfl) ?_
  intro X C hXl hXM hXh hXP hXX hXc hXr hav hR0
  have hmain : V_X5_end P Px h0 mc t_X5_checkEdge a1 a2 := o hR0 (hav (vi a1) (by simp)) (hav (vi a2) (by simp))
  have B_27 : ∀ (h : Hp) (y1 : Int), V_X5_end_27 P Px h0 mc t_X5_checkEdge h y1 → Wh X 27 [(0, vr 0)] [vi y1, vr 6] h 0 := by
    intro h y1 v
    unfold V_X5_end_27 at v
    obtain ⟨o1, v⟩ := v
    refine r_iaload (r := 6) (N := 200) C dX5_end_27 rfl o1 ?_
    exact r_ireturn C dX5_end_28 hXr (Nat.zero_le _) (by rw [hXP]; exact v)
  show Wh X 0 [(0, vr 0), (1, vi a1), (2, vi a2)] [] h0 0
  have v := hmain
  unfold V_X5_end at v
  refine r_aload_n 0 C dX5_end_0 rfl ?_
  refine r_iload_n 1 C dX5_end_1 rfl ?_
  refine s_callx (tf := t_X5_checkEdge a1 h0) (E0 := "java/lang/IndexOutOfBoundsException") [a1] [] C dX5_end_2 ck_X5_103 (r := 0) (fY := 6) (nY := 81) rfl rfl (by decide) (by decide) (Nat.le_of_ble_eq_true rfl) rfl (by rw [hXl]; exact c_X5_checkEdge a1 h0) (fun z => by rw [hXX, hXh, hXc]; exact v.1 z) (fun o2 _ => ?_)
  have v := v.2 o2
  refine r_aload_n 0 C dX5_end_5 rfl ?_
  refine gf_X5_12 C dX5_end_6 ?_
  refine gf_X5_126 C dX5_end_9 ?_
  refine r_iload_n 2 C dX5_end_12 rfl ?_
  refine r_if_eq (tgt := 24) C dX5_end_13 (by decide) (fun c3 => ?_) (fun c3 => ?_)
  · have v := v.1 c3
    refine r_iconst C dX5_end_24 ⟨by decide, by decide⟩ ?_
    refine r_iload_n 1 C dX5_end_25 rfl ?_
    obtain ⟨o4, v⟩ := v
    refine r_imul C dX5_end_26 o4 ?_
    exact s_sub [0] rfl (B_27 _ _ v)
  · have v := v.2 c3
    refine r_iconst C dX5_end_16 ⟨by decide, by decide⟩ ?_
    refine r_iload_n 1 C dX5_end_17 rfl ?_
    obtain ⟨o5, v⟩ := v
    refine r_imul C dX5_end_18 o5 ?_
    refine r_iconst C dX5_end_19 ⟨by decide, by decide⟩ ?_
    obtain ⟨o6, v⟩ := v
    refine r_iadd C dX5_end_20 o6 ?_
    refine r_goto (tgt := 27) C dX5_end_21 (by decide) ?_
    exact s_sub [0] rfl (B_27 _ _ v)

def V_X5_faces (P : Int → Hp → Prop) (h0 : Hp) : Prop :=
  P (h0 2 4) h0
set_option maxHeartbeats 4000000 in
set_option maxRecDepth 100000 in
theorem w_X5_faces {l : Launch} (P : Int → Hp → Prop) (h0 : Hp)
    (o : RH h0 → V_X5_faces P h0) :
    Ct l yX5_faces cX5_faces 1 (some .int) 0 0 0 [vr 0] h0 [] P (fun _ => False) := by
  refine Ct.of (own := RX5) (by decide) rfl (Nat.le_of_ble_eq_true rfl) ?_
  intro X C hXl hXM hXh hXP hXX hXc hXr hav hR0
  have hmain : V_X5_faces P h0 := o hR0 
  show Wh X 0 [(0, vr 0)] [] h0 0
  have v := hmain
  unfold V_X5_faces at v
  refine r_aload_n 0 C dX5_faces_0 rfl ?_
  refine gf_X5_21 C dX5_faces_1 ?_
  refine gf_X5_129 C dX5_faces_4 ?_
  exact r_ireturn C dX5_faces_7 hXr (Nat.zero_le _) (by rw [hXP]; exact v)

def V_X5_sides (P : Int → Hp → Prop) (Px : String → Prop) (h0 : Hp) (mc : Nat) (t_X5_checkFace : Int → Hp → Prop) (a1 : Int) : Prop :=
  (t_X5_checkFace a1 h0 → Px "java/lang/IndexOutOfBoundsException" ∧ h0 = h0 ∧ 1 ≤ mc) ∧ (¬ t_X5_checkFace a1 h0 → (((0 : Int) ≤ a1 ∧ (a1 : Int) < 200) ∧ (P (h0 14 a1) h0)))
set_option maxHeartbeats 4000000 in
set_option maxRecDepth 100000 in
theorem w_X5_sides {l : Launch} (P : Int → Hp → Prop) (Px : String → Prop) (h0 : Hp) (mc : Nat) (t_X5_checkFace : Int → Hp → Prop) (a1 : Int)
    (c_X5_checkFace : ∀ (b1 : Int) (h : Hp) (mc : Nat), (t_X5_checkFace b1 h → 1 ≤ mc) → Ct l yX5_checkFace cX5_checkFace 2 none 6 81 mc [vr 0, vi b1] h [] (fun _ _ => ¬ t_X5_checkFace b1 h ∧ True) (fun E => t_X5_checkFace b1 h ∧ E = "java/lang/IndexOutOfBoundsException"))
    (o : RH h0 → InR a1 → V_X5_sides P Px h0 mc t_X5_checkFace a1) :
    Ct l yX5_sides cX5_sides 2 (some .int) 7 102 mc [vr 0, vi a1] h0 [] P Px := by
  refine Ct.of (own := RX5) (by decide) rfl (Nat.le_of_ble_eq_true rfl) ?_
  intro X C hXl hXM hXh hXP hXX hXc hXr hav hR0
  have hmain : V_X5_sides P Px h0 mc t_X5_checkFace a1 := o hR0 (hav (vi a1) (by simp))
  show Wh X 0 [(0, vr 0), (1, vi a1)] [] h0 0
  have v := hmain
  unfold V_X5_sides at v
  refine r_aload_n 0 C dX5_sides_0 rfl ?_
  refine r_iload_n 1 C dX5_sides_1 rfl ?_
  refine s_callx (tf := t_X5_checkFace a1 h0) (E0 := "java/lang/IndexOutOfBoundsException") [a1] [] C dX5_sides_2 ck_X5_132 (r := 0) (fY := 6) (nY := 81) rfl rfl (by decide) (by decide) (Nat.le_of_ble_eq_true rfl) rfl (by rw [hXl]; exact c_X5_checkFace a1 h0) (fun z => by rw [hXX, hXh, hXc]; exact v.1 z) (fun o1 _ => ?_)
  have v := v.2 o1
  refine r_aload_n 0 C dX5_sides_5 rfl ?_
  refine gf_X5_21 C dX5_sides_6 ?_
  refine gf_X5_135 C dX5_sides_9 ?_
  refine r_iload_n 1 C dX5_sides_12 rfl ?_
  obtain ⟨o2, v⟩ := v
  refine r_iaload (r := 14) (N := 200) C dX5_sides_13 rfl o2 ?_
  exact r_ireturn C dX5_sides_14 hXr (Nat.zero_le _) (by rw [hXP]; exact v)

def V_X5_parts (P : Int → Hp → Prop) (h0 : Hp) : Prop :=
  P (h0 3 7) h0
set_option maxHeartbeats 4000000 in
set_option maxRecDepth 100000 in
theorem w_X5_parts {l : Launch} (P : Int → Hp → Prop) (h0 : Hp)
    (o : RH h0 → V_X5_parts P h0) :
    Ct l yX5_parts cX5_parts 1 (some .int) 0 0 0 [vr 0] h0 [] P (fun _ => False) := by
  refine Ct.of (own := RX5) (by decide) rfl (Nat.le_of_ble_eq_true rfl) ?_
  intro X C hXl hXM hXh hXP hXX hXc hXr hav hR0
  have hmain : V_X5_parts P h0 := o hR0 
  show Wh X 0 [(0, vr 0)] [] h0 0
  have v := hmain
  unfold V_X5_parts at v
  refine r_aload_n 0 C dX5_parts_0 rfl ?_
  refine gf_X5_28 C dX5_parts_1 ?_
  refine gf_X5_147 C dX5_parts_4 ?_
  exact r_ireturn C dX5_parts_7 hXr (Nat.zero_le _) (by rw [hXP]; exact v)

def V_X5_genus (P : Int → Hp → Prop) (p_X2_lonelyVertices : Hp → Prop) (q_X2_lonelyVertices : Hp → Int → Prop) (h0 : Hp) : Prop :=
  p_X2_lonelyVertices h0 ∧ (∀ r2 : Int, InR r2 → q_X2_lonelyVertices h0 r2 → (InR ((h0 2 4) + r2) ∧ (∀ z4 : Int, z4 = ((h0 2 4) + r2) → (InR ((h0 1 6) - (h0 1 8)) ∧ (InR (((h0 1 6) - (h0 1 8)) + z4) ∧ (((0 : Int) < 2 ∧ InR ((((h0 1 6) - (h0 1 8)) + z4).tdiv 2)) ∧ (InR ((h0 3 7) - ((((h0 1 6) - (h0 1 8)) + z4).tdiv 2)) ∧ (P ((h0 3 7) - ((((h0 1 6) - (h0 1 8)) + z4).tdiv 2)) h0))))))))
set_option maxHeartbeats 4000000 in
set_option maxRecDepth 100000 in
theorem w_X5_genus {l : Launch} (P : Int → Hp → Prop) (p_X2_lonelyVertices : Hp → Prop) (q_X2_lonelyVertices : Hp → Int → Prop) (h0 : Hp)
    (c_X2_lonelyVertices : ∀ (h : Hp), p_X2_lonelyVertices h → Ct l yX2_lonelyVertices cX2_lonelyVertices 3 (some .int) 0 0 0 [vr 1] h [] (fun r _ => q_X2_lonelyVertices h r) (fun _ => False))
    (o : RH h0 → V_X5_genus P p_X2_lonelyVertices q_X2_lonelyVertices h0) :
    Ct l yX5_genus cX5_genus 2 (some .int) 1 22 0 [vr 0] h0 [] P (fun _ => False) := by
  refine Ct.of (own := RX5) (by decide) rfl (Nat.le_of_ble_eq_true rfl) ?_
  intro X C hXl hXM hXh hXP hXX hXc hXr hav hR0
  have hmain : V_X5_genus P p_X2_lonelyVertices q_X2_lonelyVertices h0 := o hR0 
  show Wh X 0 [(0, vr 0)] [] h0 0
  have v := hmain
  unfold V_X5_genus at v
  refine r_aload_n 0 C dX5_genus_0 rfl ?_
  refine gf_X5_21 C dX5_genus_1 ?_
  refine gf_X5_129 C dX5_genus_4 ?_
  refine r_aload_n 0 C dX5_genus_7 rfl ?_
  refine gf_X5_12 C dX5_genus_8 ?_
  obtain ⟨o1, v⟩ := v
  refine s_calli0 [] [vi (h0 2 4)] C dX5_genus_11 ck_X5_148 (r := 1) (fY := 0) (nY := 0) rfl rfl (by decide) (by decide) (Nat.le_of_ble_eq_true rfl) rfl (by rw [hXl]; exact c_X2_lonelyVertices h0 o1) (fun r2 gr2 qr2 => ?_)
  have v := v r2 gr2 qr2
  obtain ⟨o3, v⟩ := v
  refine r_iadd C dX5_genus_14 o3 ?_
  refine s_istore_n C dX5_genus_15 (by decide) (fun z4 ez4 => ?_)
  have v := v z4 ez4
  show Wh X 16 [(1, vi z4), (0, vr 0)] [] h0 0
  refine r_aload_n 1 C dX5_genus_16 rfl ?_
  refine gf_X5_28 C dX5_genus_17 ?_
  refine gf_X5_147 C dX5_genus_20 ?_
  refine r_aload_n 1 C dX5_genus_23 rfl ?_
  refine gf_X5_12 C dX5_genus_24 ?_
  refine gf_X5_48 C dX5_genus_27 ?_
  refine r_aload_n 1 C dX5_genus_30 rfl ?_
  refine gf_X5_12 C dX5_genus_31 ?_
  refine gf_X5_109 C dX5_genus_34 ?_
  obtain ⟨o5, v⟩ := v
  refine r_isub C dX5_genus_37 o5 ?_
  refine r_iload_n 0 C dX5_genus_38 rfl ?_
  obtain ⟨o6, v⟩ := v
  refine r_iadd C dX5_genus_39 o6 ?_
  refine r_iconst C dX5_genus_40 ⟨by decide, by decide⟩ ?_
  obtain ⟨o7, v⟩ := v
  refine r_idiv C dX5_genus_41 o7 ?_
  obtain ⟨o8, v⟩ := v
  refine r_isub C dX5_genus_42 o8 ?_
  exact r_ireturn C dX5_genus_43 hXr (Nat.zero_le _) (by rw [hXP]; exact v)

def V_X5_colour (P : Int → Hp → Prop) (Px : String → Prop) (h0 : Hp) (mc : Nat) (t_X5_checkPlane : Hp → Prop) (p_X0_colourAll : Hp → Prop) (q_X0_colourAll : Hp → Hp → Prop) (p_X0_coloursUsed : Hp → Prop) (q_X0_coloursUsed : Hp → Int → Prop) : Prop :=
  (t_X5_checkPlane h0 → Px "java/lang/IllegalStateException" ∧ h0 = h0 ∧ 1 ≤ mc) ∧ (¬ t_X5_checkPlane h0 → (p_X0_colourAll h0 ∧ (∀ h3 : Hp, Fr [4, 20, 21, 22, 23, 24, 25] h0 h3 → RH h3 → q_X0_colourAll h0 h3 → (p_X0_coloursUsed h3 ∧ (∀ r5 : Int, InR r5 → q_X0_coloursUsed h3 r5 → (P r5 h3))))))
set_option maxHeartbeats 4000000 in
set_option maxRecDepth 100000 in
theorem w_X5_colour {l : Launch} (P : Int → Hp → Prop) (Px : String → Prop) (h0 : Hp) (mc : Nat) (t_X5_checkPlane : Hp → Prop) (p_X0_colourAll : Hp → Prop) (q_X0_colourAll : Hp → Hp → Prop) (p_X0_coloursUsed : Hp → Prop) (q_X0_coloursUsed : Hp → Int → Prop)
    (c_X5_checkPlane : ∀ (h : Hp) (mc : Nat), (t_X5_checkPlane h → 1 ≤ mc) → Ct l yX5_checkPlane cX5_checkPlane 1 none 6 81 mc [vr 0] h [] (fun _ _ => ¬ t_X5_checkPlane h ∧ True) (fun E => t_X5_checkPlane h ∧ E = "java/lang/IllegalStateException"))
    (c_X0_colourAll : ∀ (h : Hp), p_X0_colourAll h → Ct l yX0_colourAll cX0_colourAll 3 none 5 117 0 [vr 4] h [4, 20, 21, 22, 23, 24, 25] (fun _ h1 => q_X0_colourAll h h1) (fun _ => False))
    (c_X0_coloursUsed : ∀ (h : Hp), p_X0_coloursUsed h → Ct l yX0_coloursUsed cX0_coloursUsed 3 (some .int) 1 20 0 [vr 4] h [] (fun r _ => q_X0_coloursUsed h r) (fun _ => False))
    (o : RH h0 → V_X5_colour P Px h0 mc t_X5_checkPlane p_X0_colourAll q_X0_colourAll p_X0_coloursUsed q_X0_coloursUsed) :
    Ct l yX5_colour cX5_colour 1 (some .int) 7 139 mc [vr 0] h0 [4, 20, 21, 22, 23, 24, 25] P Px := by
  refine Ct.of (own := RX5) (by decide) rfl (Nat.le_of_ble_eq_true rfl) ?_
  intro X C hXl hXM hXh hXP hXX hXc hXr hav hR0
  have hmain : V_X5_colour P Px h0 mc t_X5_checkPlane p_X0_colourAll q_X0_colourAll p_X0_coloursUsed q_X0_coloursUsed := o hR0 
  show Wh X 0 [(0, vr 0)] [] h0 0
  have v := hmain
  unfold V_X5_colour at v
  refine r_aload_n 0 C dX5_colour_0 rfl ?_
  refine s_callx (tf := t_X5_checkPlane h0) (E0 := "java/lang/IllegalStateException") [] [] C dX5_colour_1 ck_X5_151 (r := 0) (fY := 6) (nY := 81) rfl rfl (by decide) (by decide) (Nat.le_of_ble_eq_true rfl) rfl (by rw [hXl]; exact c_X5_checkPlane h0) (fun z => by rw [hXX, hXh, hXc]; exact v.1 z) (fun o1 _ => ?_)
  have v := v.2 o1
  refine r_aload_n 0 C dX5_colour_4 rfl ?_
  refine gf_X5_35 C dX5_colour_5 ?_
  obtain ⟨o2, v⟩ := v
  refine s_callv [] [] C dX5_colour_8 ck_X5_154 (r := 4) (fY := 5) (nY := 117) rfl rfl (by decide) (by decide) (Nat.le_of_ble_eq_true rfl) rfl (MY := [4, 20, 21, 22, 23, 24, 25]) hXM (by decide) (by rw [hXl]; exact c_X0_colourAll h0 o2) (fun h3 fh3 kh3 qh3 => ?_)
  have v := v h3 fh3 kh3 qh3
  refine r_aload_n 0 C dX5_colour_11 rfl ?_
  refine gf_X5_35 C dX5_colour_12 ?_
  obtain ⟨o4, v⟩ := v
  refine s_calli0 [] [] C dX5_colour_15 ck_X5_157 (r := 4) (fY := 1) (nY := 20) rfl rfl (by decide) (by decide) (Nat.le_of_ble_eq_true rfl) rfl (by rw [hXl]; exact c_X0_coloursUsed h3 o4) (fun r5 gr5 qr5 => ?_)
  have v := v r5 gr5 qr5
  exact r_ireturn C dX5_colour_18 hXr (Nat.zero_le _) (by rw [hXP]; exact v)

def V_X5_colourOf (P : Int → Hp → Prop) (Px : String → Prop) (h0 : Hp) (mc : Nat) (t_X5_checkVertex : Int → Hp → Prop) (a1 : Int) : Prop :=
  (t_X5_checkVertex a1 h0 → Px "java/lang/IndexOutOfBoundsException" ∧ h0 = h0 ∧ 1 ≤ mc) ∧ (¬ t_X5_checkVertex a1 h0 → (((0 : Int) ≤ a1 ∧ (a1 : Int) < 30) ∧ (P (h0 20 a1) h0)))
set_option maxHeartbeats 4000000 in
set_option maxRecDepth 100000 in
theorem w_X5_colourOf {l : Launch} (P : Int → Hp → Prop) (Px : String → Prop) (h0 : Hp) (mc : Nat) (t_X5_checkVertex : Int → Hp → Prop) (a1 : Int)
    (c_X5_checkVertex : ∀ (b1 : Int) (h : Hp) (mc : Nat), (t_X5_checkVertex b1 h → 1 ≤ mc) → Ct l yX5_checkVertex cX5_checkVertex 2 none 6 81 mc [vr 0, vi b1] h [] (fun _ _ => ¬ t_X5_checkVertex b1 h ∧ True) (fun E => t_X5_checkVertex b1 h ∧ E = "java/lang/IndexOutOfBoundsException"))
    (o : RH h0 → InR a1 → V_X5_colourOf P Px h0 mc t_X5_checkVertex a1) :
    Ct l yX5_colourOf cX5_colourOf 2 (some .int) 7 102 mc [vr 0, vi a1] h0 [] P Px := by
  refine Ct.of (own := RX5) (by decide) rfl (Nat.le_of_ble_eq_true rfl) ?_
  intro X C hXl hXM hXh hXP hXX hXc hXr hav hR0
  have hmain : V_X5_colourOf P Px h0 mc t_X5_checkVertex a1 := o hR0 (hav (vi a1) (by simp))
  show Wh X 0 [(0, vr 0), (1, vi a1)] [] h0 0
  have v := hmain
  unfold V_X5_colourOf at v
  refine r_aload_n 0 C dX5_colourOf_0 rfl ?_
  refine r_iload_n 1 C dX5_colourOf_1 rfl ?_
  refine s_callx (tf := t_X5_checkVertex a1 h0) (E0 := "java/lang/IndexOutOfBoundsException") [a1] [] C dX5_colourOf_2 ck_X5_70 (r := 0) (fY := 6) (nY := 81) rfl rfl (by decide) (by decide) (Nat.le_of_ble_eq_true rfl) rfl (by rw [hXl]; exact c_X5_checkVertex a1 h0) (fun z => by rw [hXX, hXh, hXc]; exact v.1 z) (fun o1 _ => ?_)
  have v := v.2 o1
  refine r_aload_n 0 C dX5_colourOf_5 rfl ?_
  refine gf_X5_35 C dX5_colourOf_6 ?_
  refine gf_X5_63 C dX5_colourOf_9 ?_
  refine r_iload_n 1 C dX5_colourOf_12 rfl ?_
  obtain ⟨o2, v⟩ := v
  refine r_iaload (r := 20) (N := 30) C dX5_colourOf_13 rfl o2 ?_
  exact r_ireturn C dX5_colourOf_14 hXr (Nat.zero_le _) (by rw [hXP]; exact v)

def V_X5_exchanges (P : Int → Hp → Prop) (h0 : Hp) : Prop :=
  P (h0 4 8) h0
set_option maxHeartbeats 4000000 in
set_option maxRecDepth 100000 in
theorem w_X5_exchanges {l : Launch} (P : Int → Hp → Prop) (h0 : Hp)
    (o : RH h0 → V_X5_exchanges P h0) :
    Ct l yX5_exchanges cX5_exchanges 1 (some .int) 0 0 0 [vr 0] h0 [] P (fun _ => False) := by
  refine Ct.of (own := RX5) (by decide) rfl (Nat.le_of_ble_eq_true rfl) ?_
  intro X C hXl hXM hXh hXP hXX hXc hXr hav hR0
  have hmain : V_X5_exchanges P h0 := o hR0 
  show Wh X 0 [(0, vr 0)] [] h0 0
  have v := hmain
  unfold V_X5_exchanges at v
  refine r_aload_n 0 C dX5_exchanges_0 rfl ?_
  refine gf_X5_35 C dX5_exchanges_1 ?_
  refine gf_X5_160 C dX5_exchanges_4 ?_
  exact r_ireturn C dX5_exchanges_7 hXr (Nat.zero_le _) (by rw [hXP]; exact v)

def V_X5_clashes (P : Int → Hp → Prop) (p_X0_equalEnds : Hp → Prop) (q_X0_equalEnds : Hp → Int → Prop) (h0 : Hp) : Prop :=
  p_X0_equalEnds h0 ∧ (∀ r2 : Int, InR r2 → q_X0_equalEnds h0 r2 → (P r2 h0))
set_option maxHeartbeats 4000000 in
set_option maxRecDepth 100000 in
theorem w_X5_clashes {l : Launch} (P : Int → Hp → Prop) (p_X0_equalEnds : Hp → Prop) (q_X0_equalEnds : Hp → Int → Prop) (h0 : Hp)
    (c_X0_equalEnds : ∀ (h : Hp), p_X0_equalEnds h → Ct l yX0_equalEnds cX0_equalEnds 4 (some .int) 0 0 0 [vr 4] h [] (fun r _ => q_X0_equalEnds h r) (fun _ => False))
    (o : RH h0 → V_X5_clashes P p_X0_equalEnds q_X0_equalEnds h0) :
    Ct l yX5_clashes cX5_clashes 1 (some .int) 1 23 0 [vr 0] h0 [] P (fun _ => False) := by
  refine Ct.of (own := RX5) (by decide) rfl (Nat.le_of_ble_eq_true rfl) ?_
  intro X C hXl hXM hXh hXP hXX hXc hXr hav hR0
  have hmain : V_X5_clashes P p_X0_equalEnds q_X0_equalEnds h0 := o hR0 
  show Wh X 0 [(0, vr 0)] [] h0 0
  have v := hmain
  unfold V_X5_clashes at v
  refine r_aload_n 0 C dX5_clashes_0 rfl ?_
  refine gf_X5_35 C dX5_clashes_1 ?_
  obtain ⟨o1, v⟩ := v
  refine s_calli0 [] [] C dX5_clashes_4 ck_X5_177 (r := 4) (fY := 0) (nY := 0) rfl rfl (by decide) (by decide) (Nat.le_of_ble_eq_true rfl) rfl (by rw [hXl]; exact c_X0_equalEnds h0 o1) (fun r2 gr2 qr2 => ?_)
  have v := v r2 gr2 qr2
  exact r_ireturn C dX5_clashes_7 hXr (Nat.zero_le _) (by rw [hXP]; exact v)

def V_X5_above (P : Int → Hp → Prop) (Px : String → Prop) (h0 : Hp) (mc : Nat) (t_X5_checkVertex : Int → Hp → Prop) (a1 : Int) : Prop :=
  (t_X5_checkVertex a1 h0 → Px "java/lang/IndexOutOfBoundsException" ∧ h0 = h0 ∧ 1 ≤ mc) ∧ (¬ t_X5_checkVertex a1 h0 → (((0 : Int) ≤ a1 ∧ (a1 : Int) < 30) ∧ (P (h0 15 a1) h0)))
set_option maxHeartbeats 4000000 in
set_option maxRecDepth 100000 in
theorem w_X5_above {l : Launch} (P : Int → Hp → Prop) (Px : String → Prop) (h0 : Hp) (mc : Nat) (t_X5_checkVertex : Int → Hp → Prop) (a1 : Int)
    (c_X5_checkVertex : ∀ (b1 : Int) (h : Hp) (mc : Nat), (t_X5_checkVertex b1 h → 1 ≤ mc) → Ct l yX5_checkVertex cX5_checkVertex 2 none 6 81 mc [vr 0, vi b1] h [] (fun _ _ => ¬ t_X5_checkVertex b1 h ∧ True) (fun E => t_X5_checkVertex b1 h ∧ E = "java/lang/IndexOutOfBoundsException"))
    (o : RH h0 → InR a1 → V_X5_above P Px h0 mc t_X5_checkVertex a1) :
    Ct l yX5_above cX5_above 2 (some .int) 7 102 mc [vr 0, vi a1] h0 [] P Px := by
  refine Ct.of (own := RX5) (by decide) rfl (Nat.le_of_ble_eq_true rfl) ?_
  intro X C hXl hXM hXh hXP hXX hXc hXr hav hR0
  have hmain : V_X5_above P Px h0 mc t_X5_checkVertex a1 := o hR0 (hav (vi a1) (by simp))
  show Wh X 0 [(0, vr 0), (1, vi a1)] [] h0 0
  have v := hmain
  unfold V_X5_above at v
  refine r_aload_n 0 C dX5_above_0 rfl ?_
  refine r_iload_n 1 C dX5_above_1 rfl ?_
  refine s_callx (tf := t_X5_checkVertex a1 h0) (E0 := "java/lang/IndexOutOfBoundsException") [a1] [] C dX5_above_2 ck_X5_70 (r := 0) (fY := 6) (nY := 81) rfl rfl (by decide) (by decide) (Nat.le_of_ble_eq_true rfl) rfl (by rw [hXl]; exact c_X5_checkVertex a1 h0) (fun z => by rw [hXX, hXh, hXc]; exact v.1 z) (fun o1 _ => ?_)
  have v := v.2 o1
  refine r_aload_n 0 C dX5_above_5 rfl ?_
  refine gf_X5_28 C dX5_above_6 ?_
  refine gf_X5_180 C dX5_above_9 ?_
  refine r_iload_n 1 C dX5_above_12 rfl ?_
  obtain ⟨o2, v⟩ := v
  refine r_iaload (r := 15) (N := 30) C dX5_above_13 rfl o2 ?_
  exact r_ireturn C dX5_above_14 hXr (Nat.zero_le _) (by rw [hXP]; exact v)

def V_X5_cycle (P : Int → Hp → Prop) (Px : String → Prop) (h0 : Hp) (mc : Nat) (t_X5_checkEdge : Int → Hp → Prop) (p_X4_holds : Int → Hp → Prop) (q_X4_holds : Int → Hp → Int → Prop) (p_X3_markCycle : Int → Hp → Prop) (q_X3_markCycle : Int → Hp → Hp → Prop) (a1 : Int) : Prop :=
  (t_X5_checkEdge a1 h0 → Px "java/lang/IndexOutOfBoundsException" ∧ h0 = h0 ∧ 1 ≤ mc) ∧ (¬ t_X5_checkEdge a1 h0 → (p_X4_holds a1 h0 ∧ (∀ r3 : Int, InR r3 → q_X4_holds a1 h0 r3 → ((r3 = 0 → p_X3_markCycle a1 h0 ∧ (∀ h6 : Hp, Fr [5, 26, 27] h0 h6 → RH h6 → q_X3_markCycle a1 h0 h6 → (P (h6 5 8) h6))) ∧ (¬ r3 = 0 → P 0 h0)))))
set_option maxHeartbeats 4000000 in
set_option maxRecDepth 100000 in
theorem w_X5_cycle {l : Launch} (P : Int → Hp → Prop) (Px : String → Prop) (h0 : Hp) (mc : Nat) (t_X5_checkEdge : Int → Hp → Prop) (p_X4_holds : Int → Hp → Prop) (q_X4_holds : Int → Hp → Int → Prop) (p_X3_markCycle : Int → Hp → Prop) (q_X3_markCycle : Int → Hp → Hp → Prop) (a1 : Int)
    (c_X5_checkEdge : ∀ (b1 : Int) (h : Hp) (mc : Nat), (t_X5_checkEdge b1 h → 1 ≤ mc) → Ct l yX5_checkEdge cX5_checkEdge 2 none 6 81 mc [vr 0, vi b1] h [] (fun _ _ => ¬ t_X5_checkEdge b1 h ∧ True) (fun E => t_X5_checkEdge b1 h ∧ E = "java/lang/IndexOutOfBoundsException"))
    (c_X4_holds : ∀ (b1 : Int) (h : Hp), p_X4_holds b1 h → Ct l yX4_holds cX4_holds 2 (some .boolean) 0 0 0 [vr 3, vi b1] h [] (fun r _ => q_X4_holds b1 h r) (fun _ => False))
    (c_X3_markCycle : ∀ (b1 : Int) (h : Hp), p_X3_markCycle b1 h → Ct l yX3_markCycle cX3_markCycle 5 none 1 21 0 [vr 5, vi b1] h [5, 26, 27] (fun _ h1 => q_X3_markCycle b1 h h1) (fun _ => False))
    (o : RH h0 → InR a1 → V_X5_cycle P Px h0 mc t_X5_checkEdge p_X4_holds q_X4_holds p_X3_markCycle q_X3_markCycle a1) :
    Ct l yX5_cycle cX5_cycle 2 (some .int) 7 102 mc [vr 0, vi a1] h0 [5, 26, 27] P Px := by
  refine Ct.of (own := RX5) (by decide) rfl (Nat.le_of_ble_eq_true rfl) ?_
  intro X C hXl hXM hXh hXP hXX hXc hXr hav hR0
  have hmain : V_X5_cycle P Px h0 mc t_X5_checkEdge p_X4_holds q_X4_holds p_X3_markCycle q_X3_markCycle a1 := o hR0 (hav (vi a1) (by simp))
  show Wh X 0 [(0, vr 0), (1, vi a1)] [] h0 0
  have v := hmain
  unfold V_X5_cycle at v
  refine r_aload_n 0 C dX5_cycle_0 rfl ?_
  refine r_iload_n 1 C dX5_cycle_1 rfl ?_
  refine s_callx (tf := t_X5_checkEdge a1 h0) (E0 := "java/lang/IndexOutOfBoundsException") [a1] [] C dX5_cycle_2 ck_X5_103 (r := 0) (fY := 6) (nY := 81) rfl rfl (by decide) (by decide) (Nat.le_of_ble_eq_true rfl) rfl (by rw [hXl]; exact c_X5_checkEdge a1 h0) (fun z => by rw [hXX, hXh, hXc]; exact v.1 z) (fun o1 _ => ?_)
  have v := v.2 o1
  refine r_aload_n 0 C dX5_cycle_5 rfl ?_
  refine gf_X5_28 C dX5_cycle_6 ?_
  refine r_iload_n 1 C dX5_cycle_9 rfl ?_
  obtain ⟨o2, v⟩ := v
  refine s_calli0 [a1] [] C dX5_cycle_10 ck_X5_183 (r := 3) (fY := 0) (nY := 0) rfl rfl (by decide) (by decide) (Nat.le_of_ble_eq_true rfl) rfl (by rw [hXl]; exact c_X4_holds a1 h0 o2) (fun r3 gr3 qr3 => ?_)
  have v := v r3 gr3 qr3
  refine r_if_eq (tgt := 18) C dX5_cycle_13 (by decide) (fun c4 => ?_) (fun c4 => ?_)
  · have v := v.1 c4
    refine r_aload_n 0 C dX5_cycle_18 rfl ?_
    refine gf_X5_44 C dX5_cycle_19 ?_
    refine r_iload_n 1 C dX5_cycle_22 rfl ?_
    obtain ⟨o5, v⟩ := v
    refine s_callv [a1] [] C dX5_cycle_23 ck_X5_187 (r := 5) (fY := 1) (nY := 21) rfl rfl (by decide) (by decide) (Nat.le_of_ble_eq_true rfl) rfl (MY := [5, 26, 27]) hXM (by decide) (by rw [hXl]; exact c_X3_markCycle a1 h0 o5) (fun h6 fh6 kh6 qh6 => ?_)
    have v := v h6 fh6 kh6 qh6
    refine r_aload_n 0 C dX5_cycle_26 rfl ?_
    refine gf_X5_44 C dX5_cycle_27 ?_
    refine gf_X5_190 C dX5_cycle_30 ?_
    exact r_ireturn C dX5_cycle_33 hXr (Nat.zero_le _) (by rw [hXP]; exact v)
  · have v := v.2 c4
    refine r_iconst C dX5_cycle_16 ⟨by decide, by decide⟩ ?_
    exact r_ireturn C dX5_cycle_17 hXr (Nat.zero_le _) (by rw [hXP]; exact v)

def V_X5_side_51 (P : Int → Hp → Prop) (Px : String → Prop) (h0 : Hp) (mc : Nat) (t_X5_checkEdge : Int → Hp → Prop) (t_X5_checkPlane : Hp → Prop) (p_X4_holds : Int → Hp → Prop) (q_X4_holds : Int → Hp → Int → Prop) (p_X3_partBy : Int → Hp → Prop) (q_X3_partBy : Int → Hp → Hp → Prop) (h : Hp) (y0 : Int) : Prop :=
  P y0 h
def V_X5_side (P : Int → Hp → Prop) (Px : String → Prop) (h0 : Hp) (mc : Nat) (t_X5_checkEdge : Int → Hp → Prop) (t_X5_checkPlane : Hp → Prop) (p_X4_holds : Int → Hp → Prop) (q_X4_holds : Int → Hp → Int → Prop) (p_X3_partBy : Int → Hp → Prop) (q_X3_partBy : Int → Hp → Hp → Prop) (a1 : Int) (a2 : Int) : Prop :=
  (t_X5_checkEdge a1 h0 → Px "java/lang/IndexOutOfBoundsException" ∧ h0 = h0 ∧ 1 ≤ mc) ∧ (¬ t_X5_checkEdge a1 h0 → ((t_X5_checkPlane h0 → Px "java/lang/IllegalStateException" ∧ h0 = h0 ∧ 1 ≤ mc) ∧ (¬ t_X5_checkPlane h0 → (p_X4_holds a1 h0 ∧ (∀ r4 : Int, InR r4 → q_X4_holds a1 h0 r4 → ((r4 = 0 → p_X3_partBy a1 h0 ∧ (∀ h7 : Hp, Fr [5, 26, 27, 28, 29] h0 h7 → RH h7 → q_X3_partBy a1 h0 h7 → ((a2 = 0 → V_X5_side_51 P Px h0 mc t_X5_checkEdge t_X5_checkPlane p_X4_holds q_X4_holds p_X3_partBy q_X3_partBy h7 (h7 5 10)) ∧ (¬ a2 = 0 → V_X5_side_51 P Px h0 mc t_X5_checkEdge t_X5_checkPlane p_X4_holds q_X4_holds p_X3_partBy q_X3_partBy h7 (h7 5 9))))) ∧ (¬ r4 = 0 → P 0 h0)))))))
set_option maxHeartbeats 4000000 in
set_option maxRecDepth 100000 in
theorem w_X5_side {l : Launch} (P : Int → Hp → Prop) (Px : String → Prop) (h0 : Hp) (mc : Nat) (t_X5_checkEdge : Int → Hp → Prop) (t_X5_checkPlane : Hp → Prop) (p_X4_holds : Int → Hp → Prop) (q_X4_holds : Int → Hp → Int → Prop) (p_X3_partBy : Int → Hp → Prop) (q_X3_partBy : Int → Hp → Hp → Prop) (a1 : Int) (a2 : Int)
    (c_X5_checkEdge : ∀ (b1 : Int) (h : Hp) (mc : Nat), (t_X5_checkEdge b1 h → 1 ≤ mc) → Ct l yX5_checkEdge cX5_checkEdge 2 none 6 81 mc [vr 0, vi b1] h [] (fun _ _ => ¬ t_X5_checkEdge b1 h ∧ True) (fun E => t_X5_checkEdge b1 h ∧ E = "java/lang/IndexOutOfBoundsException"))
    (c_X5_checkPlane : ∀ (h : Hp) (mc : Nat), (t_X5_checkPlane h → 1 ≤ mc) → Ct l yX5_checkPlane cX5_checkPlane 1 none 6 81 mc [vr 0] h [] (fun _ _ => ¬ t_X5_checkPlane h ∧ True) (fun E => t_X5_checkPlane h ∧ E = "java/lang/IllegalStateException"))
    (c_X4_holds : ∀ (b1 : Int) (h : Hp), p_X4_holds b1 h → Ct l yX4_holds cX4_holds 2 (some .boolean) 0 0 0 [vr 3, vi b1] h [] (fun r _ => q_X4_holds b1 h r) (fun _ => False))
    (c_X3_partBy : ∀ (b1 : Int) (h : Hp), p_X3_partBy b1 h → Ct l yX3_partBy cX3_partBy 2 none 3 67 0 [vr 5, vi b1] h [5, 26, 27, 28, 29] (fun _ h1 => q_X3_partBy b1 h h1) (fun _ => False))
    (o : RH h0 → InR a1 → InR a2 → V_X5_side P Px h0 mc t_X5_checkEdge t_X5_checkPlane p_X4_holds q_X4_holds p_X3_partBy q_X3_partBy a1 a2) :
    Ct l yX5_side cX5_side 3 (some .int) 7 102 mc [vr 0, vi a1, vi a2] h0 [5, 26, 27, 28, 29] P Px := by
  refine Ct.of (own := RX5) (by decide) rfl (Nat.le_of_ble_eq_true rfl) ?_
  intro X C hXl hXM hXh hXP hXX hXc hXr hav hR0
  have hmain : V_X5_side P Px h0 mc t_X5_checkEdge t_X5_checkPlane p_X4_holds q_X4_holds p_X3_partBy q_X3_partBy a1 a2 := o hR0 (hav (vi a1) (by simp)) (hav (vi a2) (by simp))
  have B_51 : ∀ (h : Hp) (y0 : Int), V_X5_side_51 P Px h0 mc t_X5_checkEdge t_X5_checkPlane p_X4_holds q_X4_holds p_X3_partBy q_X3_partBy h y0 → Wh X 51 [(0, vr 0)] [vi y0] h 0 := by
    intro h y0 v
    unfold V_X5_side_51 at v
    exact r_ireturn C dX5_side_51 hXr (Nat.zero_le _) (by rw [hXP]; exact v)
  show Wh X 0 [(0, vr 0), (1, vi a1), (2, vi a2)] [] h0 0
  have v := hmain
  unfold V_X5_side at v
  refine r_aload_n 0 C dX5_side_0 rfl ?_
  refine r_iload_n 1 C dX5_side_1 rfl ?_
  refine s_callx (tf := t_X5_checkEdge a1 h0) (E0 := "java/lang/IndexOutOfBoundsException") [a1] [] C dX5_side_2 ck_X5_103 (r := 0) (fY := 6) (nY := 81) rfl rfl (by decide) (by decide) (Nat.le_of_ble_eq_true rfl) rfl (by rw [hXl]; exact c_X5_checkEdge a1 h0) (fun z => by rw [hXX, hXh, hXc]; exact v.1 z) (fun o1 _ => ?_)
  have v := v.2 o1
  refine r_aload_n 0 C dX5_side_5 rfl ?_
  refine s_callx (tf := t_X5_checkPlane h0) (E0 := "java/lang/IllegalStateException") [] [] C dX5_side_6 ck_X5_151 (r := 0) (fY := 6) (nY := 81) rfl rfl (by decide) (by decide) (Nat.le_of_ble_eq_true rfl) rfl (by rw [hXl]; exact c_X5_checkPlane h0) (fun z => by rw [hXX, hXh, hXc]; exact v.1 z) (fun o2 _ => ?_)
  have v := v.2 o2
  refine r_aload_n 0 C dX5_side_9 rfl ?_
  refine gf_X5_28 C dX5_side_10 ?_
  refine r_iload_n 1 C dX5_side_13 rfl ?_
  obtain ⟨o3, v⟩ := v
  refine s_calli0 [a1] [] C dX5_side_14 ck_X5_183 (r := 3) (fY := 0) (nY := 0) rfl rfl (by decide) (by decide) (Nat.le_of_ble_eq_true rfl) rfl (by rw [hXl]; exact c_X4_holds a1 h0 o3) (fun r4 gr4 qr4 => ?_)
  have v := v r4 gr4 qr4
  refine r_if_eq (tgt := 22) C dX5_side_17 (by decide) (fun c5 => ?_) (fun c5 => ?_)
  · have v := v.1 c5
    refine r_aload_n 0 C dX5_side_22 rfl ?_
    refine gf_X5_44 C dX5_side_23 ?_
    refine r_iload_n 1 C dX5_side_26 rfl ?_
    obtain ⟨o6, v⟩ := v
    refine s_callv [a1] [] C dX5_side_27 ck_X5_193 (r := 5) (fY := 3) (nY := 67) rfl rfl (by decide) (by decide) (Nat.le_of_ble_eq_true rfl) rfl (MY := [5, 26, 27, 28, 29]) hXM (by decide) (by rw [hXl]; exact c_X3_partBy a1 h0 o6) (fun h7 fh7 kh7 qh7 => ?_)
    have v := v h7 fh7 kh7 qh7
    refine r_iload_n 2 C dX5_side_30 rfl ?_
    refine r_if_eq (tgt := 44) C dX5_side_31 (by decide) (fun c8 => ?_) (fun c8 => ?_)
    · have v := v.1 c8
      refine r_aload_n 0 C dX5_side_44 rfl ?_
      refine gf_X5_44 C dX5_side_45 ?_
      refine gf_X5_199 C dX5_side_48 ?_
      exact s_sub [0] rfl (B_51 _ _ v)
    · have v := v.2 c8
      refine r_aload_n 0 C dX5_side_34 rfl ?_
      refine gf_X5_44 C dX5_side_35 ?_
      refine gf_X5_196 C dX5_side_38 ?_
      refine r_goto (tgt := 51) C dX5_side_41 (by decide) ?_
      exact s_sub [0] rfl (B_51 _ _ v)
  · have v := v.2 c5
    refine r_iconst C dX5_side_20 ⟨by decide, by decide⟩ ?_
    exact r_ireturn C dX5_side_21 hXr (Nat.zero_le _) (by rw [hXP]; exact v)

def V_X5_clear (P : Int → Hp → Prop) (p_X0_forget : Hp → Prop) (q_X0_forget : Hp → Hp → Prop) (p_X2_dropAll : Hp → Prop) (q_X2_dropAll : Hp → Hp → Prop) (p_X5_surveyAgain : Hp → Prop) (q_X5_surveyAgain : Hp → Hp → Prop) (h0 : Hp) : Prop :=
  p_X0_forget h0 ∧ (∀ h2 : Hp, Fr [4, 20] h0 h2 → RH h2 → q_X0_forget h0 h2 → (p_X2_dropAll h2 ∧ (∀ h4 : Hp, Fr [1] h2 h4 → RH h4 → q_X2_dropAll h2 h4 → (p_X5_surveyAgain h4 ∧ (∀ h6 : Hp, Fr [2, 3, 12, 13, 14, 15, 16, 17, 18, 19] h4 h6 → RH h6 → q_X5_surveyAgain h4 h6 → (P 0 h6))))))
set_option maxHeartbeats 4000000 in
set_option maxRecDepth 100000 in
theorem w_X5_clear {l : Launch} (P : Int → Hp → Prop) (p_X0_forget : Hp → Prop) (q_X0_forget : Hp → Hp → Prop) (p_X2_dropAll : Hp → Prop) (q_X2_dropAll : Hp → Hp → Prop) (p_X5_surveyAgain : Hp → Prop) (q_X5_surveyAgain : Hp → Hp → Prop) (h0 : Hp)
    (c_X0_forget : ∀ (h : Hp), p_X0_forget h → Ct l yX0_forget cX0_forget 2 none 0 0 0 [vr 4] h [4, 20] (fun _ h1 => q_X0_forget h h1) (fun _ => False))
    (c_X2_dropAll : ∀ (h : Hp), p_X2_dropAll h → Ct l yX2_dropAll cX2_dropAll 1 none 0 0 0 [vr 1] h [1] (fun _ h1 => q_X2_dropAll h h1) (fun _ => False))
    (c_X5_surveyAgain : ∀ (h : Hp), p_X5_surveyAgain h → Ct l yX5_surveyAgain cX5_surveyAgain 1 none 4 91 0 [vr 0] h [2, 3, 12, 13, 14, 15, 16, 17, 18, 19] (fun _ h1 => q_X5_surveyAgain h h1) (fun _ => False))
    (o : RH h0 → V_X5_clear P p_X0_forget q_X0_forget p_X2_dropAll q_X2_dropAll p_X5_surveyAgain q_X5_surveyAgain h0) :
    Ct l yX5_clear cX5_clear 1 none 5 111 0 [vr 0] h0 [1, 2, 3, 4, 12, 13, 14, 15, 16, 17, 18, 19, 20] P (fun _ => False) := by
  refine Ct.of (own := RX5) (by decide) rfl (Nat.le_of_ble_eq_true rfl) ?_
  intro X C hXl hXM hXh hXP hXX hXc hXr hav hR0
  have hmain : V_X5_clear P p_X0_forget q_X0_forget p_X2_dropAll q_X2_dropAll p_X5_surveyAgain q_X5_surveyAgain h0 := o hR0 
  show Wh X 0 [(0, vr 0)] [] h0 0
  have v := hmain
  unfold V_X5_clear at v
  refine r_aload_n 0 C dX5_clear_0 rfl ?_
  refine gf_X5_35 C dX5_clear_1 ?_
  obtain ⟨o1, v⟩ := v
  refine s_callv [] [] C dX5_clear_4 ck_X5_100 (r := 4) (fY := 0) (nY := 0) rfl rfl (by decide) (by decide) (Nat.le_of_ble_eq_true rfl) rfl (MY := [4, 20]) hXM (by decide) (by rw [hXl]; exact c_X0_forget h0 o1) (fun h2 fh2 kh2 qh2 => ?_)
  have v := v h2 fh2 kh2 qh2
  refine r_aload_n 0 C dX5_clear_7 rfl ?_
  refine gf_X5_12 C dX5_clear_8 ?_
  obtain ⟨o3, v⟩ := v
  refine s_callv [] [] C dX5_clear_11 ck_X5_216 (r := 1) (fY := 0) (nY := 0) rfl rfl (by decide) (by decide) (Nat.le_of_ble_eq_true rfl) rfl (MY := [1]) hXM (by decide) (by rw [hXl]; exact c_X2_dropAll h2 o3) (fun h4 fh4 kh4 qh4 => ?_)
  have v := v h4 fh4 kh4 qh4
  refine r_aload_n 0 C dX5_clear_14 rfl ?_
  obtain ⟨o5, v⟩ := v
  refine s_callv [] [] C dX5_clear_15 ck_X5_67 (r := 0) (fY := 4) (nY := 91) rfl rfl (by decide) (by decide) (Nat.le_of_ble_eq_true rfl) rfl (MY := [2, 3, 12, 13, 14, 15, 16, 17, 18, 19]) hXM (by decide) (by rw [hXl]; exact c_X5_surveyAgain h4 o5) (fun h6 fh6 kh6 qh6 => ?_)
  have v := v h6 fh6 kh6 qh6
  exact r_return C dX5_clear_18 hXr (Nat.zero_le _) (by rw [hXP]; exact v)

def V_X5_surveyAgain (P : Int → Hp → Prop) (p_X1_survey : Hp → Prop) (q_X1_survey : Hp → Hp → Prop) (p_X4_survey : Hp → Prop) (q_X4_survey : Hp → Hp → Prop) (h0 : Hp) : Prop :=
  p_X1_survey h0 ∧ (∀ h2 : Hp, Fr [2, 12, 13, 14] h0 h2 → RH h2 → q_X1_survey h0 h2 → (p_X4_survey h2 ∧ (∀ h4 : Hp, Fr [3, 15, 16, 17, 18, 19] h2 h4 → RH h4 → q_X4_survey h2 h4 → (P 0 h4))))
set_option maxHeartbeats 4000000 in
set_option maxRecDepth 100000 in
theorem w_X5_surveyAgain {l : Launch} (P : Int → Hp → Prop) (p_X1_survey : Hp → Prop) (q_X1_survey : Hp → Hp → Prop) (p_X4_survey : Hp → Prop) (q_X4_survey : Hp → Hp → Prop) (h0 : Hp)
    (c_X1_survey : ∀ (h : Hp), p_X1_survey h → Ct l yX1_survey cX1_survey 3 none 2 44 0 [vr 2] h [2, 12, 13, 14] (fun _ h1 => q_X1_survey h h1) (fun _ => False))
    (c_X4_survey : ∀ (h : Hp), p_X4_survey h → Ct l yX4_survey cX4_survey 2 none 3 70 0 [vr 3] h [3, 15, 16, 17, 18, 19] (fun _ h1 => q_X4_survey h h1) (fun _ => False))
    (o : RH h0 → V_X5_surveyAgain P p_X1_survey q_X1_survey p_X4_survey q_X4_survey h0) :
    Ct l yX5_surveyAgain cX5_surveyAgain 1 none 4 91 0 [vr 0] h0 [2, 3, 12, 13, 14, 15, 16, 17, 18, 19] P (fun _ => False) := by
  refine Ct.of (own := RX5) (by decide) rfl (Nat.le_of_ble_eq_true rfl) ?_
  intro X C hXl hXM hXh hXP hXX hXc hXr hav hR0
  have hmain : V_X5_surveyAgain P p_X1_survey q_X1_survey p_X4_survey q_X4_survey h0 := o hR0 
  show Wh X 0 [(0, vr 0)] [] h0 0
  have v := hmain
  unfold V_X5_surveyAgain at v
  refine r_aload_n 0 C dX5_surveyAgain_0 rfl ?_
  refine gf_X5_21 C dX5_surveyAgain_1 ?_
  obtain ⟨o1, v⟩ := v
  refine s_callv [] [] C dX5_surveyAgain_4 ck_X5_219 (r := 2) (fY := 2) (nY := 44) rfl rfl (by decide) (by decide) (Nat.le_of_ble_eq_true rfl) rfl (MY := [2, 12, 13, 14]) hXM (by decide) (by rw [hXl]; exact c_X1_survey h0 o1) (fun h2 fh2 kh2 qh2 => ?_)
  have v := v h2 fh2 kh2 qh2
  refine r_aload_n 0 C dX5_surveyAgain_7 rfl ?_
  refine gf_X5_28 C dX5_surveyAgain_8 ?_
  obtain ⟨o3, v⟩ := v
  refine s_callv [] [] C dX5_surveyAgain_11 ck_X5_222 (r := 3) (fY := 3) (nY := 70) rfl rfl (by decide) (by decide) (Nat.le_of_ble_eq_true rfl) rfl (MY := [3, 15, 16, 17, 18, 19]) hXM (by decide) (by rw [hXl]; exact c_X4_survey h2 o3) (fun h4 fh4 kh4 qh4 => ?_)
  have v := v h4 fh4 kh4 qh4
  exact r_return C dX5_surveyAgain_14 hXr (Nat.zero_le _) (by rw [hXP]; exact v)

def V_X5_isPlane_12 (P : Int → Hp → Prop) (p_X5_genus : Hp → Prop) (q_X5_genus : Hp → Int → Prop) (h : Hp) (y0 : Int) : Prop :=
  (y0 = 0 ∨ y0 = 1) ∧ P y0 h
def V_X5_isPlane (P : Int → Hp → Prop) (p_X5_genus : Hp → Prop) (q_X5_genus : Hp → Int → Prop) (h0 : Hp) : Prop :=
  p_X5_genus h0 ∧ (∀ r2 : Int, InR r2 → q_X5_genus h0 r2 → ((¬ r2 = 0 → V_X5_isPlane_12 P p_X5_genus q_X5_genus h0 0) ∧ (r2 = 0 → V_X5_isPlane_12 P p_X5_genus q_X5_genus h0 1)))
set_option maxHeartbeats 4000000 in
set_option maxRecDepth 100000 in
theorem w_X5_isPlane {l : Launch} (P : Int → Hp → Prop) (p_X5_genus : Hp → Prop) (q_X5_genus : Hp → Int → Prop) (h0 : Hp)
    (c_X5_genus : ∀ (h : Hp), p_X5_genus h → Ct l yX5_genus cX5_genus 2 (some .int) 1 22 0 [vr 0] h [] (fun r _ => q_X5_genus h r) (fun _ => False))
    (o : RH h0 → V_X5_isPlane P p_X5_genus q_X5_genus h0) :
    Ct l yX5_isPlane cX5_isPlane 1 (some .boolean) 2 43 0 [vr 0] h0 [] P (fun _ => False) := by
  refine Ct.of (own := RX5) (by decide) rfl (Nat.le_of_ble_eq_true rfl) ?_
  intro X C hXl hXM hXh hXP hXX hXc hXr hav hR0
  have hmain : V_X5_isPlane P p_X5_genus q_X5_genus h0 := o hR0 
  have B_12 : ∀ (h : Hp) (y0 : Int), V_X5_isPlane_12 P p_X5_genus q_X5_genus h y0 → Wh X 12 [(0, vr 0)] [vi y0] h 0 := by
    intro h y0 v
    unfold V_X5_isPlane_12 at v
    exact r_zreturn C dX5_isPlane_12 hXr (Nat.zero_le _) v.1 (by rw [hXP]; exact v.2)
  show Wh X 0 [(0, vr 0)] [] h0 0
  have v := hmain
  unfold V_X5_isPlane at v
  refine r_aload_n 0 C dX5_isPlane_0 rfl ?_
  obtain ⟨o1, v⟩ := v
  refine s_calli0 [] [] C dX5_isPlane_1 ck_X5_223 (r := 0) (fY := 1) (nY := 22) rfl rfl (by decide) (by decide) (Nat.le_of_ble_eq_true rfl) rfl (by rw [hXl]; exact c_X5_genus h0 o1) (fun r2 gr2 qr2 => ?_)
  have v := v r2 gr2 qr2
  refine r_if_ne (tgt := 11) C dX5_isPlane_4 (by decide) (fun c3 => ?_) (fun c3 => ?_)
  · have v := v.1 c3
    refine r_iconst C dX5_isPlane_11 ⟨by decide, by decide⟩ ?_
    exact s_sub [0] rfl (B_12 _ _ v)
  · have v := v.2 c3
    refine r_iconst C dX5_isPlane_7 ⟨by decide, by decide⟩ ?_
    refine r_goto (tgt := 12) C dX5_isPlane_8 (by decide) ?_
    exact s_sub [0] rfl (B_12 _ _ v)

def V_X5_checkEdgeOrNone_10 (P : Int → Hp → Prop) (Px : String → Prop) (h0 : Hp) (mc : Nat) (t_X5_checkEdge : Int → Hp → Prop) (h : Hp) : Prop :=
  P 0 h
def V_X5_checkEdgeOrNone (P : Int → Hp → Prop) (Px : String → Prop) (h0 : Hp) (mc : Nat) (t_X5_checkEdge : Int → Hp → Prop) (a1 : Int) : Prop :=
  (a1 = (-1) → V_X5_checkEdgeOrNone_10 P Px h0 mc t_X5_checkEdge h0) ∧ (¬ a1 = (-1) → (t_X5_checkEdge a1 h0 → Px "java/lang/IndexOutOfBoundsException" ∧ h0 = h0 ∧ 1 ≤ mc) ∧ (¬ t_X5_checkEdge a1 h0 → (V_X5_checkEdgeOrNone_10 P Px h0 mc t_X5_checkEdge h0)))
set_option maxHeartbeats 4000000 in
set_option maxRecDepth 100000 in
theorem w_X5_checkEdgeOrNone {l : Launch} (P : Int → Hp → Prop) (Px : String → Prop) (h0 : Hp) (mc : Nat) (t_X5_checkEdge : Int → Hp → Prop) (a1 : Int)
    (c_X5_checkEdge : ∀ (b1 : Int) (h : Hp) (mc : Nat), (t_X5_checkEdge b1 h → 1 ≤ mc) → Ct l yX5_checkEdge cX5_checkEdge 2 none 6 81 mc [vr 0, vi b1] h [] (fun _ _ => ¬ t_X5_checkEdge b1 h ∧ True) (fun E => t_X5_checkEdge b1 h ∧ E = "java/lang/IndexOutOfBoundsException"))
    (o : RH h0 → InR a1 → V_X5_checkEdgeOrNone P Px h0 mc t_X5_checkEdge a1) :
    Ct l yX5_checkEdgeOrNone cX5_checkEdgeOrNone 2 none 7 102 mc [vr 0, vi a1] h0 [] P Px := by
  refine Ct.of (own := RX5) (by decide) rfl (Nat.le_of_ble_eq_true rfl) ?_
  intro X C hXl hXM hXh hXP hXX hXc hXr hav hR0
  have hmain : V_X5_checkEdgeOrNone P Px h0 mc t_X5_checkEdge a1 := o hR0 (hav (vi a1) (by simp))
  have B_10 : ∀ (h : Hp), V_X5_checkEdgeOrNone_10 P Px h0 mc t_X5_checkEdge h → Wh X 10 [(0, vr 0)] [] h 0 := by
    intro h v
    unfold V_X5_checkEdgeOrNone_10 at v
    exact r_return C dX5_checkEdgeOrNone_10 hXr (Nat.zero_le _) (by rw [hXP]; exact v)
  show Wh X 0 [(0, vr 0), (1, vi a1)] [] h0 0
  have v := hmain
  unfold V_X5_checkEdgeOrNone at v
  refine r_iload_n 1 C dX5_checkEdgeOrNone_0 rfl ?_
  refine r_iconst C dX5_checkEdgeOrNone_1 ⟨by decide, by decide⟩ ?_
  refine r_icmp_eq (tgt := 10) C dX5_checkEdgeOrNone_2 (by decide) (fun c1 => ?_) (fun c1 => ?_)
  · have v := v.1 c1
    exact s_sub [0] rfl (B_10 _ v)
  · have v := v.2 c1
    refine r_aload_n 0 C dX5_checkEdgeOrNone_5 rfl ?_
    refine r_iload_n 1 C dX5_checkEdgeOrNone_6 rfl ?_
    refine s_callx (tf := t_X5_checkEdge a1 h0) (E0 := "java/lang/IndexOutOfBoundsException") [a1] [] C dX5_checkEdgeOrNone_7 ck_X5_103 (r := 0) (fY := 6) (nY := 81) rfl rfl (by decide) (by decide) (Nat.le_of_ble_eq_true rfl) rfl (by rw [hXl]; exact c_X5_checkEdge a1 h0) (fun z => by rw [hXX, hXh, hXc]; exact v.1 z) (fun o2 _ => ?_)
    have v := v.2 o2
    exact s_sub [0] rfl (B_10 _ v)


def V_X2_addVertex (P : Int → Hp → Prop) (h0 : Hp) : Prop :=
  ∀ z1 : Int, z1 = (h0 1 6) → (((0 : Int) ≤ z1 ∧ (z1 : Int) < 30) ∧ (∀ h3 : Hp, h3 = hup h0 10 z1 (-1) → (((0 : Int) ≤ z1 ∧ (z1 : Int) < 30) ∧ (∀ h5 : Hp, h5 = hup h3 11 z1 0 → (InR ((h5 1 6) + 1) ∧ (∀ h7 : Hp, h7 = hup h5 1 6 ((h5 1 6) + 1) → (P z1 h7)))))))
set_option maxHeartbeats 4000000 in
set_option maxRecDepth 100000 in
theorem w_X2_addVertex {l : Launch} (P : Int → Hp → Prop) (h0 : Hp)
    (o : RH h0 → V_X2_addVertex P h0) :
    Ct l yX2_addVertex cX2_addVertex 2 (some .int) 0 0 0 [vr 1] h0 [1, 10, 11] P (fun _ => False) := by
  refine Ct.of (own := RX2) (by decide) rfl (Nat.le_of_ble_eq_true rfl) ?_
  intro X C hXl hXM hXh hXP hXX hXc hXr hav hR0
  have hmain : V_X2_addVertex P h0 := o hR0 
  show Wh X 0 [(0, vr 1)] [] h0 0
  have v := hmain
  unfold V_X2_addVertex at v
  refine r_aload_n 0 C dX2_addVertex_0 rfl ?_
  refine gf_X2_31 C dX2_addVertex_1 ?_
  refine s_istore_n C dX2_addVertex_4 (by decide) (fun z1 ez1 => ?_)
  have v := v z1 ez1
  show Wh X 5 [(1, vi z1), (0, vr 1)] [] h0 0
  refine r_aload_n 1 C dX2_addVertex_5 rfl ?_
  refine gf_X2_25 C dX2_addVertex_6 ?_
  refine r_iload_n 0 C dX2_addVertex_9 rfl ?_
  refine r_iconst C dX2_addVertex_10 ⟨by decide, by decide⟩ ?_
  obtain ⟨o2, v⟩ := v
  refine s_iastore (r := 10) (N := 30) C dX2_addVertex_11 rfl hXM (by decide) o2 (fun h3 eh3 => ?_)
  have v := v h3 eh3
  refine r_aload_n 1 C dX2_addVertex_12 rfl ?_
  refine gf_X2_28 C dX2_addVertex_13 ?_
  refine r_iload_n 0 C dX2_addVertex_16 rfl ?_
  refine r_iconst C dX2_addVertex_17 ⟨by decide, by decide⟩ ?_
  obtain ⟨o4, v⟩ := v
  refine s_iastore (r := 11) (N := 30) C dX2_addVertex_18 rfl hXM (by decide) o4 (fun h5 eh5 => ?_)
  have v := v h5 eh5
  refine r_aload_n 1 C dX2_addVertex_19 rfl ?_
  refine r_dup C dX2_addVertex_20 trivial ?_
  refine gf_X2_31 C dX2_addVertex_21 ?_
  refine r_iconst C dX2_addVertex_24 ⟨by decide, by decide⟩ ?_
  obtain ⟨o6, v⟩ := v
  refine r_iadd C dX2_addVertex_25 o6 ?_
  refine pf_X2_31 C dX2_addVertex_26 hXM (by decide) (fun h7 eh7 => ?_)
  have v := v h7 eh7
  refine r_iload_n 0 C dX2_addVertex_29 rfl ?_
  exact r_ireturn C dX2_addVertex_30 hXr (Nat.zero_le _) (by rw [hXP]; exact v)

def V_X2_addEdge (P : Int → Hp → Prop) (p_X2_putSide : Int → Int → Int → Hp → Prop) (q_X2_putSide : Int → Int → Int → Hp → Hp → Prop) (h0 : Hp) (a1 : Int) (a2 : Int) (a3 : Int) (a4 : Int) : Prop :=
  ∀ z1 : Int, z1 = (h0 1 7) → (((0 : Int) ≤ z1 ∧ (z1 : Int) < 100) ∧ (∀ h3 : Hp, h3 = hup h0 9 z1 1 → (InR ((h3 1 7) + 1) ∧ (∀ h5 : Hp, h5 = hup h3 1 7 ((h3 1 7) + 1) → (InR ((h5 1 8) + 1) ∧ (∀ h7 : Hp, h7 = hup h5 1 8 ((h5 1 8) + 1) → (InR (2 * z1) ∧ (p_X2_putSide (2 * z1) a1 a3 h7 ∧ (∀ h10 : Hp, Fr [6, 7, 8, 10, 11] h7 h10 → RH h10 → q_X2_putSide (2 * z1) a1 a3 h7 h10 → (InR (2 * z1) ∧ (InR ((2 * z1) + 1) ∧ (p_X2_putSide ((2 * z1) + 1) a2 a4 h10 ∧ (∀ h14 : Hp, Fr [6, 7, 8, 10, 11] h10 h14 → RH h14 → q_X2_putSide ((2 * z1) + 1) a2 a4 h10 h14 → (P z1 h14))))))))))))))
set_option maxHeartbeats 4000000 in
set_option maxRecDepth 100000 in
theorem w_X2_addEdge {l : Launch} (P : Int → Hp → Prop) (p_X2_putSide : Int → Int → Int → Hp → Prop) (q_X2_putSide : Int → Int → Int → Hp → Hp → Prop) (h0 : Hp) (a1 : Int) (a2 : Int) (a3 : Int) (a4 : Int)
    (c_X2_putSide : ∀ (b1 : Int) (b2 : Int) (b3 : Int) (h : Hp), p_X2_putSide b1 b2 b3 h → Ct l yX2_putSide cX2_putSide 6 none 1 22 0 [vr 1, vi b1, vi b2, vi b3] h [6, 7, 8, 10, 11] (fun _ h1 => q_X2_putSide b1 b2 b3 h h1) (fun _ => False))
    (o : RH h0 → InR a1 → InR a2 → InR a3 → InR a4 → V_X2_addEdge P p_X2_putSide q_X2_putSide h0 a1 a2 a3 a4) :
    Ct l yX2_addEdge cX2_addEdge 6 (some .int) 2 47 0 [vr 1, vi a1, vi a2, vi a3, vi a4] h0 [1, 6, 7, 8, 9, 10, 11] P (fun _ => False) := by
  refine Ct.of (own := RX2) (by decide) rfl (Nat.le_of_ble_eq_true rfl) ?_
  intro X C hXl hXM hXh hXP hXX hXc hXr hav hR0
  have hmain : V_X2_addEdge P p_X2_putSide q_X2_putSide h0 a1 a2 a3 a4 := o hR0 (hav (vi a1) (by simp)) (hav (vi a2) (by simp)) (hav (vi a3) (by simp)) (hav (vi a4) (by simp))
  show Wh X 0 [(0, vr 1), (1, vi a1), (2, vi a2), (3, vi a3), (4, vi a4)] [] h0 0
  have v := hmain
  unfold V_X2_addEdge at v
  refine r_aload_n 0 C dX2_addEdge_0 rfl ?_
  refine gf_X2_35 C dX2_addEdge_1 ?_
  refine s_istore C dX2_addEdge_4 (by decide) (fun z1 ez1 => ?_)
  have v := v z1 ez1
  show Wh X 6 [(5, vi z1), (0, vr 1), (1, vi a1), (2, vi a2), (3, vi a3), (4, vi a4)] [] h0 0
  refine r_aload_n 1 C dX2_addEdge_6 rfl ?_
  refine gf_X2_21 C dX2_addEdge_7 ?_
  refine r_iload 0 C dX2_addEdge_10 rfl ?_
  refine r_iconst C dX2_addEdge_12 ⟨by decide, by decide⟩ ?_
  obtain ⟨o2, v⟩ := v
  refine s_bastore (r := 9) (N := 100) C dX2_addEdge_13 rfl hXM (by decide) o2 (by decide) (fun h3 eh3 => ?_)
  have v := v h3 eh3
  refine r_aload_n 1 C dX2_addEdge_14 rfl ?_
  refine r_dup C dX2_addEdge_15 trivial ?_
  refine gf_X2_35 C dX2_addEdge_16 ?_
  refine r_iconst C dX2_addEdge_19 ⟨by decide, by decide⟩ ?_
  obtain ⟨o4, v⟩ := v
  refine r_iadd C dX2_addEdge_20 o4 ?_
  refine pf_X2_35 C dX2_addEdge_21 hXM (by decide) (fun h5 eh5 => ?_)
  have v := v h5 eh5
  refine r_aload_n 1 C dX2_addEdge_24 rfl ?_
  refine r_dup C dX2_addEdge_25 trivial ?_
  refine gf_X2_38 C dX2_addEdge_26 ?_
  refine r_iconst C dX2_addEdge_29 ⟨by decide, by decide⟩ ?_
  obtain ⟨o6, v⟩ := v
  refine r_iadd C dX2_addEdge_30 o6 ?_
  refine pf_X2_38 C dX2_addEdge_31 hXM (by decide) (fun h7 eh7 => ?_)
  have v := v h7 eh7
  refine r_aload_n 1 C dX2_addEdge_34 rfl ?_
  refine r_iconst C dX2_addEdge_35 ⟨by decide, by decide⟩ ?_
  refine r_iload 0 C dX2_addEdge_36 rfl ?_
  obtain ⟨o8, v⟩ := v
  refine r_imul C dX2_addEdge_38 o8 ?_
  refine r_iload_n 2 C dX2_addEdge_39 rfl ?_
  refine r_iload_n 4 C dX2_addEdge_40 rfl ?_
  obtain ⟨o9, v⟩ := v
  refine s_callv [(2 * z1), a1, a3] [] C dX2_addEdge_41 ck_X2_41 (r := 1) (fY := 1) (nY := 22) rfl rfl (by decide) (by decide) (Nat.le_of_ble_eq_true rfl) rfl (MY := [6, 7, 8, 10, 11]) hXM (by decide) (by rw [hXl]; exact c_X2_putSide (2 * z1) a1 a3 h7 o9) (fun h10 fh10 kh10 qh10 => ?_)
  have v := v h10 fh10 kh10 qh10
  refine r_aload_n 1 C dX2_addEdge_44 rfl ?_
  refine r_iconst C dX2_addEdge_45 ⟨by decide, by decide⟩ ?_
  refine r_iload 0 C dX2_addEdge_46 rfl ?_
  obtain ⟨o11, v⟩ := v
  refine r_imul C dX2_addEdge_48 o11 ?_
  refine r_iconst C dX2_addEdge_49 ⟨by decide, by decide⟩ ?_
  obtain ⟨o12, v⟩ := v
  refine r_iadd C dX2_addEdge_50 o12 ?_
  refine r_iload_n 3 C dX2_addEdge_51 rfl ?_
  refine r_iload 5 C dX2_addEdge_52 rfl ?_
  obtain ⟨o13, v⟩ := v
  refine s_callv [((2 * z1) + 1), a2, a4] [] C dX2_addEdge_54 ck_X2_41 (r := 1) (fY := 1) (nY := 22) rfl rfl (by decide) (by decide) (Nat.le_of_ble_eq_true rfl) rfl (MY := [6, 7, 8, 10, 11]) hXM (by decide) (by rw [hXl]; exact c_X2_putSide ((2 * z1) + 1) a2 a4 h10 o13) (fun h14 fh14 kh14 qh14 => ?_)
  have v := v h14 fh14 kh14 qh14
  refine r_iload 0 C dX2_addEdge_57 rfl ?_
  exact r_ireturn C dX2_addEdge_59 hXr (Nat.zero_le _) (by rw [hXP]; exact v)

def V_X2_putSide_90 (P : Int → Hp → Prop) (p_X2_link : Int → Int → Hp → Prop) (q_X2_link : Int → Int → Hp → Hp → Prop) (p_X2_sideFrom : Int → Int → Hp → Prop) (q_X2_sideFrom : Int → Int → Hp → Int → Prop) (h : Hp) (x2 : Int) : Prop :=
  ((0 : Int) ≤ x2 ∧ (x2 : Int) < 30) ∧ (InR ((h 11 x2) + 1) ∧ (((0 : Int) ≤ x2 ∧ (x2 : Int) < 30) ∧ (∀ h4 : Hp, h4 = hup h 11 x2 ((h 11 x2) + 1) → (P 0 h4))))
def V_X2_putSide_65 (P : Int → Hp → Prop) (p_X2_link : Int → Int → Hp → Prop) (q_X2_link : Int → Int → Hp → Hp → Prop) (p_X2_sideFrom : Int → Int → Hp → Prop) (q_X2_sideFrom : Int → Int → Hp → Int → Prop) (h : Hp) (x1 : Int) (x2 : Int) (y0 : Int) : Prop :=
  ∀ z5 : Int, z5 = y0 → (((0 : Int) ≤ z5 ∧ (z5 : Int) < 200) ∧ (∀ z7 : Int, z7 = (h 7 z5) → (p_X2_link z5 x1 h ∧ (∀ h9 : Hp, Fr [7, 8] h h9 → RH h9 → q_X2_link z5 x1 h h9 → (p_X2_link x1 z7 h9 ∧ (∀ h11 : Hp, Fr [7, 8] h9 h11 → RH h11 → q_X2_link x1 z7 h9 h11 → (V_X2_putSide_90 P p_X2_link q_X2_link p_X2_sideFrom q_X2_sideFrom h11 x2)))))))
def V_X2_putSide (P : Int → Hp → Prop) (p_X2_link : Int → Int → Hp → Prop) (q_X2_link : Int → Int → Hp → Hp → Prop) (p_X2_sideFrom : Int → Int → Hp → Prop) (q_X2_sideFrom : Int → Int → Hp → Int → Prop) (h0 : Hp) (a1 : Int) (a2 : Int) (a3 : Int) : Prop :=
  ((0 : Int) ≤ a1 ∧ (a1 : Int) < 200) ∧ (∀ h13 : Hp, h13 = hup h0 6 a1 a2 → (((0 : Int) ≤ a2 ∧ (a2 : Int) < 30) ∧ ((¬ (h13 11 a2) = 0 → (¬ a3 = (-1) → p_X2_sideFrom a2 a3 h13 ∧ (∀ r18 : Int, InR r18 → q_X2_sideFrom a2 a3 h13 r18 → (V_X2_putSide_65 P p_X2_link q_X2_link p_X2_sideFrom q_X2_sideFrom h13 a1 a2 r18))) ∧ (a3 = (-1) → ((0 : Int) ≤ a2 ∧ (a2 : Int) < 30) ∧ (((0 : Int) ≤ (h13 10 a2) ∧ ((h13 10 a2) : Int) < 200) ∧ (V_X2_putSide_65 P p_X2_link q_X2_link p_X2_sideFrom q_X2_sideFrom h13 a1 a2 (h13 8 (h13 10 a2)))))) ∧ ((h13 11 a2) = 0 → ((0 : Int) ≤ a2 ∧ (a2 : Int) < 30) ∧ (∀ h22 : Hp, h22 = hup h13 10 a2 a1 → (((0 : Int) ≤ a1 ∧ (a1 : Int) < 200) ∧ (∀ h24 : Hp, h24 = hup h22 7 a1 a1 → (((0 : Int) ≤ a1 ∧ (a1 : Int) < 200) ∧ (∀ h26 : Hp, h26 = hup h24 8 a1 a1 → (V_X2_putSide_90 P p_X2_link q_X2_link p_X2_sideFrom q_X2_sideFrom h26 a2))))))))))
set_option maxHeartbeats 4000000 in
set_option maxRecDepth 100000 in
theorem w_X2_putSide {l : Launch} (P : Int → Hp → Prop) (p_X2_link : Int → Int → Hp → Prop) (q_X2_link : Int → Int → Hp → Hp → Prop) (p_X2_sideFrom : Int → Int → Hp → Prop) (q_X2_sideFrom : Int → Int → Hp → Int → Prop) (h0 : Hp) (a1 : Int) (a2 : Int) (a3 : Int)
    (c_X2_link : ∀ (b1 : Int) (b2 : Int) (h : Hp), p_X2_link b1 b2 h → Ct l yX2_link cX2_link 3 none 0 0 0 [vr 1, vi b1, vi b2] h [7, 8] (fun _ h1 => q_X2_link b1 b2 h h1) (fun _ => False))
    (c_X2_sideFrom : ∀ (b1 : Int) (b2 : Int) (h : Hp), p_X2_sideFrom b1 b2 h → Ct l yX2_sideFrom cX2_sideFrom 3 (some .int) 0 0 0 [vr 1, vi b1, vi b2] h [] (fun r _ => q_X2_sideFrom b1 b2 h r) (fun _ => False))
    (o : RH h0 → InR a1 → InR a2 → InR a3 → V_X2_putSide P p_X2_link q_X2_link p_X2_sideFrom q_X2_sideFrom h0 a1 a2 a3) :
    Ct l yX2_putSide cX2_putSide 6 none 1 22 0 [vr 1, vi a1, vi a2, vi a3] h0 [6, 7, 8, 10, 11] P (fun _ => False) := by
  refine Ct.of (own := RX2) (by decide) rfl (Nat.le_of_ble_eq_true rfl) ?_
  intro X C hXl hXM hXh hXP hXX hXc hXr hav hR0
  have hmain : V_X2_putSide P p_X2_link q_X2_link p_X2_sideFrom q_X2_sideFrom h0 a1 a2 a3 := o hR0 (hav (vi a1) (by simp)) (hav (vi a2) (by simp)) (hav (vi a3) (by simp))
  have B_90 : ∀ (h : Hp) (x2 : Int), V_X2_putSide_90 P p_X2_link q_X2_link p_X2_sideFrom q_X2_sideFrom h x2 → Wh X 90 [(0, vr 1), (2, vi x2)] [] h 0 := by
    intro h x2 v
    unfold V_X2_putSide_90 at v
    refine r_aload_n 0 C dX2_putSide_90 rfl ?_
    refine gf_X2_28 C dX2_putSide_91 ?_
    refine r_iload_n 1 C dX2_putSide_94 rfl ?_
    refine r_dup2 C dX2_putSide_95 trivial trivial ?_
    obtain ⟨o1, v⟩ := v
    refine r_iaload (r := 11) (N := 30) C dX2_putSide_96 rfl o1 ?_
    refine r_iconst C dX2_putSide_97 ⟨by decide, by decide⟩ ?_
    obtain ⟨o2, v⟩ := v
    refine r_iadd C dX2_putSide_98 o2 ?_
    obtain ⟨o3, v⟩ := v
    refine s_iastore (r := 11) (N := 30) C dX2_putSide_99 rfl hXM (by decide) o3 (fun h4 eh4 => ?_)
    have v := v h4 eh4
    exact r_return C dX2_putSide_100 hXr (Nat.zero_le _) (by rw [hXP]; exact v)
  have B_65 : ∀ (h : Hp) (x1 : Int) (x2 : Int) (y0 : Int), V_X2_putSide_65 P p_X2_link q_X2_link p_X2_sideFrom q_X2_sideFrom h x1 x2 y0 → Wh X 65 [(0, vr 1), (1, vi x1), (2, vi x2)] [vi y0] h 0 := by
    intro h x1 x2 y0 v
    unfold V_X2_putSide_65 at v
    refine s_istore C dX2_putSide_65 (by decide) (fun z5 ez5 => ?_)
    have v := v z5 ez5
    show Wh X 67 [(4, vi z5), (0, vr 1), (1, vi x1), (2, vi x2)] [] h 0
    refine r_aload_n 1 C dX2_putSide_67 rfl ?_
    refine gf_X2_15 C dX2_putSide_68 ?_
    refine r_iload 0 C dX2_putSide_71 rfl ?_
    obtain ⟨o6, v⟩ := v
    refine r_iaload (r := 7) (N := 200) C dX2_putSide_73 rfl o6 ?_
    refine s_istore C dX2_putSide_74 (by decide) (fun z7 ez7 => ?_)
    have v := v z7 ez7
    show Wh X 76 [(5, vi z7), (4, vi z5), (0, vr 1), (1, vi x1), (2, vi x2)] [] h 0
    refine r_aload_n 2 C dX2_putSide_76 rfl ?_
    refine r_iload 1 C dX2_putSide_77 rfl ?_
    refine r_iload_n 3 C dX2_putSide_79 rfl ?_
    obtain ⟨o8, v⟩ := v
    refine s_callv [z5, x1] [] C dX2_putSide_80 ck_X2_49 (r := 1) (fY := 0) (nY := 0) rfl rfl (by decide) (by decide) (Nat.le_of_ble_eq_true rfl) rfl (MY := [7, 8]) hXM (by decide) (by rw [hXl]; exact c_X2_link z5 x1 h o8) (fun h9 fh9 kh9 qh9 => ?_)
    have v := v h9 fh9 kh9 qh9
    refine r_aload_n 2 C dX2_putSide_83 rfl ?_
    refine r_iload_n 3 C dX2_putSide_84 rfl ?_
    refine r_iload 0 C dX2_putSide_85 rfl ?_
    obtain ⟨o10, v⟩ := v
    refine s_callv [x1, z7] [] C dX2_putSide_87 ck_X2_49 (r := 1) (fY := 0) (nY := 0) rfl rfl (by decide) (by decide) (Nat.le_of_ble_eq_true rfl) rfl (MY := [7, 8]) hXM (by decide) (by rw [hXl]; exact c_X2_link x1 z7 h9 o10) (fun h11 fh11 kh11 qh11 => ?_)
    have v := v h11 fh11 kh11 qh11
    exact s_sub [2, 4] rfl (B_90 _ _ v)
  show Wh X 0 [(0, vr 1), (1, vi a1), (2, vi a2), (3, vi a3)] [] h0 0
  have v := hmain
  unfold V_X2_putSide at v
  refine r_aload_n 0 C dX2_putSide_0 rfl ?_
  refine gf_X2_9 C dX2_putSide_1 ?_
  refine r_iload_n 1 C dX2_putSide_4 rfl ?_
  refine r_iload_n 2 C dX2_putSide_5 rfl ?_
  obtain ⟨o12, v⟩ := v
  refine s_iastore (r := 6) (N := 200) C dX2_putSide_6 rfl hXM (by decide) o12 (fun h13 eh13 => ?_)
  have v := v h13 eh13
  refine r_aload_n 0 C dX2_putSide_7 rfl ?_
  refine gf_X2_28 C dX2_putSide_8 ?_
  refine r_iload_n 2 C dX2_putSide_11 rfl ?_
  obtain ⟨o14, v⟩ := v
  refine r_iaload (r := 11) (N := 30) C dX2_putSide_12 rfl o14 ?_
  refine r_if_ne (tgt := 40) C dX2_putSide_13 (by decide) (fun c15 => ?_) (fun c15 => ?_)
  · have v := v.1 c15
    refine r_iload_n 3 C dX2_putSide_40 rfl ?_
    refine r_iconst C dX2_putSide_41 ⟨by decide, by decide⟩ ?_
    refine r_icmp_ne (tgt := 59) C dX2_putSide_42 (by decide) (fun c16 => ?_) (fun c16 => ?_)
    · have v := v.1 c16
      refine r_aload_n 0 C dX2_putSide_59 rfl ?_
      refine r_iload_n 2 C dX2_putSide_60 rfl ?_
      refine r_iload_n 3 C dX2_putSide_61 rfl ?_
      obtain ⟨o17, v⟩ := v
      refine s_calli0 [a2, a3] [] C dX2_putSide_62 ck_X2_45 (r := 1) (fY := 0) (nY := 0) rfl rfl (by decide) (by decide) (Nat.le_of_ble_eq_true rfl) rfl (by rw [hXl]; exact c_X2_sideFrom a2 a3 h13 o17) (fun r18 gr18 qr18 => ?_)
      have v := v r18 gr18 qr18
      exact s_sub [0, 1, 2] rfl (B_65 _ _ _ _ v)
    · have v := v.2 c16
      refine r_aload_n 0 C dX2_putSide_45 rfl ?_
      refine gf_X2_18 C dX2_putSide_46 ?_
      refine r_aload_n 0 C dX2_putSide_49 rfl ?_
      refine gf_X2_25 C dX2_putSide_50 ?_
      refine r_iload_n 2 C dX2_putSide_53 rfl ?_
      obtain ⟨o19, v⟩ := v
      refine r_iaload (r := 10) (N := 30) C dX2_putSide_54 rfl o19 ?_
      obtain ⟨o20, v⟩ := v
      refine r_iaload (r := 8) (N := 200) C dX2_putSide_55 rfl o20 ?_
      refine r_goto (tgt := 65) C dX2_putSide_56 (by decide) ?_
      exact s_sub [0, 1, 2] rfl (B_65 _ _ _ _ v)
  · have v := v.2 c15
    refine r_aload_n 0 C dX2_putSide_16 rfl ?_
    refine gf_X2_25 C dX2_putSide_17 ?_
    refine r_iload_n 2 C dX2_putSide_20 rfl ?_
    refine r_iload_n 1 C dX2_putSide_21 rfl ?_
    obtain ⟨o21, v⟩ := v
    refine s_iastore (r := 10) (N := 30) C dX2_putSide_22 rfl hXM (by decide) o21 (fun h22 eh22 => ?_)
    have v := v h22 eh22
    refine r_aload_n 0 C dX2_putSide_23 rfl ?_
    refine gf_X2_15 C dX2_putSide_24 ?_
    refine r_iload_n 1 C dX2_putSide_27 rfl ?_
    refine r_iload_n 1 C dX2_putSide_28 rfl ?_
    obtain ⟨o23, v⟩ := v
    refine s_iastore (r := 7) (N := 200) C dX2_putSide_29 rfl hXM (by decide) o23 (fun h24 eh24 => ?_)
    have v := v h24 eh24
    refine r_aload_n 0 C dX2_putSide_30 rfl ?_
    refine gf_X2_18 C dX2_putSide_31 ?_
    refine r_iload_n 1 C dX2_putSide_34 rfl ?_
    refine r_iload_n 1 C dX2_putSide_35 rfl ?_
    obtain ⟨o25, v⟩ := v
    refine s_iastore (r := 8) (N := 200) C dX2_putSide_36 rfl hXM (by decide) o25 (fun h26 eh26 => ?_)
    have v := v h26 eh26
    refine r_goto (tgt := 90) C dX2_putSide_37 (by decide) ?_
    exact s_sub [0, 2] rfl (B_90 _ _ v)

def V_X2_dropEdge (P : Int → Hp → Prop) (p_X2_takeSide : Int → Hp → Prop) (q_X2_takeSide : Int → Hp → Hp → Prop) (h0 : Hp) (a1 : Int) : Prop :=
  InR (2 * a1) ∧ (p_X2_takeSide (2 * a1) h0 ∧ (∀ h3 : Hp, Fr [7, 8, 10, 11] h0 h3 → RH h3 → q_X2_takeSide (2 * a1) h0 h3 → (InR (2 * a1) ∧ (InR ((2 * a1) + 1) ∧ (p_X2_takeSide ((2 * a1) + 1) h3 ∧ (∀ h7 : Hp, Fr [7, 8, 10, 11] h3 h7 → RH h7 → q_X2_takeSide ((2 * a1) + 1) h3 h7 → (((0 : Int) ≤ a1 ∧ (a1 : Int) < 100) ∧ (∀ h9 : Hp, h9 = hup h7 9 a1 0 → (InR ((h9 1 8) - 1) ∧ (∀ h11 : Hp, h11 = hup h9 1 8 ((h9 1 8) - 1) → (P 0 h11)))))))))))
set_option maxHeartbeats 4000000 in
set_option maxRecDepth 100000 in
theorem w_X2_dropEdge {l : Launch} (P : Int → Hp → Prop) (p_X2_takeSide : Int → Hp → Prop) (q_X2_takeSide : Int → Hp → Hp → Prop) (h0 : Hp) (a1 : Int)
    (c_X2_takeSide : ∀ (b1 : Int) (h : Hp), p_X2_takeSide b1 h → Ct l yX2_takeSide cX2_takeSide 3 none 1 22 0 [vr 1, vi b1] h [7, 8, 10, 11] (fun _ h1 => q_X2_takeSide b1 h h1) (fun _ => False))
    (o : RH h0 → InR a1 → V_X2_dropEdge P p_X2_takeSide q_X2_takeSide h0 a1) :
    Ct l yX2_dropEdge cX2_dropEdge 2 none 2 44 0 [vr 1, vi a1] h0 [1, 7, 8, 9, 10, 11] P (fun _ => False) := by
  refine Ct.of (own := RX2) (by decide) rfl (Nat.le_of_ble_eq_true rfl) ?_
  intro X C hXl hXM hXh hXP hXX hXc hXr hav hR0
  have hmain : V_X2_dropEdge P p_X2_takeSide q_X2_takeSide h0 a1 := o hR0 (hav (vi a1) (by simp))
  show Wh X 0 [(0, vr 1), (1, vi a1)] [] h0 0
  have v := hmain
  unfold V_X2_dropEdge at v
  refine r_aload_n 0 C dX2_dropEdge_0 rfl ?_
  refine r_iconst C dX2_dropEdge_1 ⟨by decide, by decide⟩ ?_
  refine r_iload_n 1 C dX2_dropEdge_2 rfl ?_
  obtain ⟨o1, v⟩ := v
  refine r_imul C dX2_dropEdge_3 o1 ?_
  obtain ⟨o2, v⟩ := v
  refine s_callv [(2 * a1)] [] C dX2_dropEdge_4 ck_X2_53 (r := 1) (fY := 1) (nY := 22) rfl rfl (by decide) (by decide) (Nat.le_of_ble_eq_true rfl) rfl (MY := [7, 8, 10, 11]) hXM (by decide) (by rw [hXl]; exact c_X2_takeSide (2 * a1) h0 o2) (fun h3 fh3 kh3 qh3 => ?_)
  have v := v h3 fh3 kh3 qh3
  refine r_aload_n 0 C dX2_dropEdge_7 rfl ?_
  refine r_iconst C dX2_dropEdge_8 ⟨by decide, by decide⟩ ?_
  refine r_iload_n 1 C dX2_dropEdge_9 rfl ?_
  obtain ⟨o4, v⟩ := v
  refine r_imul C dX2_dropEdge_10 o4 ?_
  refine r_iconst C dX2_dropEdge_11 ⟨by decide, by decide⟩ ?_
  obtain ⟨o5, v⟩ := v
  refine r_iadd C dX2_dropEdge_12 o5 ?_
  obtain ⟨o6, v⟩ := v
  refine s_callv [((2 * a1) + 1)] [] C dX2_dropEdge_13 ck_X2_53 (r := 1) (fY := 1) (nY := 22) rfl rfl (by decide) (by decide) (Nat.le_of_ble_eq_true rfl) rfl (MY := [7, 8, 10, 11]) hXM (by decide) (by rw [hXl]; exact c_X2_takeSide ((2 * a1) + 1) h3 o6) (fun h7 fh7 kh7 qh7 => ?_)
  have v := v h7 fh7 kh7 qh7
  refine r_aload_n 0 C dX2_dropEdge_16 rfl ?_
  refine gf_X2_21 C dX2_dropEdge_17 ?_
  refine r_iload_n 1 C dX2_dropEdge_20 rfl ?_
  refine r_iconst C dX2_dropEdge_21 ⟨by decide, by decide⟩ ?_
  obtain ⟨o8, v⟩ := v
  refine s_bastore (r := 9) (N := 100) C dX2_dropEdge_22 rfl hXM (by decide) o8 (by decide) (fun h9 eh9 => ?_)
  have v := v h9 eh9
  refine r_aload_n 0 C dX2_dropEdge_23 rfl ?_
  refine r_dup C dX2_dropEdge_24 trivial ?_
  refine gf_X2_38 C dX2_dropEdge_25 ?_
  refine r_iconst C dX2_dropEdge_28 ⟨by decide, by decide⟩ ?_
  obtain ⟨o10, v⟩ := v
  refine r_isub C dX2_dropEdge_29 o10 ?_
  refine pf_X2_38 C dX2_dropEdge_30 hXM (by decide) (fun h11 eh11 => ?_)
  have v := v h11 eh11
  exact r_return C dX2_dropEdge_33 hXr (Nat.zero_le _) (by rw [hXP]; exact v)

def V_X2_takeSide_56 (P : Int → Hp → Prop) (p_X2_link : Int → Int → Hp → Prop) (q_X2_link : Int → Int → Hp → Hp → Prop) (h : Hp) (x1 : Int) : Prop :=
  ((0 : Int) ≤ x1 ∧ (x1 : Int) < 200) ∧ (((0 : Int) ≤ x1 ∧ (x1 : Int) < 200) ∧ (p_X2_link (h 8 x1) (h 7 x1) h ∧ (∀ h4 : Hp, Fr [7, 8] h h4 → RH h4 → q_X2_link (h 8 x1) (h 7 x1) h h4 → (P 0 h4))))
def V_X2_takeSide (P : Int → Hp → Prop) (p_X2_link : Int → Int → Hp → Prop) (q_X2_link : Int → Int → Hp → Hp → Prop) (h0 : Hp) (a1 : Int) : Prop :=
  ((0 : Int) ≤ a1 ∧ (a1 : Int) < 200) ∧ (∀ z6 : Int, z6 = (h0 6 a1) → (((0 : Int) ≤ z6 ∧ (z6 : Int) < 30) ∧ (InR ((h0 11 z6) - 1) ∧ (((0 : Int) ≤ z6 ∧ (z6 : Int) < 30) ∧ (∀ h10 : Hp, h10 = hup h0 11 z6 ((h0 11 z6) - 1) → (((0 : Int) ≤ z6 ∧ (z6 : Int) < 30) ∧ ((¬ (h10 11 z6) = 0 → ((0 : Int) ≤ z6 ∧ (z6 : Int) < 30) ∧ ((¬ (h10 10 z6) = a1 → V_X2_takeSide_56 P p_X2_link q_X2_link h10 a1) ∧ ((h10 10 z6) = a1 → ((0 : Int) ≤ a1 ∧ (a1 : Int) < 200) ∧ (((0 : Int) ≤ z6 ∧ (z6 : Int) < 30) ∧ (∀ h17 : Hp, h17 = hup h10 10 z6 (h10 7 a1) → (V_X2_takeSide_56 P p_X2_link q_X2_link h17 a1)))))) ∧ ((h10 11 z6) = 0 → ((0 : Int) ≤ z6 ∧ (z6 : Int) < 30) ∧ (∀ h19 : Hp, h19 = hup h10 10 z6 (-1) → (P 0 h19))))))))))
set_option maxHeartbeats 4000000 in
set_option maxRecDepth 100000 in
theorem w_X2_takeSide {l : Launch} (P : Int → Hp → Prop) (p_X2_link : Int → Int → Hp → Prop) (q_X2_link : Int → Int → Hp → Hp → Prop) (h0 : Hp) (a1 : Int)
    (c_X2_link : ∀ (b1 : Int) (b2 : Int) (h : Hp), p_X2_link b1 b2 h → Ct l yX2_link cX2_link 3 none 0 0 0 [vr 1, vi b1, vi b2] h [7, 8] (fun _ h1 => q_X2_link b1 b2 h h1) (fun _ => False))
    (o : RH h0 → InR a1 → V_X2_takeSide P p_X2_link q_X2_link h0 a1) :
    Ct l yX2_takeSide cX2_takeSide 3 none 1 22 0 [vr 1, vi a1] h0 [7, 8, 10, 11] P (fun _ => False) := by
  refine Ct.of (own := RX2) (by decide) rfl (Nat.le_of_ble_eq_true rfl) ?_
  intro X C hXl hXM hXh hXP hXX hXc hXr hav hR0
  have hmain : V_X2_takeSide P p_X2_link q_X2_link h0 a1 := o hR0 (hav (vi a1) (by simp))
  have B_56 : ∀ (h : Hp) (x1 : Int), V_X2_takeSide_56 P p_X2_link q_X2_link h x1 → Wh X 56 [(0, vr 1), (1, vi x1)] [] h 0 := by
    intro h x1 v
    unfold V_X2_takeSide_56 at v
    refine r_aload_n 0 C dX2_takeSide_56 rfl ?_
    refine r_aload_n 0 C dX2_takeSide_57 rfl ?_
    refine gf_X2_18 C dX2_takeSide_58 ?_
    refine r_iload_n 1 C dX2_takeSide_61 rfl ?_
    obtain ⟨o1, v⟩ := v
    refine r_iaload (r := 8) (N := 200) C dX2_takeSide_62 rfl o1 ?_
    refine r_aload_n 0 C dX2_takeSide_63 rfl ?_
    refine gf_X2_15 C dX2_takeSide_64 ?_
    refine r_iload_n 1 C dX2_takeSide_67 rfl ?_
    obtain ⟨o2, v⟩ := v
    refine r_iaload (r := 7) (N := 200) C dX2_takeSide_68 rfl o2 ?_
    obtain ⟨o3, v⟩ := v
    refine s_callv [(h 8 x1), (h 7 x1)] [] C dX2_takeSide_69 ck_X2_49 (r := 1) (fY := 0) (nY := 0) rfl rfl (by decide) (by decide) (Nat.le_of_ble_eq_true rfl) rfl (MY := [7, 8]) hXM (by decide) (by rw [hXl]; exact c_X2_link (h 8 x1) (h 7 x1) h o3) (fun h4 fh4 kh4 qh4 => ?_)
    have v := v h4 fh4 kh4 qh4
    exact r_return C dX2_takeSide_72 hXr (Nat.zero_le _) (by rw [hXP]; exact v)
  show Wh X 0 [(0, vr 1), (1, vi a1)] [] h0 0
  have v := hmain
  unfold V_X2_takeSide at v
  refine r_aload_n 0 C dX2_takeSide_0 rfl ?_
  refine gf_X2_9 C dX2_takeSide_1 ?_
  refine r_iload_n 1 C dX2_takeSide_4 rfl ?_
  obtain ⟨o5, v⟩ := v
  refine r_iaload (r := 6) (N := 200) C dX2_takeSide_5 rfl o5 ?_
  refine s_istore_n C dX2_takeSide_6 (by decide) (fun z6 ez6 => ?_)
  have v := v z6 ez6
  show Wh X 7 [(2, vi z6), (0, vr 1), (1, vi a1)] [] h0 0
  refine r_aload_n 1 C dX2_takeSide_7 rfl ?_
  refine gf_X2_28 C dX2_takeSide_8 ?_
  refine r_iload_n 0 C dX2_takeSide_11 rfl ?_
  refine r_dup2 C dX2_takeSide_12 trivial trivial ?_
  obtain ⟨o7, v⟩ := v
  refine r_iaload (r := 11) (N := 30) C dX2_takeSide_13 rfl o7 ?_
  refine r_iconst C dX2_takeSide_14 ⟨by decide, by decide⟩ ?_
  obtain ⟨o8, v⟩ := v
  refine r_isub C dX2_takeSide_15 o8 ?_
  obtain ⟨o9, v⟩ := v
  refine s_iastore (r := 11) (N := 30) C dX2_takeSide_16 rfl hXM (by decide) o9 (fun h10 eh10 => ?_)
  have v := v h10 eh10
  refine r_aload_n 1 C dX2_takeSide_17 rfl ?_
  refine gf_X2_28 C dX2_takeSide_18 ?_
  refine r_iload_n 0 C dX2_takeSide_21 rfl ?_
  obtain ⟨o11, v⟩ := v
  refine r_iaload (r := 11) (N := 30) C dX2_takeSide_22 rfl o11 ?_
  refine r_if_ne (tgt := 34) C dX2_takeSide_23 (by decide) (fun c12 => ?_) (fun c12 => ?_)
  · have v := v.1 c12
    refine r_aload_n 1 C dX2_takeSide_34 rfl ?_
    refine gf_X2_25 C dX2_takeSide_35 ?_
    refine r_iload_n 0 C dX2_takeSide_38 rfl ?_
    obtain ⟨o13, v⟩ := v
    refine r_iaload (r := 10) (N := 30) C dX2_takeSide_39 rfl o13 ?_
    refine r_iload_n 2 C dX2_takeSide_40 rfl ?_
    refine r_icmp_ne (tgt := 56) C dX2_takeSide_41 (by decide) (fun c14 => ?_) (fun c14 => ?_)
    · have v := v.1 c14
      exact s_sub [1, 2] rfl (B_56 _ _ v)
    · have v := v.2 c14
      refine r_aload_n 1 C dX2_takeSide_44 rfl ?_
      refine gf_X2_25 C dX2_takeSide_45 ?_
      refine r_iload_n 0 C dX2_takeSide_48 rfl ?_
      refine r_aload_n 1 C dX2_takeSide_49 rfl ?_
      refine gf_X2_15 C dX2_takeSide_50 ?_
      refine r_iload_n 2 C dX2_takeSide_53 rfl ?_
      obtain ⟨o15, v⟩ := v
      refine r_iaload (r := 7) (N := 200) C dX2_takeSide_54 rfl o15 ?_
      obtain ⟨o16, v⟩ := v
      refine s_iastore (r := 10) (N := 30) C dX2_takeSide_55 rfl hXM (by decide) o16 (fun h17 eh17 => ?_)
      have v := v h17 eh17
      exact s_sub [1, 2] rfl (B_56 _ _ v)
  · have v := v.2 c12
    refine r_aload_n 1 C dX2_takeSide_26 rfl ?_
    refine gf_X2_25 C dX2_takeSide_27 ?_
    refine r_iload_n 0 C dX2_takeSide_30 rfl ?_
    refine r_iconst C dX2_takeSide_31 ⟨by decide, by decide⟩ ?_
    obtain ⟨o18, v⟩ := v
    refine s_iastore (r := 10) (N := 30) C dX2_takeSide_32 rfl hXM (by decide) o18 (fun h19 eh19 => ?_)
    have v := v h19 eh19
    exact r_return C dX2_takeSide_33 hXr (Nat.zero_le _) (by rw [hXP]; exact v)

def V_X2_link (P : Int → Hp → Prop) (h0 : Hp) (a1 : Int) (a2 : Int) : Prop :=
  ((0 : Int) ≤ a1 ∧ (a1 : Int) < 200) ∧ (∀ h2 : Hp, h2 = hup h0 7 a1 a2 → (((0 : Int) ≤ a2 ∧ (a2 : Int) < 200) ∧ (∀ h4 : Hp, h4 = hup h2 8 a2 a1 → (P 0 h4))))
set_option maxHeartbeats 4000000 in
set_option maxRecDepth 100000 in
theorem w_X2_link {l : Launch} (P : Int → Hp → Prop) (h0 : Hp) (a1 : Int) (a2 : Int)
    (o : RH h0 → InR a1 → InR a2 → V_X2_link P h0 a1 a2) :
    Ct l yX2_link cX2_link 3 none 0 0 0 [vr 1, vi a1, vi a2] h0 [7, 8] P (fun _ => False) := by
  refine Ct.of (own := RX2) (by decide) rfl (Nat.le_of_ble_eq_true rfl) ?_
  intro X C hXl hXM hXh hXP hXX hXc hXr hav hR0
  have hmain : V_X2_link P h0 a1 a2 := o hR0 (hav (vi a1) (by simp)) (hav (vi a2) (by simp))
  show Wh X 0 [(0, vr 1), (1, vi a1), (2, vi a2)] [] h0 0
  have v := hmain
  unfold V_X2_link at v
  refine r_aload_n 0 C dX2_link_0 rfl ?_
  refine gf_X2_15 C dX2_link_1 ?_
  refine r_iload_n 1 C dX2_link_4 rfl ?_
  refine r_iload_n 2 C dX2_link_5 rfl ?_
  obtain ⟨o1, v⟩ := v
  refine s_iastore (r := 7) (N := 200) C dX2_link_6 rfl hXM (by decide) o1 (fun h2 eh2 => ?_)
  have v := v h2 eh2
  refine r_aload_n 0 C dX2_link_7 rfl ?_
  refine gf_X2_18 C dX2_link_8 ?_
  refine r_iload_n 2 C dX2_link_11 rfl ?_
  refine r_iload_n 1 C dX2_link_12 rfl ?_
  obtain ⟨o3, v⟩ := v
  refine s_iastore (r := 8) (N := 200) C dX2_link_13 rfl hXM (by decide) o3 (fun h4 eh4 => ?_)
  have v := v h4 eh4
  exact r_return C dX2_link_14 hXr (Nat.zero_le _) (by rw [hXP]; exact v)

def V_X2_dropAll (P : Int → Hp → Prop) (h0 : Hp) : Prop :=
  ∀ h1 : Hp, h1 = hup h0 1 6 0 → (∀ h2 : Hp, h2 = hup h1 1 7 0 → (∀ h3 : Hp, h3 = hup h2 1 8 0 → (P 0 h3)))
set_option maxHeartbeats 4000000 in
set_option maxRecDepth 100000 in
theorem w_X2_dropAll {l : Launch} (P : Int → Hp → Prop) (h0 : Hp)
    (o : RH h0 → V_X2_dropAll P h0) :
    Ct l yX2_dropAll cX2_dropAll 1 none 0 0 0 [vr 1] h0 [1] P (fun _ => False) := by
  refine Ct.of (own := RX2) (by decide) rfl (Nat.le_of_ble_eq_true rfl) ?_
  intro X C hXl hXM hXh hXP hXX hXc hXr hav hR0
  have hmain : V_X2_dropAll P h0 := o hR0 
  show Wh X 0 [(0, vr 1)] [] h0 0
  have v := hmain
  unfold V_X2_dropAll at v
  refine r_aload_n 0 C dX2_dropAll_0 rfl ?_
  refine r_iconst C dX2_dropAll_1 ⟨by decide, by decide⟩ ?_
  refine pf_X2_31 C dX2_dropAll_2 hXM (by decide) (fun h1 eh1 => ?_)
  have v := v h1 eh1
  refine r_aload_n 0 C dX2_dropAll_5 rfl ?_
  refine r_iconst C dX2_dropAll_6 ⟨by decide, by decide⟩ ?_
  refine pf_X2_35 C dX2_dropAll_7 hXM (by decide) (fun h2 eh2 => ?_)
  have v := v h2 eh2
  refine r_aload_n 0 C dX2_dropAll_10 rfl ?_
  refine r_iconst C dX2_dropAll_11 ⟨by decide, by decide⟩ ?_
  refine pf_X2_38 C dX2_dropAll_12 hXM (by decide) (fun h3 eh3 => ?_)
  have v := v h3 eh3
  exact r_return C dX2_dropAll_15 hXr (Nat.zero_le _) (by rw [hXP]; exact v)

def V_X2_target (P : Int → Hp → Prop) (h0 : Hp) (a1 : Int) : Prop :=
  ((0 : Int) ≤ (jxor a1 1) ∧ ((jxor a1 1) : Int) < 200) ∧ (P (h0 6 (jxor a1 1)) h0)
set_option maxHeartbeats 4000000 in
set_option maxRecDepth 100000 in
theorem w_X2_target {l : Launch} (P : Int → Hp → Prop) (h0 : Hp) (a1 : Int)
    (o : RH h0 → InR a1 → V_X2_target P h0 a1) :
    Ct l yX2_target cX2_target 2 (some .int) 0 0 0 [vr 1, vi a1] h0 [] P (fun _ => False) := by
  refine Ct.of (own := RX2) (by decide) rfl (Nat.le_of_ble_eq_true rfl) ?_
  intro X C hXl hXM hXh hXP hXX hXc hXr hav hR0
  have hmain : V_X2_target P h0 a1 := o hR0 (hav (vi a1) (by simp))
  show Wh X 0 [(0, vr 1), (1, vi a1)] [] h0 0
  have v := hmain
  unfold V_X2_target at v
  refine r_aload_n 0 C dX2_target_0 rfl ?_
  refine gf_X2_9 C dX2_target_1 ?_
  refine r_iload_n 1 C dX2_target_4 rfl ?_
  refine r_iconst C dX2_target_5 ⟨by decide, by decide⟩ ?_
  refine r_ixor C dX2_target_6 ?_
  obtain ⟨o1, v⟩ := v
  refine r_iaload (r := 6) (N := 200) C dX2_target_7 rfl o1 ?_
  exact r_ireturn C dX2_target_8 hXr (Nat.zero_le _) (by rw [hXP]; exact v)

def V_X2_sideBehind (P : Int → Hp → Prop) (h0 : Hp) (a1 : Int) : Prop :=
  ((0 : Int) ≤ (jxor a1 1) ∧ ((jxor a1 1) : Int) < 200) ∧ (P (h0 7 (jxor a1 1)) h0)
set_option maxHeartbeats 4000000 in
set_option maxRecDepth 100000 in
theorem w_X2_sideBehind {l : Launch} (P : Int → Hp → Prop) (h0 : Hp) (a1 : Int)
    (o : RH h0 → InR a1 → V_X2_sideBehind P h0 a1) :
    Ct l yX2_sideBehind cX2_sideBehind 2 (some .int) 0 0 0 [vr 1, vi a1] h0 [] P (fun _ => False) := by
  refine Ct.of (own := RX2) (by decide) rfl (Nat.le_of_ble_eq_true rfl) ?_
  intro X C hXl hXM hXh hXP hXX hXc hXr hav hR0
  have hmain : V_X2_sideBehind P h0 a1 := o hR0 (hav (vi a1) (by simp))
  show Wh X 0 [(0, vr 1), (1, vi a1)] [] h0 0
  have v := hmain
  unfold V_X2_sideBehind at v
  refine r_aload_n 0 C dX2_sideBehind_0 rfl ?_
  refine gf_X2_15 C dX2_sideBehind_1 ?_
  refine r_iload_n 1 C dX2_sideBehind_4 rfl ?_
  refine r_iconst C dX2_sideBehind_5 ⟨by decide, by decide⟩ ?_
  refine r_ixor C dX2_sideBehind_6 ?_
  obtain ⟨o1, v⟩ := v
  refine r_iaload (r := 7) (N := 200) C dX2_sideBehind_7 rfl o1 ?_
  exact r_ireturn C dX2_sideBehind_8 hXr (Nat.zero_le _) (by rw [hXP]; exact v)

def V_X2_sideFrom_23 (P : Int → Hp → Prop) (h : Hp) (y0 : Int) : Prop :=
  P y0 h
def V_X2_sideFrom (P : Int → Hp → Prop) (h0 : Hp) (a1 : Int) (a2 : Int) : Prop :=
  InR (2 * a2) ∧ (((0 : Int) ≤ (2 * a2) ∧ ((2 * a2) : Int) < 200) ∧ ((¬ (h0 6 (2 * a2)) = a1 → InR (2 * a2) ∧ (InR ((2 * a2) + 1) ∧ (V_X2_sideFrom_23 P h0 ((2 * a2) + 1)))) ∧ ((h0 6 (2 * a2)) = a1 → InR (2 * a2) ∧ (V_X2_sideFrom_23 P h0 (2 * a2)))))
set_option maxHeartbeats 4000000 in
set_option maxRecDepth 100000 in
theorem w_X2_sideFrom {l : Launch} (P : Int → Hp → Prop) (h0 : Hp) (a1 : Int) (a2 : Int)
    (o : RH h0 → InR a1 → InR a2 → V_X2_sideFrom P h0 a1 a2) :
    Ct l yX2_sideFrom cX2_sideFrom 3 (some .int) 0 0 0 [vr 1, vi a1, vi a2] h0 [] P (fun _ => False) := by
  refine Ct.of (own := RX2) (by decide) rfl (Nat.le_of_ble_eq_true rfl) ?_
  intro X C hXl hXM hXh hXP hXX hXc hXr hav hR0
  have hmain : V_X2_sideFrom P h0 a1 a2 := o hR0 (hav (vi a1) (by simp)) (hav (vi a2) (by simp))
  have B_23 : ∀ (h : Hp) (y0 : Int), V_X2_sideFrom_23 P h y0 → Wh X 23 [(0, vr 1)] [vi y0] h 0 := by
    intro h y0 v
    unfold V_X2_sideFrom_23 at v
    exact r_ireturn C dX2_sideFrom_23 hXr (Nat.zero_le _) (by rw [hXP]; exact v)
  show Wh X 0 [(0, vr 1), (1, vi a1), (2, vi a2)] [] h0 0
  have v := hmain
  unfold V_X2_sideFrom at v
  refine r_aload_n 0 C dX2_sideFrom_0 rfl ?_
  refine gf_X2_9 C dX2_sideFrom_1 ?_
  refine r_iconst C dX2_sideFrom_4 ⟨by decide, by decide⟩ ?_
  refine r_iload_n 2 C dX2_sideFrom_5 rfl ?_
  obtain ⟨o1, v⟩ := v
  refine r_imul C dX2_sideFrom_6 o1 ?_
  obtain ⟨o2, v⟩ := v
  refine r_iaload (r := 6) (N := 200) C dX2_sideFrom_7 rfl o2 ?_
  refine r_iload_n 1 C dX2_sideFrom_8 rfl ?_
  refine r_icmp_ne (tgt := 18) C dX2_sideFrom_9 (by decide) (fun c3 => ?_) (fun c3 => ?_)
  · have v := v.1 c3
    refine r_iconst C dX2_sideFrom_18 ⟨by decide, by decide⟩ ?_
    refine r_iload_n 2 C dX2_sideFrom_19 rfl ?_
    obtain ⟨o4, v⟩ := v
    refine r_imul C dX2_sideFrom_20 o4 ?_
    refine r_iconst C dX2_sideFrom_21 ⟨by decide, by decide⟩ ?_
    obtain ⟨o5, v⟩ := v
    refine r_iadd C dX2_sideFrom_22 o5 ?_
    exact s_sub [0] rfl (B_23 _ _ v)
  · have v := v.2 c3
    refine r_iconst C dX2_sideFrom_12 ⟨by decide, by decide⟩ ?_
    refine r_iload_n 2 C dX2_sideFrom_13 rfl ?_
    obtain ⟨o6, v⟩ := v
    refine r_imul C dX2_sideFrom_14 o6 ?_
    refine r_goto (tgt := 23) C dX2_sideFrom_15 (by decide) ?_
    exact s_sub [0] rfl (B_23 _ _ v)

def V_X2_mayFollow_36 (P : Int → Hp → Prop) (h : Hp) (y0 : Int) : Prop :=
  (y0 = 0 ∨ y0 = 1) ∧ P y0 h
def V_X2_mayFollow_31 (P : Int → Hp → Prop) (h : Hp) : Prop :=
  V_X2_mayFollow_36 P h 1
def V_X2_mayFollow (P : Int → Hp → Prop) (h0 : Hp) (a1 : Int) (a2 : Int) : Prop :=
  (a2 = (-1) → V_X2_mayFollow_31 P h0) ∧ (¬ a2 = (-1) → InR (2 * a2) ∧ (((0 : Int) ≤ (2 * a2) ∧ ((2 * a2) : Int) < 200) ∧ (((h0 6 (2 * a2)) = a1 → V_X2_mayFollow_31 P h0) ∧ (¬ (h0 6 (2 * a2)) = a1 → InR (2 * a2) ∧ (InR ((2 * a2) + 1) ∧ (((0 : Int) ≤ ((2 * a2) + 1) ∧ (((2 * a2) + 1) : Int) < 200) ∧ ((¬ (h0 6 ((2 * a2) + 1)) = a1 → V_X2_mayFollow_36 P h0 0) ∧ ((h0 6 ((2 * a2) + 1)) = a1 → V_X2_mayFollow_31 P h0))))))))
set_option maxHeartbeats 4000000 in
set_option maxRecDepth 100000 in
theorem w_X2_mayFollow {l : Launch} (P : Int → Hp → Prop) (h0 : Hp) (a1 : Int) (a2 : Int)
    (o : RH h0 → InR a1 → InR a2 → V_X2_mayFollow P h0 a1 a2) :
    Ct l yX2_mayFollow cX2_mayFollow 3 (some .boolean) 0 0 0 [vr 1, vi a1, vi a2] h0 [] P (fun _ => False) := by
  refine Ct.of (own := RX2) (by decide) rfl (Nat.le_of_ble_eq_true rfl) ?_
  intro X C hXl hXM hXh hXP hXX hXc hXr hav hR0
  have hmain : V_X2_mayFollow P h0 a1 a2 := o hR0 (hav (vi a1) (by simp)) (hav (vi a2) (by simp))
  have B_36 : ∀ (h : Hp) (y0 : Int), V_X2_mayFollow_36 P h y0 → Wh X 36 [(0, vr 1)] [vi y0] h 0 := by
    intro h y0 v
    unfold V_X2_mayFollow_36 at v
    exact r_zreturn C dX2_mayFollow_36 hXr (Nat.zero_le _) v.1 (by rw [hXP]; exact v.2)
  have B_31 : ∀ (h : Hp), V_X2_mayFollow_31 P h → Wh X 31 [(0, vr 1)] [] h 0 := by
    intro h v
    unfold V_X2_mayFollow_31 at v
    refine r_iconst C dX2_mayFollow_31 ⟨by decide, by decide⟩ ?_
    refine r_goto (tgt := 36) C dX2_mayFollow_32 (by decide) ?_
    exact s_sub [0] rfl (B_36 _ _ v)
  show Wh X 0 [(0, vr 1), (1, vi a1), (2, vi a2)] [] h0 0
  have v := hmain
  unfold V_X2_mayFollow at v
  refine r_iload_n 2 C dX2_mayFollow_0 rfl ?_
  refine r_iconst C dX2_mayFollow_1 ⟨by decide, by decide⟩ ?_
  refine r_icmp_eq (tgt := 31) C dX2_mayFollow_2 (by decide) (fun c1 => ?_) (fun c1 => ?_)
  · have v := v.1 c1
    exact s_sub [0] rfl (B_31 _ v)
  · have v := v.2 c1
    refine r_aload_n 0 C dX2_mayFollow_5 rfl ?_
    refine gf_X2_9 C dX2_mayFollow_6 ?_
    refine r_iconst C dX2_mayFollow_9 ⟨by decide, by decide⟩ ?_
    refine r_iload_n 2 C dX2_mayFollow_10 rfl ?_
    obtain ⟨o2, v⟩ := v
    refine r_imul C dX2_mayFollow_11 o2 ?_
    obtain ⟨o3, v⟩ := v
    refine r_iaload (r := 6) (N := 200) C dX2_mayFollow_12 rfl o3 ?_
    refine r_iload_n 1 C dX2_mayFollow_13 rfl ?_
    refine r_icmp_eq (tgt := 31) C dX2_mayFollow_14 (by decide) (fun c4 => ?_) (fun c4 => ?_)
    · have v := v.1 c4
      exact s_sub [0] rfl (B_31 _ v)
    · have v := v.2 c4
      refine r_aload_n 0 C dX2_mayFollow_17 rfl ?_
      refine gf_X2_9 C dX2_mayFollow_18 ?_
      refine r_iconst C dX2_mayFollow_21 ⟨by decide, by decide⟩ ?_
      refine r_iload_n 2 C dX2_mayFollow_22 rfl ?_
      obtain ⟨o5, v⟩ := v
      refine r_imul C dX2_mayFollow_23 o5 ?_
      refine r_iconst C dX2_mayFollow_24 ⟨by decide, by decide⟩ ?_
      obtain ⟨o6, v⟩ := v
      refine r_iadd C dX2_mayFollow_25 o6 ?_
      obtain ⟨o7, v⟩ := v
      refine r_iaload (r := 6) (N := 200) C dX2_mayFollow_26 rfl o7 ?_
      refine r_iload_n 1 C dX2_mayFollow_27 rfl ?_
      refine r_icmp_ne (tgt := 35) C dX2_mayFollow_28 (by decide) (fun c8 => ?_) (fun c8 => ?_)
      · have v := v.1 c8
        refine r_iconst C dX2_mayFollow_35 ⟨by decide, by decide⟩ ?_
        exact s_sub [0] rfl (B_36 _ _ v)
      · have v := v.2 c8
        exact s_sub [0] rfl (B_31 _ v)

def V_X2_areJoined_10 (P : Int → Hp → Prop) (p_X2_target : Int → Hp → Prop) (q_X2_target : Int → Hp → Int → Prop) (I_10 : Nat → Hp → Int → Int → Int → Int → Prop) (n_10 : Nat) (h : Hp) (x1 : Int) (x2 : Int) (x3 : Int) (x4 : Int) : Prop :=
  ((0 : Int) ≤ x1 ∧ (x1 : Int) < 30) ∧ (((h 11 x1) ≤ x4 → P 0 h) ∧ (¬ (h 11 x1) ≤ x4 → p_X2_target x3 h ∧ (∀ r4 : Int, InR r4 → q_X2_target x3 h r4 → ((¬ r4 = x2 → ((0 : Int) ≤ x3 ∧ (x3 : Int) < 200) ∧ (∀ z7 : Int, z7 = (h 7 x3) → (InR (x4 + 1) ∧ (∀ z8 : Int, z8 = x4 + 1 → (∃ n', n' < n_10 ∧ I_10 n' h x1 x2 z7 z8))))) ∧ (r4 = x2 → P 1 h)))))
def V_X2_areJoined (P : Int → Hp → Prop) (p_X2_target : Int → Hp → Prop) (q_X2_target : Int → Hp → Int → Prop) (I_10 : Nat → Hp → Int → Int → Int → Int → Prop) (h0 : Hp) (a1 : Int) (a2 : Int) : Prop :=
  ((0 : Int) ≤ a1 ∧ (a1 : Int) < 30) ∧ (∀ z11 : Int, z11 = (h0 10 a1) → (∀ z12 : Int, z12 = 0 → (∃ n', I_10 n' h0 a1 a2 z11 z12)))
set_option maxHeartbeats 4000000 in
set_option maxRecDepth 100000 in
theorem w_X2_areJoined {l : Launch} (P : Int → Hp → Prop) (p_X2_target : Int → Hp → Prop) (q_X2_target : Int → Hp → Int → Prop) (I_10 : Nat → Hp → Int → Int → Int → Int → Prop) (h0 : Hp) (a1 : Int) (a2 : Int)
    (c_X2_target : ∀ (b1 : Int) (h : Hp), p_X2_target b1 h → Ct l yX2_target cX2_target 2 (some .int) 0 0 0 [vr 1, vi b1] h [] (fun r _ => q_X2_target b1 h r) (fun _ => False))
    (o_10 : ∀ (n_10 : Nat) (h : Hp) (x1 : Int) (x2 : Int) (x3 : Int) (x4 : Int), RH h → Fr [] h0 h → InR x1 → InR x2 → InR x3 → InR x4 → I_10 n_10 h x1 x2 x3 x4 → V_X2_areJoined_10 P p_X2_target q_X2_target I_10 n_10 h x1 x2 x3 x4)
    (o : RH h0 → InR a1 → InR a2 → V_X2_areJoined P p_X2_target q_X2_target I_10 h0 a1 a2) :
    Ct l yX2_areJoined cX2_areJoined 5 (some .boolean) 1 21 0 [vr 1, vi a1, vi a2] h0 [] P (fun _ => False) := by
  refine Ct.of (own := RX2) (by decide) rfl (Nat.le_of_ble_eq_true rfl) ?_
  intro X C hXl hXM hXh hXP hXX hXc hXr hav hR0
  have hmain : V_X2_areJoined P p_X2_target q_X2_target I_10 h0 a1 a2 := o hR0 (hav (vi a1) (by simp)) (hav (vi a2) (by simp))
  have B_10 : ∀ (n_10 : Nat) (h : Hp) (x1 : Int) (x2 : Int) (x3 : Int) (x4 : Int), I_10 n_10 h x1 x2 x3 x4 → Wh X 10 [(0, vr 1), (1, vi x1), (2, vi x2), (3, vi x3), (4, vi x4)] [] h 0 := by
    intro n_10
    induction n_10 using Nat.strongRecOn with
    | _ n_10 ih_10 =>
      intro h x1 x2 x3 x4 hI
      refine s_use fun hR hF hL => ?_
      have v := o_10 n_10 h x1 x2 x3 x4 hR (by rw [hXM, hXh] at hF; exact hF) (hL (1, vi x1) (by simp)) (hL (2, vi x2) (by simp)) (hL (3, vi x3) (by simp)) (hL (4, vi x4) (by simp)) hI
      unfold V_X2_areJoined_10 at v
      refine r_iload 4 C dX2_areJoined_10 rfl ?_
      refine r_aload_n 0 C dX2_areJoined_12 rfl ?_
      refine gf_X2_28 C dX2_areJoined_13 ?_
      refine r_iload_n 1 C dX2_areJoined_16 rfl ?_
      obtain ⟨o1, v⟩ := v
      refine r_iaload (r := 11) (N := 30) C dX2_areJoined_17 rfl o1 ?_
      refine r_icmp_ge (tgt := 45) C dX2_areJoined_18 (by decide) (fun c2 => ?_) (fun c2 => ?_)
      · have v := v.1 c2
        refine r_iconst C dX2_areJoined_45 ⟨by decide, by decide⟩ ?_
        exact r_zreturn C dX2_areJoined_46 hXr (Nat.zero_le _) (by decide) (by rw [hXP]; exact v)
      · have v := v.2 c2
        refine r_aload_n 0 C dX2_areJoined_21 rfl ?_
        refine r_iload_n 3 C dX2_areJoined_22 rfl ?_
        obtain ⟨o3, v⟩ := v
        refine s_calli0 [x3] [] C dX2_areJoined_23 ck_X2_57 (r := 1) (fY := 0) (nY := 0) rfl rfl (by decide) (by decide) (Nat.le_of_ble_eq_true rfl) rfl (by rw [hXl]; exact c_X2_target x3 h o3) (fun r4 gr4 qr4 => ?_)
        have v := v r4 gr4 qr4
        refine r_iload_n 2 C dX2_areJoined_26 rfl ?_
        refine r_icmp_ne (tgt := 32) C dX2_areJoined_27 (by decide) (fun c5 => ?_) (fun c5 => ?_)
        · have v := v.1 c5
          refine r_aload_n 0 C dX2_areJoined_32 rfl ?_
          refine gf_X2_15 C dX2_areJoined_33 ?_
          refine r_iload_n 3 C dX2_areJoined_36 rfl ?_
          obtain ⟨o6, v⟩ := v
          refine r_iaload (r := 7) (N := 200) C dX2_areJoined_37 rfl o6 ?_
          refine s_istore_n C dX2_areJoined_38 (by decide) (fun z7 ez7 => ?_)
          have v := v z7 ez7
          show Wh X 39 [(3, vi z7), (0, vr 1), (1, vi x1), (2, vi x2), (4, vi x4)] [] h 0
          obtain ⟨o9, v⟩ := v
          refine s_iinc 4 C dX2_areJoined_39 rfl (by decide) o9 (fun z8 ez8 => ?_)
          have v := v z8 ez8
          show Wh X 42 [(4, vi z8), (3, vi z7), (0, vr 1), (1, vi x1), (2, vi x2)] [] h 0
          refine r_goto (tgt := 10) C dX2_areJoined_42 (by decide) ?_
          obtain ⟨n', hn', hI'⟩ := v
          exact s_sub [2, 3, 4, 1, 0] rfl (ih_10 n' hn' _ _ _ _ _ hI')
        · have v := v.2 c5
          refine r_iconst C dX2_areJoined_30 ⟨by decide, by decide⟩ ?_
          exact r_zreturn C dX2_areJoined_31 hXr (Nat.zero_le _) (by decide) (by rw [hXP]; exact v)
  show Wh X 0 [(0, vr 1), (1, vi a1), (2, vi a2)] [] h0 0
  have v := hmain
  unfold V_X2_areJoined at v
  refine r_aload_n 0 C dX2_areJoined_0 rfl ?_
  refine gf_X2_25 C dX2_areJoined_1 ?_
  refine r_iload_n 1 C dX2_areJoined_4 rfl ?_
  obtain ⟨o10, v⟩ := v
  refine r_iaload (r := 10) (N := 30) C dX2_areJoined_5 rfl o10 ?_
  refine s_istore_n C dX2_areJoined_6 (by decide) (fun z11 ez11 => ?_)
  have v := v z11 ez11
  show Wh X 7 [(3, vi z11), (0, vr 1), (1, vi a1), (2, vi a2)] [] h0 0
  refine r_iconst C dX2_areJoined_7 ⟨by decide, by decide⟩ ?_
  refine s_istore C dX2_areJoined_8 (by decide) (fun z12 ez12 => ?_)
  have v := v z12 ez12
  show Wh X 10 [(4, vi z12), (3, vi z11), (0, vr 1), (1, vi a1), (2, vi a2)] [] h0 0
  obtain ⟨n', hI'⟩ := v
  exact s_sub [2, 3, 4, 1, 0] rfl (B_10 n' _ _ _ _ _ hI')

def V_X2_lonelyVertices_24 (P : Int → Hp → Prop) (I_4 : Nat → Hp → Int → Int → Prop) (n_4 : Nat) (h : Hp) (x1 : Int) (x2 : Int) : Prop :=
  InR (x2 + 1) ∧ (∀ z1 : Int, z1 = x2 + 1 → (∃ n', n' < n_4 ∧ I_4 n' h x1 z1))
def V_X2_lonelyVertices_4 (P : Int → Hp → Prop) (I_4 : Nat → Hp → Int → Int → Prop) (n_4 : Nat) (h : Hp) (x1 : Int) (x2 : Int) : Prop :=
  ((h 1 6) ≤ x2 → P x1 h) ∧ (¬ (h 1 6) ≤ x2 → ((0 : Int) ≤ x2 ∧ (x2 : Int) < 30) ∧ ((¬ (h 11 x2) = 0 → V_X2_lonelyVertices_24 P I_4 n_4 h x1 x2) ∧ ((h 11 x2) = 0 → InR (x1 + 1) ∧ (∀ z6 : Int, z6 = x1 + 1 → (V_X2_lonelyVertices_24 P I_4 n_4 h z6 x2)))))
def V_X2_lonelyVertices (P : Int → Hp → Prop) (I_4 : Nat → Hp → Int → Int → Prop) (h0 : Hp) : Prop :=
  ∀ z8 : Int, z8 = 0 → (∀ z9 : Int, z9 = 0 → (∃ n', I_4 n' h0 z8 z9))
set_option maxHeartbeats 4000000 in
set_option maxRecDepth 100000 in
theorem w_X2_lonelyVertices {l : Launch} (P : Int → Hp → Prop) (I_4 : Nat → Hp → Int → Int → Prop) (h0 : Hp)
    (o_4 : ∀ (n_4 : Nat) (h : Hp) (x1 : Int) (x2 : Int), RH h → Fr [] h0 h → InR x1 → InR x2 → I_4 n_4 h x1 x2 → V_X2_lonelyVertices_4 P I_4 n_4 h x1 x2)
    (o : RH h0 → V_X2_lonelyVertices P I_4 h0) :
    Ct l yX2_lonelyVertices cX2_lonelyVertices 3 (some .int) 0 0 0 [vr 1] h0 [] P (fun _ => False) := by
  refine Ct.of (own := RX2) (by decide) rfl (Nat.le_of_ble_eq_true rfl) ?_
  intro X C hXl hXM hXh hXP hXX hXc hXr hav hR0
  have hmain : V_X2_lonelyVertices P I_4 h0 := o hR0 
  have B_4 : ∀ (n_4 : Nat) (h : Hp) (x1 : Int) (x2 : Int), I_4 n_4 h x1 x2 → Wh X 4 [(0, vr 1), (1, vi x1), (2, vi x2)] [] h 0 := by
    intro n_4
    induction n_4 using Nat.strongRecOn with
    | _ n_4 ih_4 =>
      intro h x1 x2 hI
      refine s_use fun hR hF hL => ?_
      have v := o_4 n_4 h x1 x2 hR (by rw [hXM, hXh] at hF; exact hF) (hL (1, vi x1) (by simp)) (hL (2, vi x2) (by simp)) hI
      unfold V_X2_lonelyVertices_4 at v
      have B_24 : ∀ (h : Hp) (x1 : Int) (x2 : Int), V_X2_lonelyVertices_24 P I_4 n_4 h x1 x2 → Wh X 24 [(0, vr 1), (1, vi x1), (2, vi x2)] [] h 0 := by
        intro h x1 x2 v
        unfold V_X2_lonelyVertices_24 at v
        obtain ⟨o2, v⟩ := v
        refine s_iinc 2 C dX2_lonelyVertices_24 rfl (by decide) o2 (fun z1 ez1 => ?_)
        have v := v z1 ez1
        show Wh X 27 [(2, vi z1), (0, vr 1), (1, vi x1)] [] h 0
        refine r_goto (tgt := 4) C dX2_lonelyVertices_27 (by decide) ?_
        obtain ⟨n', hn', hI'⟩ := v
        exact s_sub [1, 2, 0] rfl (ih_4 n' hn' _ _ _ hI')
      refine r_iload_n 2 C dX2_lonelyVertices_4 rfl ?_
      refine r_aload_n 0 C dX2_lonelyVertices_5 rfl ?_
      refine gf_X2_31 C dX2_lonelyVertices_6 ?_
      refine r_icmp_ge (tgt := 30) C dX2_lonelyVertices_9 (by decide) (fun c3 => ?_) (fun c3 => ?_)
      · have v := v.1 c3
        refine r_iload_n 1 C dX2_lonelyVertices_30 rfl ?_
        exact r_ireturn C dX2_lonelyVertices_31 hXr (Nat.zero_le _) (by rw [hXP]; exact v)
      · have v := v.2 c3
        refine r_aload_n 0 C dX2_lonelyVertices_12 rfl ?_
        refine gf_X2_28 C dX2_lonelyVertices_13 ?_
        refine r_iload_n 2 C dX2_lonelyVertices_16 rfl ?_
        obtain ⟨o4, v⟩ := v
        refine r_iaload (r := 11) (N := 30) C dX2_lonelyVertices_17 rfl o4 ?_
        refine r_if_ne (tgt := 24) C dX2_lonelyVertices_18 (by decide) (fun c5 => ?_) (fun c5 => ?_)
        · have v := v.1 c5
          exact s_sub [0, 1, 2] rfl (B_24 _ _ _ v)
        · have v := v.2 c5
          obtain ⟨o7, v⟩ := v
          refine s_iinc 1 C dX2_lonelyVertices_21 rfl (by decide) o7 (fun z6 ez6 => ?_)
          have v := v z6 ez6
          show Wh X 24 [(1, vi z6), (0, vr 1), (2, vi x2)] [] h 0
          exact s_sub [1, 0, 2] rfl (B_24 _ _ _ v)
  show Wh X 0 [(0, vr 1)] [] h0 0
  have v := hmain
  unfold V_X2_lonelyVertices at v
  refine r_iconst C dX2_lonelyVertices_0 ⟨by decide, by decide⟩ ?_
  refine s_istore_n C dX2_lonelyVertices_1 (by decide) (fun z8 ez8 => ?_)
  have v := v z8 ez8
  show Wh X 2 [(1, vi z8), (0, vr 1)] [] h0 0
  refine r_iconst C dX2_lonelyVertices_2 ⟨by decide, by decide⟩ ?_
  refine s_istore_n C dX2_lonelyVertices_3 (by decide) (fun z9 ez9 => ?_)
  have v := v z9 ez9
  show Wh X 4 [(2, vi z9), (1, vi z8), (0, vr 1)] [] h0 0
  obtain ⟨n', hI'⟩ := v
  exact s_sub [2, 1, 0] rfl (B_4 n' _ _ _ hI')


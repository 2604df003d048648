def V_X1_survey_71 (P : Int → Hp → Prop) (p_X1_walkFrom : Int → Hp → Prop) (q_X1_walkFrom : Int → Hp → Hp → Prop) (I_12 : Nat → Hp → Int → Int → Prop) (I_37 : Nat → Hp → Int → Int → Prop) (n_37 : Nat) (h : Hp) (x1 : Int) (x2 : Int) : Prop :=
  InR (x2 + 1) ∧ (∀ z1 : Int, z1 = x2 + 1 → (∃ n', n' < n_37 ∧ I_37 n' h x1 z1))
def V_X1_survey_37 (P : Int → Hp → Prop) (p_X1_walkFrom : Int → Hp → Prop) (q_X1_walkFrom : Int → Hp → Hp → Prop) (I_12 : Nat → Hp → Int → Int → Prop) (I_37 : Nat → Hp → Int → Int → Prop) (n_37 : Nat) (h : Hp) (x1 : Int) (x2 : Int) : Prop :=
  (x1 ≤ x2 → P 0 h) ∧ (¬ x1 ≤ x2 → ((0 : Int) < 2 ∧ InR (x2.tdiv 2)) ∧ (((0 : Int) ≤ (x2.tdiv 2) ∧ ((x2.tdiv 2) : Int) < 100) ∧ (((h 9 (x2.tdiv 2)) = 0 → V_X1_survey_71 P p_X1_walkFrom q_X1_walkFrom I_12 I_37 n_37 h x1 x2) ∧ (¬ (h 9 (x2.tdiv 2)) = 0 → ((0 : Int) ≤ x2 ∧ (x2 : Int) < 200) ∧ ((¬ (h 12 x2) = (-1) → V_X1_survey_71 P p_X1_walkFrom q_X1_walkFrom I_12 I_37 n_37 h x1 x2) ∧ ((h 12 x2) = (-1) → p_X1_walkFrom x2 h ∧ (∀ h10 : Hp, Fr [2, 12, 13, 14] h h10 → RH h10 → q_X1_walkFrom x2 h h10 → (V_X1_survey_71 P p_X1_walkFrom q_X1_walkFrom I_12 I_37 n_37 h10 x1 x2))))))))
def V_X1_survey_12 (P : Int → Hp → Prop) (p_X1_walkFrom : Int → Hp → Prop) (q_X1_walkFrom : Int → Hp → Hp → Prop) (I_12 : Nat → Hp → Int → Int → Prop) (I_37 : Nat → Hp → Int → Int → Prop) (n_12 : Nat) (h : Hp) (x1 : Int) (x2 : Int) : Prop :=
  (x1 ≤ x2 → ∀ h12 : Hp, h12 = hup h 2 4 0 → (∀ z13 : Int, z13 = 0 → (∃ n', I_37 n' h12 x1 z13))) ∧ (¬ x1 ≤ x2 → ((0 : Int) ≤ x2 ∧ (x2 : Int) < 200) ∧ (∀ h15 : Hp, h15 = hup h 12 x2 (-1) → (InR (x2 + 1) ∧ (∀ z16 : Int, z16 = x2 + 1 → (∃ n', n' < n_12 ∧ I_12 n' h15 x1 z16)))))
def V_X1_survey (P : Int → Hp → Prop) (p_X1_walkFrom : Int → Hp → Prop) (q_X1_walkFrom : Int → Hp → Hp → Prop) (I_12 : Nat → Hp → Int → Int → Prop) (I_37 : Nat → Hp → Int → Int → Prop) (h0 : Hp) : Prop :=
  InR (2 * (h0 1 7)) ∧ (∀ z19 : Int, z19 = (2 * (h0 1 7)) → (∀ z20 : Int, z20 = 0 → (∃ n', I_12 n' h0 z19 z20)))
set_option maxHeartbeats 4000000 in
set_option maxRecDepth 100000 in
theorem w_X1_survey {l : Launch} (P : Int → Hp → Prop) (p_X1_walkFrom : Int → Hp → Prop) (q_X1_walkFrom : Int → Hp → Hp → Prop) (I_12 : Nat → Hp → Int → Int → Prop) (I_37 : Nat → Hp → Int → Int → Prop) (h0 : Hp)
    (c_X1_walkFrom : ∀ (b1 : Int) (h : Hp), p_X1_walkFrom b1 h → Ct l yX1_walkFrom cX1_walkFrom 4 none 1 21 0 [vr 2, vi b1] h [2, 12, 13, 14] (fun _ h1 => q_X1_walkFrom b1 h h1) (fun _ => False))
    (o_12 : ∀ (n_12 : Nat) (h : Hp) (x1 : Int) (x2 : Int), RH h → Fr [2, 12, 13, 14] h0 h → InR x1 → InR x2 → I_12 n_12 h x1 x2 → V_X1_survey_12 P p_X1_walkFrom q_X1_walkFrom I_12 I_37 n_12 h x1 x2)
    (o_37 : ∀ (n_37 : Nat) (h : Hp) (x1 : Int) (x2 : Int), RH h → Fr [2, 12, 13, 14] h0 h → InR x1 → InR x2 → I_37 n_37 h x1 x2 → V_X1_survey_37 P p_X1_walkFrom q_X1_walkFrom I_12 I_37 n_37 h x1 x2)
    (o : RH h0 → V_X1_survey P p_X1_walkFrom q_X1_walkFrom I_12 I_37 h0) :
    Ct l yX1_survey cX1_survey 3 none 2 44 0 [vr 2] h0 [2, 12, 13, 14] P (fun _ => False) := by
  refine Ct.of (own := RX1) (by decide) rfl (Nat.le_of_ble_eq_true rfl) ?_
  intro X C hXl hXM hXh hXP hXX hXc hXr hav hR0
  have hmain : V_X1_survey P p_X1_walkFrom q_X1_walkFrom I_12 I_37 h0 := o hR0 
  have B_37 : ∀ (n_37 : Nat) (h : Hp) (x1 : Int) (x2 : Int), I_37 n_37 h x1 x2 → Wh X 37 [(0, vr 2), (1, vi x1), (2, vi x2)] [] h 0 := by
    intro n_37
    induction n_37 using Nat.strongRecOn with
    | _ n_37 ih_37 =>
      intro h x1 x2 hI
      refine s_use fun hR hF hL => ?_
      have v := o_37 n_37 h x1 x2 hR (by rw [hXM, hXh] at hF; exact hF) (hL (1, vi x1) (by simp)) (hL (2, vi x2) (by simp)) hI
      unfold V_X1_survey_37 at v
      have B_71 : ∀ (h : Hp) (x1 : Int) (x2 : Int), V_X1_survey_71 P p_X1_walkFrom q_X1_walkFrom I_12 I_37 n_37 h x1 x2 → Wh X 71 [(0, vr 2), (1, vi x1), (2, vi x2)] [] h 0 := by
        intro h x1 x2 v
        unfold V_X1_survey_71 at v
        obtain ⟨o2, v⟩ := v
        refine s_iinc 2 C dX1_survey_71 rfl (by decide) o2 (fun z1 ez1 => ?_)
        have v := v z1 ez1
        show Wh X 74 [(2, vi z1), (0, vr 2), (1, vi x1)] [] h 0
        refine r_goto (tgt := 37) C dX1_survey_74 (by decide) ?_
        obtain ⟨n', hn', hI'⟩ := v
        exact s_sub [1, 2, 0] rfl (ih_37 n' hn' _ _ _ hI')
      refine r_iload_n 2 C dX1_survey_37 rfl ?_
      refine r_iload_n 1 C dX1_survey_38 rfl ?_
      refine r_icmp_ge (tgt := 77) C dX1_survey_39 (by decide) (fun c3 => ?_) (fun c3 => ?_)
      · have v := v.1 c3
        exact r_return C dX1_survey_77 hXr (Nat.zero_le _) (by rw [hXP]; exact v)
      · have v := v.2 c3
        refine r_aload_n 0 C dX1_survey_42 rfl ?_
        refine gf_X1_25 C dX1_survey_43 ?_
        refine gf_X1_34 C dX1_survey_46 ?_
        refine r_iload_n 2 C dX1_survey_49 rfl ?_
        refine r_iconst C dX1_survey_50 ⟨by decide, by decide⟩ ?_
        obtain ⟨o4, v⟩ := v
        refine r_idiv C dX1_survey_51 o4 ?_
        obtain ⟨o5, v⟩ := v
        refine r_baload (r := 9) (N := 100) C dX1_survey_52 rfl o5 ?_
        refine r_if_eq (tgt := 71) C dX1_survey_53 (by decide) (fun c6 => ?_) (fun c6 => ?_)
        · have v := v.1 c6
          exact s_sub [0, 1, 2] rfl (B_71 _ _ _ v)
        · have v := v.2 c6
          refine r_aload_n 0 C dX1_survey_56 rfl ?_
          refine gf_X1_9 C dX1_survey_57 ?_
          refine r_iload_n 2 C dX1_survey_60 rfl ?_
          obtain ⟨o7, v⟩ := v
          refine r_iaload (r := 12) (N := 200) C dX1_survey_61 rfl o7 ?_
          refine r_iconst C dX1_survey_62 ⟨by decide, by decide⟩ ?_
          refine r_icmp_ne (tgt := 71) C dX1_survey_63 (by decide) (fun c8 => ?_) (fun c8 => ?_)
          · have v := v.1 c8
            exact s_sub [0, 1, 2] rfl (B_71 _ _ _ v)
          · have v := v.2 c8
            refine r_aload_n 0 C dX1_survey_66 rfl ?_
            refine r_iload_n 2 C dX1_survey_67 rfl ?_
            obtain ⟨o9, v⟩ := v
            refine s_callv [x2] [] C dX1_survey_68 ck_X1_38 (r := 2) (fY := 1) (nY := 21) rfl rfl (by decide) (by decide) (Nat.le_of_ble_eq_true rfl) rfl (MY := [2, 12, 13, 14]) hXM (by decide) (by rw [hXl]; exact c_X1_walkFrom x2 h o9) (fun h10 fh10 kh10 qh10 => ?_)
            have v := v h10 fh10 kh10 qh10
            exact s_sub [0, 1, 2] rfl (B_71 _ _ _ v)
  have B_12 : ∀ (n_12 : Nat) (h : Hp) (x1 : Int) (x2 : Int), I_12 n_12 h x1 x2 → Wh X 12 [(0, vr 2), (1, vi x1), (2, vi x2)] [] h 0 := by
    intro n_12
    induction n_12 using Nat.strongRecOn with
    | _ n_12 ih_12 =>
      intro h x1 x2 hI
      refine s_use fun hR hF hL => ?_
      have v := o_12 n_12 h x1 x2 hR (by rw [hXM, hXh] at hF; exact hF) (hL (1, vi x1) (by simp)) (hL (2, vi x2) (by simp)) hI
      unfold V_X1_survey_12 at v
      refine r_iload_n 2 C dX1_survey_12 rfl ?_
      refine r_iload_n 1 C dX1_survey_13 rfl ?_
      refine r_icmp_ge (tgt := 30) C dX1_survey_14 (by decide) (fun c11 => ?_) (fun c11 => ?_)
      · have v := v.1 c11
        refine r_aload_n 0 C dX1_survey_30 rfl ?_
        refine r_iconst C dX1_survey_31 ⟨by decide, by decide⟩ ?_
        refine pf_X1_21 C dX1_survey_32 hXM (by decide) (fun h12 eh12 => ?_)
        have v := v h12 eh12
        refine r_iconst C dX1_survey_35 ⟨by decide, by decide⟩ ?_
        refine s_istore_n C dX1_survey_36 (by decide) (fun z13 ez13 => ?_)
        have v := v z13 ez13
        show Wh X 37 [(2, vi z13), (0, vr 2), (1, vi x1)] [] h12 0
        obtain ⟨n', hI'⟩ := v
        exact s_sub [1, 2, 0] rfl (B_37 n' _ _ _ hI')
      · have v := v.2 c11
        refine r_aload_n 0 C dX1_survey_17 rfl ?_
        refine gf_X1_9 C dX1_survey_18 ?_
        refine r_iload_n 2 C dX1_survey_21 rfl ?_
        refine r_iconst C dX1_survey_22 ⟨by decide, by decide⟩ ?_
        obtain ⟨o14, v⟩ := v
        refine s_iastore (r := 12) (N := 200) C dX1_survey_23 rfl hXM (by decide) o14 (fun h15 eh15 => ?_)
        have v := v h15 eh15
        obtain ⟨o17, v⟩ := v
        refine s_iinc 2 C dX1_survey_24 rfl (by decide) o17 (fun z16 ez16 => ?_)
        have v := v z16 ez16
        show Wh X 27 [(2, vi z16), (0, vr 2), (1, vi x1)] [] h15 0
        refine r_goto (tgt := 12) C dX1_survey_27 (by decide) ?_
        obtain ⟨n', hn', hI'⟩ := v
        exact s_sub [1, 2, 0] rfl (ih_12 n' hn' _ _ _ hI')
  show Wh X 0 [(0, vr 2)] [] h0 0
  have v := hmain
  unfold V_X1_survey at v
  refine r_iconst C dX1_survey_0 ⟨by decide, by decide⟩ ?_
  refine r_aload_n 0 C dX1_survey_1 rfl ?_
  refine gf_X1_25 C dX1_survey_2 ?_
  refine gf_X1_29 C dX1_survey_5 ?_
  obtain ⟨o18, v⟩ := v
  refine r_imul C dX1_survey_8 o18 ?_
  refine s_istore_n C dX1_survey_9 (by decide) (fun z19 ez19 => ?_)
  have v := v z19 ez19
  show Wh X 10 [(1, vi z19), (0, vr 2)] [] h0 0
  refine r_iconst C dX1_survey_10 ⟨by decide, by decide⟩ ?_
  refine s_istore_n C dX1_survey_11 (by decide) (fun z20 ez20 => ?_)
  have v := v z20 ez20
  show Wh X 12 [(2, vi z20), (1, vi z19), (0, vr 2)] [] h0 0
  obtain ⟨n', hI'⟩ := v
  exact s_sub [2, 1, 0] rfl (B_12 n' _ _ _ hI')

def V_X1_walkFrom_38 (P : Int → Hp → Prop) (p_X2_sideBehind : Int → Hp → Prop) (q_X2_sideBehind : Int → Hp → Int → Prop) (I_4 : Nat → Hp → Int → Int → Int → Prop) (h : Hp) (x1 : Int) (x3 : Int) : Prop :=
  ((0 : Int) ≤ (h 2 4) ∧ ((h 2 4) : Int) < 200) ∧ (∀ h2 : Hp, h2 = hup h 13 (h 2 4) x1 → (((0 : Int) ≤ (h2 2 4) ∧ ((h2 2 4) : Int) < 200) ∧ (∀ h4 : Hp, h4 = hup h2 14 (h2 2 4) x3 → (InR ((h4 2 4) + 1) ∧ (∀ h6 : Hp, h6 = hup h4 2 4 ((h4 2 4) + 1) → (P 0 h6))))))
def V_X1_walkFrom_4 (P : Int → Hp → Prop) (p_X2_sideBehind : Int → Hp → Prop) (q_X2_sideBehind : Int → Hp → Int → Prop) (I_4 : Nat → Hp → Int → Int → Int → Prop) (n_4 : Nat) (h : Hp) (x1 : Int) (x2 : Int) (x3 : Int) : Prop :=
  ((0 : Int) ≤ x2 ∧ (x2 : Int) < 200) ∧ (∀ h8 : Hp, h8 = hup h 12 x2 (h 2 4) → (p_X2_sideBehind x2 h8 ∧ (∀ r10 : Int, InR r10 → q_X2_sideBehind x2 h8 r10 → (∀ z11 : Int, z11 = r10 → (InR (x3 + 1) ∧ (∀ z12 : Int, z12 = x3 + 1 → ((z11 = x1 → V_X1_walkFrom_38 P p_X2_sideBehind q_X2_sideBehind I_4 h8 x1 z12) ∧ (¬ z11 = x1 → (z12 < 200 → ∃ n', n' < n_4 ∧ I_4 n' h8 x1 z11 z12) ∧ (¬ z12 < 200 → V_X1_walkFrom_38 P p_X2_sideBehind q_X2_sideBehind I_4 h8 x1 z12)))))))))
def V_X1_walkFrom (P : Int → Hp → Prop) (p_X2_sideBehind : Int → Hp → Prop) (q_X2_sideBehind : Int → Hp → Int → Prop) (I_4 : Nat → Hp → Int → Int → Int → Prop) (h0 : Hp) (a1 : Int) : Prop :=
  ∀ z16 : Int, z16 = a1 → (∀ z17 : Int, z17 = 0 → (∃ n', I_4 n' h0 a1 z16 z17))
set_option maxHeartbeats 4000000 in
set_option maxRecDepth 100000 in
theorem w_X1_walkFrom {l : Launch} (P : Int → Hp → Prop) (p_X2_sideBehind : Int → Hp → Prop) (q_X2_sideBehind : Int → Hp → Int → Prop) (I_4 : Nat → Hp → Int → Int → Int → Prop) (h0 : Hp) (a1 : Int)
    (c_X2_sideBehind : ∀ (b1 : Int) (h : Hp), p_X2_sideBehind b1 h → Ct l yX2_sideBehind cX2_sideBehind 2 (some .int) 0 0 0 [vr 1, vi b1] h [] (fun r _ => q_X2_sideBehind b1 h r) (fun _ => False))
    (o_4 : ∀ (n_4 : Nat) (h : Hp) (x1 : Int) (x2 : Int) (x3 : Int), RH h → Fr [2, 12, 13, 14] h0 h → InR x1 → InR x2 → InR x3 → I_4 n_4 h x1 x2 x3 → V_X1_walkFrom_4 P p_X2_sideBehind q_X2_sideBehind I_4 n_4 h x1 x2 x3)
    (o : RH h0 → InR a1 → V_X1_walkFrom P p_X2_sideBehind q_X2_sideBehind I_4 h0 a1) :
    Ct l yX1_walkFrom cX1_walkFrom 4 none 1 21 0 [vr 2, vi a1] h0 [2, 12, 13, 14] P (fun _ => False) := by
  refine Ct.of (own := RX1) (by decide) rfl (Nat.le_of_ble_eq_true rfl) ?_
  intro X C hXl hXM hXh hXP hXX hXc hXr hav hR0
  have hmain : V_X1_walkFrom P p_X2_sideBehind q_X2_sideBehind I_4 h0 a1 := o hR0 (hav (vi a1) (by simp))
  have B_38 : ∀ (h : Hp) (x1 : Int) (x3 : Int), V_X1_walkFrom_38 P p_X2_sideBehind q_X2_sideBehind I_4 h x1 x3 → Wh X 38 [(0, vr 2), (1, vi x1), (3, vi x3)] [] h 0 := by
    intro h x1 x3 v
    unfold V_X1_walkFrom_38 at v
    refine r_aload_n 0 C dX1_walkFrom_38 rfl ?_
    refine gf_X1_15 C dX1_walkFrom_39 ?_
    refine r_aload_n 0 C dX1_walkFrom_42 rfl ?_
    refine gf_X1_21 C dX1_walkFrom_43 ?_
    refine r_iload_n 1 C dX1_walkFrom_46 rfl ?_
    obtain ⟨o1, v⟩ := v
    refine s_iastore (r := 13) (N := 200) C dX1_walkFrom_47 rfl hXM (by decide) o1 (fun h2 eh2 => ?_)
    have v := v h2 eh2
    refine r_aload_n 0 C dX1_walkFrom_48 rfl ?_
    refine gf_X1_18 C dX1_walkFrom_49 ?_
    refine r_aload_n 0 C dX1_walkFrom_52 rfl ?_
    refine gf_X1_21 C dX1_walkFrom_53 ?_
    refine r_iload_n 2 C dX1_walkFrom_56 rfl ?_
    obtain ⟨o3, v⟩ := v
    refine s_iastore (r := 14) (N := 200) C dX1_walkFrom_57 rfl hXM (by decide) o3 (fun h4 eh4 => ?_)
    have v := v h4 eh4
    refine r_aload_n 0 C dX1_walkFrom_58 rfl ?_
    refine r_dup C dX1_walkFrom_59 trivial ?_
    refine gf_X1_21 C dX1_walkFrom_60 ?_
    refine r_iconst C dX1_walkFrom_63 ⟨by decide, by decide⟩ ?_
    obtain ⟨o5, v⟩ := v
    refine r_iadd C dX1_walkFrom_64 o5 ?_
    refine pf_X1_21 C dX1_walkFrom_65 hXM (by decide) (fun h6 eh6 => ?_)
    have v := v h6 eh6
    exact r_return C dX1_walkFrom_68 hXr (Nat.zero_le _) (by rw [hXP]; exact v)
  have B_4 : ∀ (n_4 : Nat) (h : Hp) (x1 : Int) (x2 : Int) (x3 : Int), I_4 n_4 h x1 x2 x3 → Wh X 4 [(0, vr 2), (1, vi x1), (2, vi x2), (3, vi x3)] [] h 0 := by
    intro n_4
    induction n_4 using Nat.strongRecOn with
    | _ n_4 ih_4 =>
      intro h x1 x2 x3 hI
      refine s_use fun hR hF hL => ?_
      have v := o_4 n_4 h x1 x2 x3 hR (by rw [hXM, hXh] at hF; exact hF) (hL (1, vi x1) (by simp)) (hL (2, vi x2) (by simp)) (hL (3, vi x3) (by simp)) hI
      unfold V_X1_walkFrom_4 at v
      refine r_aload_n 0 C dX1_walkFrom_4 rfl ?_
      refine gf_X1_9 C dX1_walkFrom_5 ?_
      refine r_iload_n 2 C dX1_walkFrom_8 rfl ?_
      refine r_aload_n 0 C dX1_walkFrom_9 rfl ?_
      refine gf_X1_21 C dX1_walkFrom_10 ?_
      obtain ⟨o7, v⟩ := v
      refine s_iastore (r := 12) (N := 200) C dX1_walkFrom_13 rfl hXM (by decide) o7 (fun h8 eh8 => ?_)
      have v := v h8 eh8
      refine r_aload_n 0 C dX1_walkFrom_14 rfl ?_
      refine gf_X1_25 C dX1_walkFrom_15 ?_
      refine r_iload_n 2 C dX1_walkFrom_18 rfl ?_
      obtain ⟨o9, v⟩ := v
      refine s_calli0 [x2] [] C dX1_walkFrom_19 ck_X1_42 (r := 1) (fY := 0) (nY := 0) rfl rfl (by decide) (by decide) (Nat.le_of_ble_eq_true rfl) rfl (by rw [hXl]; exact c_X2_sideBehind x2 h8 o9) (fun r10 gr10 qr10 => ?_)
      have v := v r10 gr10 qr10
      refine s_istore_n C dX1_walkFrom_22 (by decide) (fun z11 ez11 => ?_)
      have v := v z11 ez11
      show Wh X 23 [(2, vi z11), (0, vr 2), (1, vi x1), (3, vi x3)] [] h8 0
      obtain ⟨o13, v⟩ := v
      refine s_iinc 3 C dX1_walkFrom_23 rfl (by decide) o13 (fun z12 ez12 => ?_)
      have v := v z12 ez12
      show Wh X 26 [(3, vi z12), (2, vi z11), (0, vr 2), (1, vi x1)] [] h8 0
      refine r_iload_n 1 C dX1_walkFrom_26 rfl ?_
      refine r_iload_n 3 C dX1_walkFrom_27 rfl ?_
      refine r_icmp_eq (tgt := 38) C dX1_walkFrom_28 (by decide) (fun c14 => ?_) (fun c14 => ?_)
      · have v := v.1 c14
        exact s_sub [2, 3, 0] rfl (B_38 _ _ _ v)
      · have v := v.2 c14
        refine r_iload_n 0 C dX1_walkFrom_31 rfl ?_
        refine r_sipush C dX1_walkFrom_32 ⟨by decide, by decide⟩ (by decide) ?_
        refine r_icmp_lt (tgt := 4) C dX1_walkFrom_35 (by decide) (fun c15 => ?_) (fun c15 => ?_)
        · have v := v.1 c15
          obtain ⟨n', hn', hI'⟩ := v
          exact s_sub [2, 3, 1, 0] rfl (ih_4 n' hn' _ _ _ _ hI')
        · have v := v.2 c15
          exact s_sub [2, 3, 0] rfl (B_38 _ _ _ v)
  show Wh X 0 [(0, vr 2), (1, vi a1)] [] h0 0
  have v := hmain
  unfold V_X1_walkFrom at v
  refine r_iload_n 1 C dX1_walkFrom_0 rfl ?_
  refine s_istore_n C dX1_walkFrom_1 (by decide) (fun z16 ez16 => ?_)
  have v := v z16 ez16
  show Wh X 2 [(2, vi z16), (0, vr 2), (1, vi a1)] [] h0 0
  refine r_iconst C dX1_walkFrom_2 ⟨by decide, by decide⟩ ?_
  refine s_istore_n C dX1_walkFrom_3 (by decide) (fun z17 ez17 => ?_)
  have v := v z17 ez17
  show Wh X 4 [(3, vi z17), (2, vi z16), (0, vr 2), (1, vi a1)] [] h0 0
  obtain ⟨n', hI'⟩ := v
  exact s_sub [2, 3, 1, 0] rfl (B_4 n' _ _ _ _ hI')

def V_X4_survey_69 (P : Int → Hp → Prop) (p_X4_growFrom : Int → Hp → Prop) (q_X4_growFrom : Int → Hp → Hp → Prop) (I_2 : Nat → Hp → Int → Prop) (I_33 : Nat → Hp → Int → Prop) (n_33 : Nat) (h : Hp) (x1 : Int) : Prop :=
  InR (x1 + 1) ∧ (∀ z1 : Int, z1 = x1 + 1 → (∃ n', n' < n_33 ∧ I_33 n' h z1))
def V_X4_survey_33 (P : Int → Hp → Prop) (p_X4_growFrom : Int → Hp → Prop) (q_X4_growFrom : Int → Hp → Hp → Prop) (I_2 : Nat → Hp → Int → Prop) (I_33 : Nat → Hp → Int → Prop) (n_33 : Nat) (h : Hp) (x1 : Int) : Prop :=
  ((h 1 6) ≤ x1 → P 0 h) ∧ (¬ (h 1 6) ≤ x1 → ((0 : Int) ≤ x1 ∧ (x1 : Int) < 30) ∧ ((¬ (h 18 x1) = (-1) → V_X4_survey_69 P p_X4_growFrom q_X4_growFrom I_2 I_33 n_33 h x1) ∧ ((h 18 x1) = (-1) → p_X4_growFrom x1 h ∧ (∀ h7 : Hp, Fr [3, 15, 16, 17, 18, 19] h h7 → RH h7 → q_X4_growFrom x1 h h7 → (InR ((h7 3 7) + 1) ∧ (∀ h9 : Hp, h9 = hup h7 3 7 ((h7 3 7) + 1) → (V_X4_survey_69 P p_X4_growFrom q_X4_growFrom I_2 I_33 n_33 h9 x1)))))))
def V_X4_survey_2 (P : Int → Hp → Prop) (p_X4_growFrom : Int → Hp → Prop) (q_X4_growFrom : Int → Hp → Hp → Prop) (I_2 : Nat → Hp → Int → Prop) (I_33 : Nat → Hp → Int → Prop) (n_2 : Nat) (h : Hp) (x1 : Int) : Prop :=
  ((h 1 6) ≤ x1 → ∀ h11 : Hp, h11 = hup h 3 7 0 → (∀ z12 : Int, z12 = 0 → (∃ n', I_33 n' h11 z12))) ∧ (¬ (h 1 6) ≤ x1 → ((0 : Int) ≤ x1 ∧ (x1 : Int) < 30) ∧ (∀ h14 : Hp, h14 = hup h 18 x1 (-1) → (InR (x1 + 1) ∧ (∀ z15 : Int, z15 = x1 + 1 → (∃ n', n' < n_2 ∧ I_2 n' h14 z15)))))
def V_X4_survey (P : Int → Hp → Prop) (p_X4_growFrom : Int → Hp → Prop) (q_X4_growFrom : Int → Hp → Hp → Prop) (I_2 : Nat → Hp → Int → Prop) (I_33 : Nat → Hp → Int → Prop) (h0 : Hp) : Prop :=
  ∀ z17 : Int, z17 = 0 → (∃ n', I_2 n' h0 z17)
set_option maxHeartbeats 4000000 in
set_option maxRecDepth 100000 in
theorem w_X4_survey {l : Launch} (P : Int → Hp → Prop) (p_X4_growFrom : Int → Hp → Prop) (q_X4_growFrom : Int → Hp → Hp → Prop) (I_2 : Nat → Hp → Int → Prop) (I_33 : Nat → Hp → Int → Prop) (h0 : Hp)
    (c_X4_growFrom : ∀ (b1 : Int) (h : Hp), p_X4_growFrom b1 h → Ct l yX4_growFrom cX4_growFrom 3 none 2 48 0 [vr 3, vi b1] h [3, 15, 16, 17, 18, 19] (fun _ h1 => q_X4_growFrom b1 h h1) (fun _ => False))
    (o_2 : ∀ (n_2 : Nat) (h : Hp) (x1 : Int), RH h → Fr [3, 15, 16, 17, 18, 19] h0 h → InR x1 → I_2 n_2 h x1 → V_X4_survey_2 P p_X4_growFrom q_X4_growFrom I_2 I_33 n_2 h x1)
    (o_33 : ∀ (n_33 : Nat) (h : Hp) (x1 : Int), RH h → Fr [3, 15, 16, 17, 18, 19] h0 h → InR x1 → I_33 n_33 h x1 → V_X4_survey_33 P p_X4_growFrom q_X4_growFrom I_2 I_33 n_33 h x1)
    (o : RH h0 → V_X4_survey P p_X4_growFrom q_X4_growFrom I_2 I_33 h0) :
    Ct l yX4_survey cX4_survey 2 none 3 70 0 [vr 3] h0 [3, 15, 16, 17, 18, 19] P (fun _ => False) := by
  refine Ct.of (own := RX4) (by decide) rfl (Nat.le_of_ble_eq_true rfl) ?_
  intro X C hXl hXM hXh hXP hXX hXc hXr hav hR0
  have hmain : V_X4_survey P p_X4_growFrom q_X4_growFrom I_2 I_33 h0 := o hR0 
  have B_33 : ∀ (n_33 : Nat) (h : Hp) (x1 : Int), I_33 n_33 h x1 → Wh X 33 [(0, vr 3), (1, vi x1)] [] h 0 := by
    intro n_33
    induction n_33 using Nat.strongRecOn with
    | _ n_33 ih_33 =>
      intro h x1 hI
      refine s_use fun hR hF hL => ?_
      have v := o_33 n_33 h x1 hR (by rw [hXM, hXh] at hF; exact hF) (hL (1, vi x1) (by simp)) hI
      unfold V_X4_survey_33 at v
      have B_69 : ∀ (h : Hp) (x1 : Int), V_X4_survey_69 P p_X4_growFrom q_X4_growFrom I_2 I_33 n_33 h x1 → Wh X 69 [(0, vr 3), (1, vi x1)] [] h 0 := by
        intro h x1 v
        unfold V_X4_survey_69 at v
        obtain ⟨o2, v⟩ := v
        refine s_iinc 1 C dX4_survey_69 rfl (by decide) o2 (fun z1 ez1 => ?_)
        have v := v z1 ez1
        show Wh X 72 [(1, vi z1), (0, vr 3)] [] h 0
        refine r_goto (tgt := 33) C dX4_survey_72 (by decide) ?_
        obtain ⟨n', hn', hI'⟩ := v
        exact s_sub [1, 0] rfl (ih_33 n' hn' _ _ hI')
      refine r_iload_n 1 C dX4_survey_33 rfl ?_
      refine r_aload_n 0 C dX4_survey_34 rfl ?_
      refine gf_X4_34 C dX4_survey_35 ?_
      refine gf_X4_38 C dX4_survey_38 ?_
      refine r_icmp_ge (tgt := 75) C dX4_survey_41 (by decide) (fun c3 => ?_) (fun c3 => ?_)
      · have v := v.1 c3
        exact r_return C dX4_survey_75 hXr (Nat.zero_le _) (by rw [hXP]; exact v)
      · have v := v.2 c3
        refine r_aload_n 0 C dX4_survey_44 rfl ?_
        refine gf_X4_21 C dX4_survey_45 ?_
        refine r_iload_n 1 C dX4_survey_48 rfl ?_
        obtain ⟨o4, v⟩ := v
        refine r_iaload (r := 18) (N := 30) C dX4_survey_49 rfl o4 ?_
        refine r_iconst C dX4_survey_50 ⟨by decide, by decide⟩ ?_
        refine r_icmp_ne (tgt := 69) C dX4_survey_51 (by decide) (fun c5 => ?_) (fun c5 => ?_)
        · have v := v.1 c5
          exact s_sub [0, 1] rfl (B_69 _ _ v)
        · have v := v.2 c5
          refine r_aload_n 0 C dX4_survey_54 rfl ?_
          refine r_iload_n 1 C dX4_survey_55 rfl ?_
          obtain ⟨o6, v⟩ := v
          refine s_callv [x1] [] C dX4_survey_56 ck_X4_43 (r := 3) (fY := 2) (nY := 48) rfl rfl (by decide) (by decide) (Nat.le_of_ble_eq_true rfl) rfl (MY := [3, 15, 16, 17, 18, 19]) hXM (by decide) (by rw [hXl]; exact c_X4_growFrom x1 h o6) (fun h7 fh7 kh7 qh7 => ?_)
          have v := v h7 fh7 kh7 qh7
          refine r_aload_n 0 C dX4_survey_59 rfl ?_
          refine r_dup C dX4_survey_60 trivial ?_
          refine gf_X4_31 C dX4_survey_61 ?_
          refine r_iconst C dX4_survey_64 ⟨by decide, by decide⟩ ?_
          obtain ⟨o8, v⟩ := v
          refine r_iadd C dX4_survey_65 o8 ?_
          refine pf_X4_31 C dX4_survey_66 hXM (by decide) (fun h9 eh9 => ?_)
          have v := v h9 eh9
          exact s_sub [0, 1] rfl (B_69 _ _ v)
  have B_2 : ∀ (n_2 : Nat) (h : Hp) (x1 : Int), I_2 n_2 h x1 → Wh X 2 [(0, vr 3), (1, vi x1)] [] h 0 := by
    intro n_2
    induction n_2 using Nat.strongRecOn with
    | _ n_2 ih_2 =>
      intro h x1 hI
      refine s_use fun hR hF hL => ?_
      have v := o_2 n_2 h x1 hR (by rw [hXM, hXh] at hF; exact hF) (hL (1, vi x1) (by simp)) hI
      unfold V_X4_survey_2 at v
      refine r_iload_n 1 C dX4_survey_2 rfl ?_
      refine r_aload_n 0 C dX4_survey_3 rfl ?_
      refine gf_X4_34 C dX4_survey_4 ?_
      refine gf_X4_38 C dX4_survey_7 ?_
      refine r_icmp_ge (tgt := 26) C dX4_survey_10 (by decide) (fun c10 => ?_) (fun c10 => ?_)
      · have v := v.1 c10
        refine r_aload_n 0 C dX4_survey_26 rfl ?_
        refine r_iconst C dX4_survey_27 ⟨by decide, by decide⟩ ?_
        refine pf_X4_31 C dX4_survey_28 hXM (by decide) (fun h11 eh11 => ?_)
        have v := v h11 eh11
        refine r_iconst C dX4_survey_31 ⟨by decide, by decide⟩ ?_
        refine s_istore_n C dX4_survey_32 (by decide) (fun z12 ez12 => ?_)
        have v := v z12 ez12
        show Wh X 33 [(1, vi z12), (0, vr 3)] [] h11 0
        obtain ⟨n', hI'⟩ := v
        exact s_sub [1, 0] rfl (B_33 n' _ _ hI')
      · have v := v.2 c10
        refine r_aload_n 0 C dX4_survey_13 rfl ?_
        refine gf_X4_21 C dX4_survey_14 ?_
        refine r_iload_n 1 C dX4_survey_17 rfl ?_
        refine r_iconst C dX4_survey_18 ⟨by decide, by decide⟩ ?_
        obtain ⟨o13, v⟩ := v
        refine s_iastore (r := 18) (N := 30) C dX4_survey_19 rfl hXM (by decide) o13 (fun h14 eh14 => ?_)
        have v := v h14 eh14
        obtain ⟨o16, v⟩ := v
        refine s_iinc 1 C dX4_survey_20 rfl (by decide) o16 (fun z15 ez15 => ?_)
        have v := v z15 ez15
        show Wh X 23 [(1, vi z15), (0, vr 3)] [] h14 0
        refine r_goto (tgt := 2) C dX4_survey_23 (by decide) ?_
        obtain ⟨n', hn', hI'⟩ := v
        exact s_sub [1, 0] rfl (ih_2 n' hn' _ _ hI')
  show Wh X 0 [(0, vr 3)] [] h0 0
  have v := hmain
  unfold V_X4_survey at v
  refine r_iconst C dX4_survey_0 ⟨by decide, by decide⟩ ?_
  refine s_istore_n C dX4_survey_1 (by decide) (fun z17 ez17 => ?_)
  have v := v z17 ez17
  show Wh X 2 [(1, vi z17), (0, vr 3)] [] h0 0
  obtain ⟨n', hI'⟩ := v
  exact s_sub [1, 0] rfl (B_2 n' _ _ hI')

def V_X4_growFrom_45 (P : Int → Hp → Prop) (p_X4_reach : Int → Int → Int → Int → Hp → Prop) (q_X4_reach : Int → Int → Int → Int → Hp → Hp → Prop) (p_X4_reachNeighbours : Int → Hp → Prop) (q_X4_reachNeighbours : Int → Hp → Hp → Prop) (I_15 : Nat → Hp → Int → Prop) (h : Hp) : Prop :=
  P 0 h
def V_X4_growFrom_15 (P : Int → Hp → Prop) (p_X4_reach : Int → Int → Int → Int → Hp → Prop) (q_X4_reach : Int → Int → Int → Int → Hp → Hp → Prop) (p_X4_reachNeighbours : Int → Hp → Prop) (q_X4_reachNeighbours : Int → Hp → Hp → Prop) (I_15 : Nat → Hp → Int → Prop) (n_15 : Nat) (h : Hp) (x2 : Int) : Prop :=
  ((h 3 6) ≤ x2 → V_X4_growFrom_45 P p_X4_reach q_X4_reach p_X4_reachNeighbours q_X4_reachNeighbours I_15 h) ∧ (¬ (h 3 6) ≤ x2 → (30 ≤ x2 → V_X4_growFrom_45 P p_X4_reach q_X4_reach p_X4_reachNeighbours q_X4_reachNeighbours I_15 h) ∧ (¬ 30 ≤ x2 → ((0 : Int) ≤ x2 ∧ (x2 : Int) < 30) ∧ (p_X4_reachNeighbours (h 19 x2) h ∧ (∀ h5 : Hp, Fr [3, 15, 16, 17, 18, 19] h h5 → RH h5 → q_X4_reachNeighbours (h 19 x2) h h5 → (InR (x2 + 1) ∧ (∀ z6 : Int, z6 = x2 + 1 → (∃ n', n' < n_15 ∧ I_15 n' h5 z6)))))))
def V_X4_growFrom (P : Int → Hp → Prop) (p_X4_reach : Int → Int → Int → Int → Hp → Prop) (q_X4_reach : Int → Int → Int → Int → Hp → Hp → Prop) (p_X4_reachNeighbours : Int → Hp → Prop) (q_X4_reachNeighbours : Int → Hp → Hp → Prop) (I_15 : Nat → Hp → Int → Prop) (h0 : Hp) (a1 : Int) : Prop :=
  ∀ h8 : Hp, h8 = hup h0 3 6 0 → (p_X4_reach a1 (-1) (-1) 0 h8 ∧ (∀ h10 : Hp, Fr [3, 15, 16, 17, 18, 19] h8 h10 → RH h10 → q_X4_reach a1 (-1) (-1) 0 h8 h10 → (∀ z11 : Int, z11 = 0 → (∃ n', I_15 n' h10 z11))))
set_option maxHeartbeats 4000000 in
set_option maxRecDepth 100000 in
theorem w_X4_growFrom {l : Launch} (P : Int → Hp → Prop) (p_X4_reach : Int → Int → Int → Int → Hp → Prop) (q_X4_reach : Int → Int → Int → Int → Hp → Hp → Prop) (p_X4_reachNeighbours : Int → Hp → Prop) (q_X4_reachNeighbours : Int → Hp → Hp → Prop) (I_15 : Nat → Hp → Int → Prop) (h0 : Hp) (a1 : Int)
    (c_X4_reach : ∀ (b1 : Int) (b2 : Int) (b3 : Int) (b4 : Int) (h : Hp), p_X4_reach b1 b2 b3 b4 h → Ct l yX4_reach cX4_reach 5 none 0 0 0 [vr 3, vi b1, vi b2, vi b3, vi b4] h [3, 15, 16, 17, 18, 19] (fun _ h1 => q_X4_reach b1 b2 b3 b4 h h1) (fun _ => False))
    (c_X4_reachNeighbours : ∀ (b1 : Int) (h : Hp), p_X4_reachNeighbours b1 h → Ct l yX4_reachNeighbours cX4_reachNeighbours 5 none 1 24 0 [vr 3, vi b1] h [3, 15, 16, 17, 18, 19] (fun _ h1 => q_X4_reachNeighbours b1 h h1) (fun _ => False))
    (o_15 : ∀ (n_15 : Nat) (h : Hp) (x2 : Int), RH h → Fr [3, 15, 16, 17, 18, 19] h0 h → InR x2 → I_15 n_15 h x2 → V_X4_growFrom_15 P p_X4_reach q_X4_reach p_X4_reachNeighbours q_X4_reachNeighbours I_15 n_15 h x2)
    (o : RH h0 → InR a1 → V_X4_growFrom P p_X4_reach q_X4_reach p_X4_reachNeighbours q_X4_reachNeighbours I_15 h0 a1) :
    Ct l yX4_growFrom cX4_growFrom 3 none 2 48 0 [vr 3, vi a1] h0 [3, 15, 16, 17, 18, 19] P (fun _ => False) := by
  refine Ct.of (own := RX4) (by decide) rfl (Nat.le_of_ble_eq_true rfl) ?_
  intro X C hXl hXM hXh hXP hXX hXc hXr hav hR0
  have hmain : V_X4_growFrom P p_X4_reach q_X4_reach p_X4_reachNeighbours q_X4_reachNeighbours I_15 h0 a1 := o hR0 (hav (vi a1) (by simp))
  have B_45 : ∀ (h : Hp), V_X4_growFrom_45 P p_X4_reach q_X4_reach p_X4_reachNeighbours q_X4_reachNeighbours I_15 h → Wh X 45 [(0, vr 3)] [] h 0 := by
    intro h v
    unfold V_X4_growFrom_45 at v
    exact r_return C dX4_growFrom_45 hXr (Nat.zero_le _) (by rw [hXP]; exact v)
  have B_15 : ∀ (n_15 : Nat) (h : Hp) (x2 : Int), I_15 n_15 h x2 → Wh X 15 [(0, vr 3), (2, vi x2)] [] h 0 := by
    intro n_15
    induction n_15 using Nat.strongRecOn with
    | _ n_15 ih_15 =>
      intro h x2 hI
      refine s_use fun hR hF hL => ?_
      have v := o_15 n_15 h x2 hR (by rw [hXM, hXh] at hF; exact hF) (hL (2, vi x2) (by simp)) hI
      unfold V_X4_growFrom_15 at v
      refine r_iload_n 1 C dX4_growFrom_15 rfl ?_
      refine r_aload_n 0 C dX4_growFrom_16 rfl ?_
      refine gf_X4_27 C dX4_growFrom_17 ?_
      refine r_icmp_ge (tgt := 45) C dX4_growFrom_20 (by decide) (fun c1 => ?_) (fun c1 => ?_)
      · have v := v.1 c1
        exact s_sub [0] rfl (B_45 _ v)
      · have v := v.2 c1
        refine r_iload_n 1 C dX4_growFrom_23 rfl ?_
        refine r_bipush C dX4_growFrom_24 ⟨by decide, by decide⟩ (by decide) ?_
        refine r_icmp_ge (tgt := 45) C dX4_growFrom_26 (by decide) (fun c2 => ?_) (fun c2 => ?_)
        · have v := v.1 c2
          exact s_sub [0] rfl (B_45 _ v)
        · have v := v.2 c2
          refine r_aload_n 0 C dX4_growFrom_29 rfl ?_
          refine r_aload_n 0 C dX4_growFrom_30 rfl ?_
          refine gf_X4_24 C dX4_growFrom_31 ?_
          refine r_iload_n 1 C dX4_growFrom_34 rfl ?_
          obtain ⟨o3, v⟩ := v
          refine r_iaload (r := 19) (N := 30) C dX4_growFrom_35 rfl o3 ?_
          obtain ⟨o4, v⟩ := v
          refine s_callv [(h 19 x2)] [] C dX4_growFrom_36 ck_X4_51 (r := 3) (fY := 1) (nY := 24) rfl rfl (by decide) (by decide) (Nat.le_of_ble_eq_true rfl) rfl (MY := [3, 15, 16, 17, 18, 19]) hXM (by decide) (by rw [hXl]; exact c_X4_reachNeighbours (h 19 x2) h o4) (fun h5 fh5 kh5 qh5 => ?_)
          have v := v h5 fh5 kh5 qh5
          obtain ⟨o7, v⟩ := v
          refine s_iinc 1 C dX4_growFrom_39 rfl (by decide) o7 (fun z6 ez6 => ?_)
          have v := v z6 ez6
          show Wh X 42 [(2, vi z6), (0, vr 3)] [] h5 0
          refine r_goto (tgt := 15) C dX4_growFrom_42 (by decide) ?_
          obtain ⟨n', hn', hI'⟩ := v
          exact s_sub [1, 0] rfl (ih_15 n' hn' _ _ hI')
  show Wh X 0 [(0, vr 3), (1, vi a1)] [] h0 0
  have v := hmain
  unfold V_X4_growFrom at v
  refine r_aload_n 0 C dX4_growFrom_0 rfl ?_
  refine r_iconst C dX4_growFrom_1 ⟨by decide, by decide⟩ ?_
  refine pf_X4_27 C dX4_growFrom_2 hXM (by decide) (fun h8 eh8 => ?_)
  have v := v h8 eh8
  refine r_aload_n 0 C dX4_growFrom_5 rfl ?_
  refine r_iload_n 1 C dX4_growFrom_6 rfl ?_
  refine r_iconst C dX4_growFrom_7 ⟨by decide, by decide⟩ ?_
  refine r_iconst C dX4_growFrom_8 ⟨by decide, by decide⟩ ?_
  refine r_iconst C dX4_growFrom_9 ⟨by decide, by decide⟩ ?_
  obtain ⟨o9, v⟩ := v
  refine s_callv [a1, (-1), (-1), 0] [] C dX4_growFrom_10 ck_X4_47 (r := 3) (fY := 0) (nY := 0) rfl rfl (by decide) (by decide) (Nat.le_of_ble_eq_true rfl) rfl (MY := [3, 15, 16, 17, 18, 19]) hXM (by decide) (by rw [hXl]; exact c_X4_reach a1 (-1) (-1) 0 h8 o9) (fun h10 fh10 kh10 qh10 => ?_)
  have v := v h10 fh10 kh10 qh10
  refine r_iconst C dX4_growFrom_13 ⟨by decide, by decide⟩ ?_
  refine s_istore_n C dX4_growFrom_14 (by decide) (fun z11 ez11 => ?_)
  have v := v z11 ez11
  show Wh X 15 [(2, vi z11), (0, vr 3), (1, vi a1)] [] h10 0
  obtain ⟨n', hI'⟩ := v
  exact s_sub [1, 0] rfl (B_15 n' _ _ hI')

def V_X4_reachNeighbours_64 (P : Int → Hp → Prop) (p_X2_target : Int → Hp → Prop) (q_X2_target : Int → Hp → Int → Prop) (p_X4_reach : Int → Int → Int → Int → Hp → Prop) (q_X4_reach : Int → Int → Int → Int → Hp → Hp → Prop) (I_12 : Nat → Hp → Int → Int → Int → Prop) (n_12 : Nat) (h : Hp) (x1 : Int) (x2 : Int) (x3 : Int) : Prop :=
  ((0 : Int) ≤ x2 ∧ (x2 : Int) < 200) ∧ (∀ z2 : Int, z2 = (h 7 x2) → (InR (x3 + 1) ∧ (∀ z3 : Int, z3 = x3 + 1 → (∃ n', n' < n_12 ∧ I_12 n' h x1 z2 z3))))
def V_X4_reachNeighbours_12 (P : Int → Hp → Prop) (p_X2_target : Int → Hp → Prop) (q_X2_target : Int → Hp → Int → Prop) (p_X4_reach : Int → Int → Int → Int → Hp → Prop) (q_X4_reach : Int → Int → Int → Int → Hp → Hp → Prop) (I_12 : Nat → Hp → Int → Int → Int → Prop) (n_12 : Nat) (h : Hp) (x1 : Int) (x2 : Int) (x3 : Int) : Prop :=
  ((0 : Int) ≤ x1 ∧ (x1 : Int) < 30) ∧ (((h 11 x1) ≤ x3 → P 0 h) ∧ (¬ (h 11 x1) ≤ x3 → p_X2_target x2 h ∧ (∀ r8 : Int, InR r8 → q_X2_target x2 h r8 → (∀ z9 : Int, z9 = r8 → (((0 : Int) ≤ z9 ∧ (z9 : Int) < 30) ∧ ((¬ (h 18 z9) = (-1) → V_X4_reachNeighbours_64 P p_X2_target q_X2_target p_X4_reach q_X4_reach I_12 n_12 h x1 x2 x3) ∧ ((h 18 z9) = (-1) → ((0 : Int) < 2 ∧ InR (x2.tdiv 2)) ∧ (((0 : Int) ≤ x1 ∧ (x1 : Int) < 30) ∧ (InR ((h 17 x1) + 1) ∧ (p_X4_reach z9 x1 (x2.tdiv 2) ((h 17 x1) + 1) h ∧ (∀ h16 : Hp, Fr [3, 15, 16, 17, 18, 19] h h16 → RH h16 → q_X4_reach z9 x1 (x2.tdiv 2) ((h 17 x1) + 1) h h16 → (V_X4_reachNeighbours_64 P p_X2_target q_X2_target p_X4_reach q_X4_reach I_12 n_12 h16 x1 x2 x3))))))))))))
def V_X4_reachNeighbours (P : Int → Hp → Prop) (p_X2_target : Int → Hp → Prop) (q_X2_target : Int → Hp → Int → Prop) (p_X4_reach : Int → Int → Int → Int → Hp → Prop) (q_X4_reach : Int → Int → Int → Int → Hp → Hp → Prop) (I_12 : Nat → Hp → Int → Int → Int → Prop) (h0 : Hp) (a1 : Int) : Prop :=
  ((0 : Int) ≤ a1 ∧ (a1 : Int) < 30) ∧ (∀ z18 : Int, z18 = (h0 10 a1) → (∀ z19 : Int, z19 = 0 → (∃ n', I_12 n' h0 a1 z18 z19)))
set_option maxHeartbeats 4000000 in
set_option maxRecDepth 100000 in
theorem w_X4_reachNeighbours {l : Launch} (P : Int → Hp → Prop) (p_X2_target : Int → Hp → Prop) (q_X2_target : Int → Hp → Int → Prop) (p_X4_reach : Int → Int → Int → Int → Hp → Prop) (q_X4_reach : Int → Int → Int → Int → Hp → Hp → Prop) (I_12 : Nat → Hp → Int → Int → Int → Prop) (h0 : Hp) (a1 : Int)
    (c_X2_target : ∀ (b1 : Int) (h : Hp), p_X2_target b1 h → Ct l yX2_target cX2_target 2 (some .int) 0 0 0 [vr 1, vi b1] h [] (fun r _ => q_X2_target b1 h r) (fun _ => False))
    (c_X4_reach : ∀ (b1 : Int) (b2 : Int) (b3 : Int) (b4 : Int) (h : Hp), p_X4_reach b1 b2 b3 b4 h → Ct l yX4_reach cX4_reach 5 none 0 0 0 [vr 3, vi b1, vi b2, vi b3, vi b4] h [3, 15, 16, 17, 18, 19] (fun _ h1 => q_X4_reach b1 b2 b3 b4 h h1) (fun _ => False))
    (o_12 : ∀ (n_12 : Nat) (h : Hp) (x1 : Int) (x2 : Int) (x3 : Int), RH h → Fr [3, 15, 16, 17, 18, 19] h0 h → InR x1 → InR x2 → InR x3 → I_12 n_12 h x1 x2 x3 → V_X4_reachNeighbours_12 P p_X2_target q_X2_target p_X4_reach q_X4_reach I_12 n_12 h x1 x2 x3)
    (o : RH h0 → InR a1 → V_X4_reachNeighbours P p_X2_target q_X2_target p_X4_reach q_X4_reach I_12 h0 a1) :
    Ct l yX4_reachNeighbours cX4_reachNeighbours 5 none 1 24 0 [vr 3, vi a1] h0 [3, 15, 16, 17, 18, 19] P (fun _ => False) := by
  refine Ct.of (own := RX4) (by decide) rfl (Nat.le_of_ble_eq_true rfl) ?_
  intro X C hXl hXM hXh hXP hXX hXc hXr hav hR0
  have hmain : V_X4_reachNeighbours P p_X2_target q_X2_target p_X4_reach q_X4_reach I_12 h0 a1 := o hR0 (hav (vi a1) (by simp))
  have B_12 : ∀ (n_12 : Nat) (h : Hp) (x1 : Int) (x2 : Int) (x3 : Int), I_12 n_12 h x1 x2 x3 → Wh X 12 [(0, vr 3), (1, vi x1), (2, vi x2), (3, vi x3)] [] h 0 := by
    intro n_12
    induction n_12 using Nat.strongRecOn with
    | _ n_12 ih_12 =>
      intro h x1 x2 x3 hI
      refine s_use fun hR hF hL => ?_
      have v := o_12 n_12 h x1 x2 x3 hR (by rw [hXM, hXh] at hF; exact hF) (hL (1, vi x1) (by simp)) (hL (2, vi x2) (by simp)) (hL (3, vi x3) (by simp)) hI
      unfold V_X4_reachNeighbours_12 at v
      have B_64 : ∀ (h : Hp) (x1 : Int) (x2 : Int) (x3 : Int), V_X4_reachNeighbours_64 P p_X2_target q_X2_target p_X4_reach q_X4_reach I_12 n_12 h x1 x2 x3 → Wh X 64 [(0, vr 3), (1, vi x1), (2, vi x2), (3, vi x3)] [] h 0 := by
        intro h x1 x2 x3 v
        unfold V_X4_reachNeighbours_64 at v
        refine r_aload_n 0 C dX4_reachNeighbours_64 rfl ?_
        refine gf_X4_34 C dX4_reachNeighbours_65 ?_
        refine gf_X4_64 C dX4_reachNeighbours_68 ?_
        refine r_iload_n 2 C dX4_reachNeighbours_71 rfl ?_
        obtain ⟨o1, v⟩ := v
        refine r_iaload (r := 7) (N := 200) C dX4_reachNeighbours_72 rfl o1 ?_
        refine s_istore_n C dX4_reachNeighbours_73 (by decide) (fun z2 ez2 => ?_)
        have v := v z2 ez2
        show Wh X 74 [(2, vi z2), (0, vr 3), (1, vi x1), (3, vi x3)] [] h 0
        obtain ⟨o4, v⟩ := v
        refine s_iinc 3 C dX4_reachNeighbours_74 rfl (by decide) o4 (fun z3 ez3 => ?_)
        have v := v z3 ez3
        show Wh X 77 [(3, vi z3), (2, vi z2), (0, vr 3), (1, vi x1)] [] h 0
        refine r_goto (tgt := 12) C dX4_reachNeighbours_77 (by decide) ?_
        obtain ⟨n', hn', hI'⟩ := v
        exact s_sub [2, 3, 1, 0] rfl (ih_12 n' hn' _ _ _ _ hI')
      refine r_iload_n 3 C dX4_reachNeighbours_12 rfl ?_
      refine r_aload_n 0 C dX4_reachNeighbours_13 rfl ?_
      refine gf_X4_34 C dX4_reachNeighbours_14 ?_
      refine gf_X4_57 C dX4_reachNeighbours_17 ?_
      refine r_iload_n 1 C dX4_reachNeighbours_20 rfl ?_
      obtain ⟨o5, v⟩ := v
      refine r_iaload (r := 11) (N := 30) C dX4_reachNeighbours_21 rfl o5 ?_
      refine r_icmp_ge (tgt := 80) C dX4_reachNeighbours_22 (by decide) (fun c6 => ?_) (fun c6 => ?_)
      · have v := v.1 c6
        exact r_return C dX4_reachNeighbours_80 hXr (Nat.zero_le _) (by rw [hXP]; exact v)
      · have v := v.2 c6
        refine r_aload_n 0 C dX4_reachNeighbours_25 rfl ?_
        refine gf_X4_34 C dX4_reachNeighbours_26 ?_
        refine r_iload_n 2 C dX4_reachNeighbours_29 rfl ?_
        obtain ⟨o7, v⟩ := v
        refine s_calli0 [x2] [] C dX4_reachNeighbours_30 ck_X4_60 (r := 1) (fY := 0) (nY := 0) rfl rfl (by decide) (by decide) (Nat.le_of_ble_eq_true rfl) rfl (by rw [hXl]; exact c_X2_target x2 h o7) (fun r8 gr8 qr8 => ?_)
        have v := v r8 gr8 qr8
        refine s_istore C dX4_reachNeighbours_33 (by decide) (fun z9 ez9 => ?_)
        have v := v z9 ez9
        show Wh X 35 [(4, vi z9), (0, vr 3), (1, vi x1), (2, vi x2), (3, vi x3)] [] h 0
        refine r_aload_n 1 C dX4_reachNeighbours_35 rfl ?_
        refine gf_X4_21 C dX4_reachNeighbours_36 ?_
        refine r_iload 0 C dX4_reachNeighbours_39 rfl ?_
        obtain ⟨o10, v⟩ := v
        refine r_iaload (r := 18) (N := 30) C dX4_reachNeighbours_41 rfl o10 ?_
        refine r_iconst C dX4_reachNeighbours_42 ⟨by decide, by decide⟩ ?_
        refine r_icmp_ne (tgt := 64) C dX4_reachNeighbours_43 (by decide) (fun c11 => ?_) (fun c11 => ?_)
        · have v := v.1 c11
          exact s_sub [1, 2, 3, 4] rfl (B_64 _ _ _ _ v)
        · have v := v.2 c11
          refine r_aload_n 1 C dX4_reachNeighbours_46 rfl ?_
          refine r_iload 0 C dX4_reachNeighbours_47 rfl ?_
          refine r_iload_n 2 C dX4_reachNeighbours_49 rfl ?_
          refine r_iload_n 3 C dX4_reachNeighbours_50 rfl ?_
          refine r_iconst C dX4_reachNeighbours_51 ⟨by decide, by decide⟩ ?_
          obtain ⟨o12, v⟩ := v
          refine r_idiv C dX4_reachNeighbours_52 o12 ?_
          refine r_aload_n 1 C dX4_reachNeighbours_53 rfl ?_
          refine gf_X4_18 C dX4_reachNeighbours_54 ?_
          refine r_iload_n 2 C dX4_reachNeighbours_57 rfl ?_
          obtain ⟨o13, v⟩ := v
          refine r_iaload (r := 17) (N := 30) C dX4_reachNeighbours_58 rfl o13 ?_
          refine r_iconst C dX4_reachNeighbours_59 ⟨by decide, by decide⟩ ?_
          obtain ⟨o14, v⟩ := v
          refine r_iadd C dX4_reachNeighbours_60 o14 ?_
          obtain ⟨o15, v⟩ := v
          refine s_callv [z9, x1, (x2.tdiv 2), ((h 17 x1) + 1)] [] C dX4_reachNeighbours_61 ck_X4_47 (r := 3) (fY := 0) (nY := 0) rfl rfl (by decide) (by decide) (Nat.le_of_ble_eq_true rfl) rfl (MY := [3, 15, 16, 17, 18, 19]) hXM (by decide) (by rw [hXl]; exact c_X4_reach z9 x1 (x2.tdiv 2) ((h 17 x1) + 1) h o15) (fun h16 fh16 kh16 qh16 => ?_)
          have v := v h16 fh16 kh16 qh16
          exact s_sub [1, 2, 3, 4] rfl (B_64 _ _ _ _ v)
  show Wh X 0 [(0, vr 3), (1, vi a1)] [] h0 0
  have v := hmain
  unfold V_X4_reachNeighbours at v
  refine r_aload_n 0 C dX4_reachNeighbours_0 rfl ?_
  refine gf_X4_34 C dX4_reachNeighbours_1 ?_
  refine gf_X4_54 C dX4_reachNeighbours_4 ?_
  refine r_iload_n 1 C dX4_reachNeighbours_7 rfl ?_
  obtain ⟨o17, v⟩ := v
  refine r_iaload (r := 10) (N := 30) C dX4_reachNeighbours_8 rfl o17 ?_
  refine s_istore_n C dX4_reachNeighbours_9 (by decide) (fun z18 ez18 => ?_)
  have v := v z18 ez18
  show Wh X 10 [(2, vi z18), (0, vr 3), (1, vi a1)] [] h0 0
  refine r_iconst C dX4_reachNeighbours_10 ⟨by decide, by decide⟩ ?_
  refine s_istore_n C dX4_reachNeighbours_11 (by decide) (fun z19 ez19 => ?_)
  have v := v z19 ez19
  show Wh X 12 [(3, vi z19), (2, vi z18), (0, vr 3), (1, vi a1)] [] h0 0
  obtain ⟨n', hI'⟩ := v
  exact s_sub [2, 3, 1, 0] rfl (B_12 n' _ _ _ _ hI')

def V_X4_reach (P : Int → Hp → Prop) (h0 : Hp) (a1 : Int) (a2 : Int) (a3 : Int) (a4 : Int) : Prop :=
  ((0 : Int) ≤ a1 ∧ (a1 : Int) < 30) ∧ (∀ h2 : Hp, h2 = hup h0 15 a1 a2 → (((0 : Int) ≤ a1 ∧ (a1 : Int) < 30) ∧ (∀ h4 : Hp, h4 = hup h2 16 a1 a3 → (((0 : Int) ≤ a1 ∧ (a1 : Int) < 30) ∧ (∀ h6 : Hp, h6 = hup h4 17 a1 a4 → (((0 : Int) ≤ a1 ∧ (a1 : Int) < 30) ∧ (∀ h8 : Hp, h8 = hup h6 18 a1 (h6 3 7) → (((0 : Int) ≤ (h8 3 6) ∧ ((h8 3 6) : Int) < 30) ∧ (∀ h10 : Hp, h10 = hup h8 19 (h8 3 6) a1 → (InR ((h10 3 6) + 1) ∧ (∀ h12 : Hp, h12 = hup h10 3 6 ((h10 3 6) + 1) → (P 0 h12))))))))))))
set_option maxHeartbeats 4000000 in
set_option maxRecDepth 100000 in
theorem w_X4_reach {l : Launch} (P : Int → Hp → Prop) (h0 : Hp) (a1 : Int) (a2 : Int) (a3 : Int) (a4 : Int)
    (o : RH h0 → InR a1 → InR a2 → InR a3 → InR a4 → V_X4_reach P h0 a1 a2 a3 a4) :
    Ct l yX4_reach cX4_reach 5 none 0 0 0 [vr 3, vi a1, vi a2, vi a3, vi a4] h0 [3, 15, 16, 17, 18, 19] P (fun _ => False) := by
  refine Ct.of (own := RX4) (by decide) rfl (Nat.le_of_ble_eq_true rfl) ?_
  intro X C hXl hXM hXh hXP hXX hXc hXr hav hR0
  have hmain : V_X4_reach P h0 a1 a2 a3 a4 := o hR0 (hav (vi a1) (by simp)) (hav (vi a2) (by simp)) (hav (vi a3) (by simp)) (hav (vi a4) (by simp))
  show Wh X 0 [(0, vr 3), (1, vi a1), (2, vi a2), (3, vi a3), (4, vi a4)] [] h0 0
  have v := hmain
  unfold V_X4_reach at v
  refine r_aload_n 0 C dX4_reach_0 rfl ?_
  refine gf_X4_9 C dX4_reach_1 ?_
  refine r_iload_n 1 C dX4_reach_4 rfl ?_
  refine r_iload_n 2 C dX4_reach_5 rfl ?_
  obtain ⟨o1, v⟩ := v
  refine s_iastore (r := 15) (N := 30) C dX4_reach_6 rfl hXM (by decide) o1 (fun h2 eh2 => ?_)
  have v := v h2 eh2
  refine r_aload_n 0 C dX4_reach_7 rfl ?_
  refine gf_X4_15 C dX4_reach_8 ?_
  refine r_iload_n 1 C dX4_reach_11 rfl ?_
  refine r_iload_n 3 C dX4_reach_12 rfl ?_
  obtain ⟨o3, v⟩ := v
  refine s_iastore (r := 16) (N := 30) C dX4_reach_13 rfl hXM (by decide) o3 (fun h4 eh4 => ?_)
  have v := v h4 eh4
  refine r_aload_n 0 C dX4_reach_14 rfl ?_
  refine gf_X4_18 C dX4_reach_15 ?_
  refine r_iload_n 1 C dX4_reach_18 rfl ?_
  refine r_iload 4 C dX4_reach_19 rfl ?_
  obtain ⟨o5, v⟩ := v
  refine s_iastore (r := 17) (N := 30) C dX4_reach_21 rfl hXM (by decide) o5 (fun h6 eh6 => ?_)
  have v := v h6 eh6
  refine r_aload_n 0 C dX4_reach_22 rfl ?_
  refine gf_X4_21 C dX4_reach_23 ?_
  refine r_iload_n 1 C dX4_reach_26 rfl ?_
  refine r_aload_n 0 C dX4_reach_27 rfl ?_
  refine gf_X4_31 C dX4_reach_28 ?_
  obtain ⟨o7, v⟩ := v
  refine s_iastore (r := 18) (N := 30) C dX4_reach_31 rfl hXM (by decide) o7 (fun h8 eh8 => ?_)
  have v := v h8 eh8
  refine r_aload_n 0 C dX4_reach_32 rfl ?_
  refine gf_X4_24 C dX4_reach_33 ?_
  refine r_aload_n 0 C dX4_reach_36 rfl ?_
  refine gf_X4_27 C dX4_reach_37 ?_
  refine r_iload_n 1 C dX4_reach_40 rfl ?_
  obtain ⟨o9, v⟩ := v
  refine s_iastore (r := 19) (N := 30) C dX4_reach_41 rfl hXM (by decide) o9 (fun h10 eh10 => ?_)
  have v := v h10 eh10
  refine r_aload_n 0 C dX4_reach_42 rfl ?_
  refine r_dup C dX4_reach_43 trivial ?_
  refine gf_X4_27 C dX4_reach_44 ?_
  refine r_iconst C dX4_reach_47 ⟨by decide, by decide⟩ ?_
  obtain ⟨o11, v⟩ := v
  refine r_iadd C dX4_reach_48 o11 ?_
  refine pf_X4_27 C dX4_reach_49 hXM (by decide) (fun h12 eh12 => ?_)
  have v := v h12 eh12
  exact r_return C dX4_reach_52 hXr (Nat.zero_le _) (by rw [hXP]; exact v)

def V_X4_holds_47 (P : Int → Hp → Prop) (h : Hp) (y0 : Int) : Prop :=
  (y0 = 0 ∨ y0 = 1) ∧ P y0 h
def V_X4_holds_42 (P : Int → Hp → Prop) (h : Hp) : Prop :=
  V_X4_holds_47 P h 1
def V_X4_holds (P : Int → Hp → Prop) (h0 : Hp) (a1 : Int) : Prop :=
  InR (2 * a1) ∧ (((0 : Int) ≤ (2 * a1) ∧ ((2 * a1) : Int) < 200) ∧ (((0 : Int) ≤ (h0 6 (2 * a1)) ∧ ((h0 6 (2 * a1)) : Int) < 30) ∧ (((h0 16 (h0 6 (2 * a1))) = a1 → V_X4_holds_42 P h0) ∧ (¬ (h0 16 (h0 6 (2 * a1))) = a1 → InR (2 * a1) ∧ (InR ((2 * a1) + 1) ∧ (((0 : Int) ≤ ((2 * a1) + 1) ∧ (((2 * a1) + 1) : Int) < 200) ∧ (((0 : Int) ≤ (h0 6 ((2 * a1) + 1)) ∧ ((h0 6 ((2 * a1) + 1)) : Int) < 30) ∧ ((¬ (h0 16 (h0 6 ((2 * a1) + 1))) = a1 → V_X4_holds_47 P h0 0) ∧ ((h0 16 (h0 6 ((2 * a1) + 1))) = a1 → V_X4_holds_42 P h0)))))))))
set_option maxHeartbeats 4000000 in
set_option maxRecDepth 100000 in
theorem w_X4_holds {l : Launch} (P : Int → Hp → Prop) (h0 : Hp) (a1 : Int)
    (o : RH h0 → InR a1 → V_X4_holds P h0 a1) :
    Ct l yX4_holds cX4_holds 2 (some .boolean) 0 0 0 [vr 3, vi a1] h0 [] P (fun _ => False) := by
  refine Ct.of (own := RX4) (by decide) rfl (Nat.le_of_ble_eq_true rfl) ?_
  intro X C hXl hXM hXh hXP hXX hXc hXr hav hR0
  have hmain : V_X4_holds P h0 a1 := o hR0 (hav (vi a1) (by simp))
  have B_47 : ∀ (h : Hp) (y0 : Int), V_X4_holds_47 P h y0 → Wh X 47 [(0, vr 3)] [vi y0] h 0 := by
    intro h y0 v
    unfold V_X4_holds_47 at v
    exact r_zreturn C dX4_holds_47 hXr (Nat.zero_le _) v.1 (by rw [hXP]; exact v.2)
  have B_42 : ∀ (h : Hp), V_X4_holds_42 P h → Wh X 42 [(0, vr 3)] [] h 0 := by
    intro h v
    unfold V_X4_holds_42 at v
    refine r_iconst C dX4_holds_42 ⟨by decide, by decide⟩ ?_
    refine r_goto (tgt := 47) C dX4_holds_43 (by decide) ?_
    exact s_sub [0] rfl (B_47 _ _ v)
  show Wh X 0 [(0, vr 3), (1, vi a1)] [] h0 0
  have v := hmain
  unfold V_X4_holds at v
  refine r_aload_n 0 C dX4_holds_0 rfl ?_
  refine gf_X4_15 C dX4_holds_1 ?_
  refine r_aload_n 0 C dX4_holds_4 rfl ?_
  refine gf_X4_34 C dX4_holds_5 ?_
  refine gf_X4_67 C dX4_holds_8 ?_
  refine r_iconst C dX4_holds_11 ⟨by decide, by decide⟩ ?_
  refine r_iload_n 1 C dX4_holds_12 rfl ?_
  obtain ⟨o1, v⟩ := v
  refine r_imul C dX4_holds_13 o1 ?_
  obtain ⟨o2, v⟩ := v
  refine r_iaload (r := 6) (N := 200) C dX4_holds_14 rfl o2 ?_
  obtain ⟨o3, v⟩ := v
  refine r_iaload (r := 16) (N := 30) C dX4_holds_15 rfl o3 ?_
  refine r_iload_n 1 C dX4_holds_16 rfl ?_
  refine r_icmp_eq (tgt := 42) C dX4_holds_17 (by decide) (fun c4 => ?_) (fun c4 => ?_)
  · have v := v.1 c4
    exact s_sub [0] rfl (B_42 _ v)
  · have v := v.2 c4
    refine r_aload_n 0 C dX4_holds_20 rfl ?_
    refine gf_X4_15 C dX4_holds_21 ?_
    refine r_aload_n 0 C dX4_holds_24 rfl ?_
    refine gf_X4_34 C dX4_holds_25 ?_
    refine gf_X4_67 C dX4_holds_28 ?_
    refine r_iconst C dX4_holds_31 ⟨by decide, by decide⟩ ?_
    refine r_iload_n 1 C dX4_holds_32 rfl ?_
    obtain ⟨o5, v⟩ := v
    refine r_imul C dX4_holds_33 o5 ?_
    refine r_iconst C dX4_holds_34 ⟨by decide, by decide⟩ ?_
    obtain ⟨o6, v⟩ := v
    refine r_iadd C dX4_holds_35 o6 ?_
    obtain ⟨o7, v⟩ := v
    refine r_iaload (r := 6) (N := 200) C dX4_holds_36 rfl o7 ?_
    obtain ⟨o8, v⟩ := v
    refine r_iaload (r := 16) (N := 30) C dX4_holds_37 rfl o8 ?_
    refine r_iload_n 1 C dX4_holds_38 rfl ?_
    refine r_icmp_ne (tgt := 46) C dX4_holds_39 (by decide) (fun c9 => ?_) (fun c9 => ?_)
    · have v := v.1 c9
      refine r_iconst C dX4_holds_46 ⟨by decide, by decide⟩ ?_
      exact s_sub [0] rfl (B_47 _ _ v)
    · have v := v.2 c9
      exact s_sub [0] rfl (B_42 _ v)


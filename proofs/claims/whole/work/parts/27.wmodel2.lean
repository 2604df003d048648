def V_X6_findFaces_104 (P : Int → Hp → Prop) (p_X6_nextSide : Int → Hp → Prop) (q_X6_nextSide : Int → Hp → Int → Prop) (I_7 : Nat → Hp → Int → Prop) (I_32 : Nat → Hp → Int → Prop) (I_65 : Nat → Nat → Hp → Int → Int → Prop) (n_32 : Nat) (h : Hp) (x1 : Int) : Prop :=
  InR (x1 + 1) ∧ (∀ z1 : Int, z1 = x1 + 1 → (∃ n', n' < n_32 ∧ I_32 n' h z1))
def V_X6_findFaces_65 (P : Int → Hp → Prop) (p_X6_nextSide : Int → Hp → Prop) (q_X6_nextSide : Int → Hp → Int → Prop) (I_7 : Nat → Hp → Int → Prop) (I_32 : Nat → Hp → Int → Prop) (I_65 : Nat → Nat → Hp → Int → Int → Prop) (n_32 : Nat) (n_65 : Nat) (h : Hp) (x1 : Int) (x2 : Int) : Prop :=
  ((0 : Int) ≤ x2 ∧ (x2 : Int) < 200) ∧ ((¬ (h 37 x2) = (-1) → InR ((h 30 12) + 1) ∧ (∀ h6 : Hp, h6 = hup h 30 12 ((h 30 12) + 1) → (V_X6_findFaces_104 P p_X6_nextSide q_X6_nextSide I_7 I_32 I_65 n_32 h6 x1))) ∧ ((h 37 x2) = (-1) → ((0 : Int) ≤ x2 ∧ (x2 : Int) < 200) ∧ (∀ h8 : Hp, h8 = hup h 37 x2 (h 30 12) → (p_X6_nextSide x2 h8 ∧ (∀ r10 : Int, InR r10 → q_X6_nextSide x2 h8 r10 → (∀ z11 : Int, z11 = r10 → (∃ n', n' < n_65 ∧ I_65 n_32 n' h8 x1 z11)))))))
def V_X6_findFaces_32 (P : Int → Hp → Prop) (p_X6_nextSide : Int → Hp → Prop) (q_X6_nextSide : Int → Hp → Int → Prop) (I_7 : Nat → Hp → Int → Prop) (I_32 : Nat → Hp → Int → Prop) (I_65 : Nat → Nat → Hp → Int → Int → Prop) (n_32 : Nat) (h : Hp) (x1 : Int) : Prop :=
  InR (2 * (h 30 2)) ∧ (((2 * (h 30 2)) ≤ x1 → P 0 h) ∧ (¬ (2 * (h 30 2)) ≤ x1 → ((0 : Int) < 2 ∧ InR (x1.tdiv 2)) ∧ (((0 : Int) ≤ (x1.tdiv 2) ∧ ((x1.tdiv 2) : Int) < 100) ∧ ((¬ (h 33 (x1.tdiv 2)) = 0 → V_X6_findFaces_104 P p_X6_nextSide q_X6_nextSide I_7 I_32 I_65 n_32 h x1) ∧ ((h 33 (x1.tdiv 2)) = 0 → ((0 : Int) ≤ x1 ∧ (x1 : Int) < 200) ∧ ((¬ (h 37 x1) = (-1) → V_X6_findFaces_104 P p_X6_nextSide q_X6_nextSide I_7 I_32 I_65 n_32 h x1) ∧ ((h 37 x1) = (-1) → ∀ z19 : Int, z19 = x1 → (∃ n', I_65 n_32 n' h x1 z19))))))))
def V_X6_findFaces_7 (P : Int → Hp → Prop) (p_X6_nextSide : Int → Hp → Prop) (q_X6_nextSide : Int → Hp → Int → Prop) (I_7 : Nat → Hp → Int → Prop) (I_32 : Nat → Hp → Int → Prop) (I_65 : Nat → Nat → Hp → Int → Int → Prop) (n_7 : Nat) (h : Hp) (x1 : Int) : Prop :=
  InR (2 * (h 30 2)) ∧ (((2 * (h 30 2)) ≤ x1 → ∀ z22 : Int, z22 = 0 → (∃ n', I_32 n' h z22)) ∧ (¬ (2 * (h 30 2)) ≤ x1 → ((0 : Int) ≤ x1 ∧ (x1 : Int) < 200) ∧ (∀ h24 : Hp, h24 = hup h 37 x1 (-1) → (InR (x1 + 1) ∧ (∀ z25 : Int, z25 = x1 + 1 → (∃ n', n' < n_7 ∧ I_7 n' h24 z25))))))
def V_X6_findFaces (P : Int → Hp → Prop) (p_X6_nextSide : Int → Hp → Prop) (q_X6_nextSide : Int → Hp → Int → Prop) (I_7 : Nat → Hp → Int → Prop) (I_32 : Nat → Hp → Int → Prop) (I_65 : Nat → Nat → Hp → Int → Int → Prop) (h0 : Hp) : Prop :=
  ∀ h27 : Hp, h27 = hup h0 30 12 0 → (∀ z28 : Int, z28 = 0 → (∃ n', I_7 n' h27 z28))
set_option maxHeartbeats 4000000 in
set_option maxRecDepth 100000 in
theorem w_X6_findFaces {l : Launch} (P : Int → Hp → Prop) (p_X6_nextSide : Int → Hp → Prop) (q_X6_nextSide : Int → Hp → Int → Prop) (I_7 : Nat → Hp → Int → Prop) (I_32 : Nat → Hp → Int → Prop) (I_65 : Nat → Nat → Hp → Int → Int → Prop) (h0 : Hp)
    (c_X6_nextSide : ∀ (b1 : Int) (h : Hp), p_X6_nextSide b1 h → Ct l yX6_nextSide cX6_nextSide 5 (some .int) 1 23 0 [vr 30, vi b1] h [] (fun r _ => q_X6_nextSide b1 h r) (fun _ => False))
    (o_7 : ∀ (n_7 : Nat) (h : Hp) (x1 : Int), RH h → Fr [30, 37] h0 h → InR x1 → I_7 n_7 h x1 → V_X6_findFaces_7 P p_X6_nextSide q_X6_nextSide I_7 I_32 I_65 n_7 h x1)
    (o_32 : ∀ (n_32 : Nat) (h : Hp) (x1 : Int), RH h → Fr [30, 37] h0 h → InR x1 → I_32 n_32 h x1 → V_X6_findFaces_32 P p_X6_nextSide q_X6_nextSide I_7 I_32 I_65 n_32 h x1)
    (o_65 : ∀ (n_32 n_65 : Nat) (h : Hp) (x1 : Int) (x2 : Int), RH h → Fr [30, 37] h0 h → InR x1 → InR x2 → I_65 n_32 n_65 h x1 x2 → V_X6_findFaces_65 P p_X6_nextSide q_X6_nextSide I_7 I_32 I_65 n_32 n_65 h x1 x2)
    (o : RH h0 → V_X6_findFaces P p_X6_nextSide q_X6_nextSide I_7 I_32 I_65 h0) :
    Ct l yX6_findFaces cX6_findFaces 3 none 2 47 0 [vr 30] h0 [30, 37] P (fun _ => False) := by
  refine Ct.of (own := RX6) (by decide) rfl (Nat.le_of_ble_eq_true rfl) ?_
  intro X C hXl hXM hXh hXP hXX hXc hXr hav hR0
  have hmain : V_X6_findFaces P p_X6_nextSide q_X6_nextSide I_7 I_32 I_65 h0 := o hR0 
  have B_32 : ∀ (n_32 : Nat) (h : Hp) (x1 : Int), I_32 n_32 h x1 → Wh X 32 [(0, vr 30), (1, vi x1)] [] h 0 := by
    intro n_32
    induction n_32 using Nat.strongRecOn with
    | _ n_32 ih_32 =>
      intro h x1 hI
      refine s_use fun hR hF hL => ?_
      have v := o_32 n_32 h x1 hR (by rw [hXM, hXh] at hF; exact hF) (hL (1, vi x1) (by simp)) hI
      unfold V_X6_findFaces_32 at v
      have B_104 : ∀ (h : Hp) (x1 : Int), V_X6_findFaces_104 P p_X6_nextSide q_X6_nextSide I_7 I_32 I_65 n_32 h x1 → Wh X 104 [(0, vr 30), (1, vi x1)] [] h 0 := by
        intro h x1 v
        unfold V_X6_findFaces_104 at v
        obtain ⟨o2, v⟩ := v
        refine s_iinc 1 C dX6_findFaces_104 rfl (by decide) o2 (fun z1 ez1 => ?_)
        have v := v z1 ez1
        show Wh X 107 [(1, vi z1), (0, vr 30)] [] h 0
        refine r_goto (tgt := 32) C dX6_findFaces_107 (by decide) ?_
        obtain ⟨n', hn', hI'⟩ := v
        exact s_sub [1, 0] rfl (ih_32 n' hn' _ _ hI')
      have B_65 : ∀ (n_65 : Nat) (h : Hp) (x1 : Int) (x2 : Int), I_65 n_32 n_65 h x1 x2 → Wh X 65 [(0, vr 30), (1, vi x1), (2, vi x2)] [] h 0 := by
        intro n_65
        induction n_65 using Nat.strongRecOn with
        | _ n_65 ih_65 =>
          intro h x1 x2 hI
          refine s_use fun hR hF hL => ?_
          have v := o_65 n_32 n_65 h x1 x2 hR (by rw [hXM, hXh] at hF; exact hF) (hL (1, vi x1) (by simp)) (hL (2, vi x2) (by simp)) hI
          unfold V_X6_findFaces_65 at v
          refine r_aload_n 0 C dX6_findFaces_65 rfl ?_
          refine gf_X6_29 C dX6_findFaces_66 ?_
          refine r_iload_n 2 C dX6_findFaces_69 rfl ?_
          obtain ⟨o3, v⟩ := v
          refine r_iaload (r := 37) (N := 200) C dX6_findFaces_70 rfl o3 ?_
          refine r_iconst C dX6_findFaces_71 ⟨by decide, by decide⟩ ?_
          refine r_icmp_ne (tgt := 94) C dX6_findFaces_72 (by decide) (fun c4 => ?_) (fun c4 => ?_)
          · have v := v.1 c4
            refine r_aload_n 0 C dX6_findFaces_94 rfl ?_
            refine r_dup C dX6_findFaces_95 trivial ?_
            refine gf_X6_111 C dX6_findFaces_96 ?_
            refine r_iconst C dX6_findFaces_99 ⟨by decide, by decide⟩ ?_
            obtain ⟨o5, v⟩ := v
            refine r_iadd C dX6_findFaces_100 o5 ?_
            refine pf_X6_111 C dX6_findFaces_101 hXM (by decide) (fun h6 eh6 => ?_)
            have v := v h6 eh6
            exact s_sub [0, 1] rfl (B_104 _ _ v)
          · have v := v.2 c4
            refine r_aload_n 0 C dX6_findFaces_75 rfl ?_
            refine gf_X6_29 C dX6_findFaces_76 ?_
            refine r_iload_n 2 C dX6_findFaces_79 rfl ?_
            refine r_aload_n 0 C dX6_findFaces_80 rfl ?_
            refine gf_X6_111 C dX6_findFaces_81 ?_
            obtain ⟨o7, v⟩ := v
            refine s_iastore (r := 37) (N := 200) C dX6_findFaces_84 rfl hXM (by decide) o7 (fun h8 eh8 => ?_)
            have v := v h8 eh8
            refine r_aload_n 0 C dX6_findFaces_85 rfl ?_
            refine r_iload_n 2 C dX6_findFaces_86 rfl ?_
            obtain ⟨o9, v⟩ := v
            refine s_calli0 [x2] [] C dX6_findFaces_87 ck_X6_114 (r := 30) (fY := 1) (nY := 23) rfl rfl (by decide) (by decide) (Nat.le_of_ble_eq_true rfl) rfl (by rw [hXl]; exact c_X6_nextSide x2 h8 o9) (fun r10 gr10 qr10 => ?_)
            have v := v r10 gr10 qr10
            refine s_istore_n C dX6_findFaces_90 (by decide) (fun z11 ez11 => ?_)
            have v := v z11 ez11
            show Wh X 91 [(2, vi z11), (0, vr 30), (1, vi x1)] [] h8 0
            refine r_goto (tgt := 65) C dX6_findFaces_91 (by decide) ?_
            obtain ⟨n', hn', hI'⟩ := v
            exact s_sub [1, 2, 0] rfl (ih_65 n' hn' _ _ _ hI')
      refine r_iload_n 1 C dX6_findFaces_32 rfl ?_
      refine r_iconst C dX6_findFaces_33 ⟨by decide, by decide⟩ ?_
      refine r_aload_n 0 C dX6_findFaces_34 rfl ?_
      refine gf_X6_66 C dX6_findFaces_35 ?_
      obtain ⟨o12, v⟩ := v
      refine r_imul C dX6_findFaces_38 o12 ?_
      refine r_icmp_ge (tgt := 110) C dX6_findFaces_39 (by decide) (fun c13 => ?_) (fun c13 => ?_)
      · have v := v.1 c13
        exact r_return C dX6_findFaces_110 hXr (Nat.zero_le _) (by rw [hXP]; exact v)
      · have v := v.2 c13
        refine r_aload_n 0 C dX6_findFaces_42 rfl ?_
        refine gf_X6_16 C dX6_findFaces_43 ?_
        refine r_iload_n 1 C dX6_findFaces_46 rfl ?_
        refine r_iconst C dX6_findFaces_47 ⟨by decide, by decide⟩ ?_
        obtain ⟨o14, v⟩ := v
        refine r_idiv C dX6_findFaces_48 o14 ?_
        obtain ⟨o15, v⟩ := v
        refine r_baload (r := 33) (N := 100) C dX6_findFaces_49 rfl o15 ?_
        refine r_if_ne (tgt := 104) C dX6_findFaces_50 (by decide) (fun c16 => ?_) (fun c16 => ?_)
        · have v := v.1 c16
          exact s_sub [0, 1] rfl (B_104 _ _ v)
        · have v := v.2 c16
          refine r_aload_n 0 C dX6_findFaces_53 rfl ?_
          refine gf_X6_29 C dX6_findFaces_54 ?_
          refine r_iload_n 1 C dX6_findFaces_57 rfl ?_
          obtain ⟨o17, v⟩ := v
          refine r_iaload (r := 37) (N := 200) C dX6_findFaces_58 rfl o17 ?_
          refine r_iconst C dX6_findFaces_59 ⟨by decide, by decide⟩ ?_
          refine r_icmp_ne (tgt := 104) C dX6_findFaces_60 (by decide) (fun c18 => ?_) (fun c18 => ?_)
          · have v := v.1 c18
            exact s_sub [0, 1] rfl (B_104 _ _ v)
          · have v := v.2 c18
            refine r_iload_n 1 C dX6_findFaces_63 rfl ?_
            refine s_istore_n C dX6_findFaces_64 (by decide) (fun z19 ez19 => ?_)
            have v := v z19 ez19
            show Wh X 65 [(2, vi z19), (0, vr 30), (1, vi x1)] [] h 0
            obtain ⟨n', hI'⟩ := v
            exact s_sub [1, 2, 0] rfl (B_65 n' _ _ _ hI')
  have B_7 : ∀ (n_7 : Nat) (h : Hp) (x1 : Int), I_7 n_7 h x1 → Wh X 7 [(0, vr 30), (1, vi x1)] [] h 0 := by
    intro n_7
    induction n_7 using Nat.strongRecOn with
    | _ n_7 ih_7 =>
      intro h x1 hI
      refine s_use fun hR hF hL => ?_
      have v := o_7 n_7 h x1 hR (by rw [hXM, hXh] at hF; exact hF) (hL (1, vi x1) (by simp)) hI
      unfold V_X6_findFaces_7 at v
      refine r_iload_n 1 C dX6_findFaces_7 rfl ?_
      refine r_iconst C dX6_findFaces_8 ⟨by decide, by decide⟩ ?_
      refine r_aload_n 0 C dX6_findFaces_9 rfl ?_
      refine gf_X6_66 C dX6_findFaces_10 ?_
      obtain ⟨o20, v⟩ := v
      refine r_imul C dX6_findFaces_13 o20 ?_
      refine r_icmp_ge (tgt := 30) C dX6_findFaces_14 (by decide) (fun c21 => ?_) (fun c21 => ?_)
      · have v := v.1 c21
        refine r_iconst C dX6_findFaces_30 ⟨by decide, by decide⟩ ?_
        refine s_istore_n C dX6_findFaces_31 (by decide) (fun z22 ez22 => ?_)
        have v := v z22 ez22
        show Wh X 32 [(1, vi z22), (0, vr 30)] [] h 0
        obtain ⟨n', hI'⟩ := v
        exact s_sub [1, 0] rfl (B_32 n' _ _ hI')
      · have v := v.2 c21
        refine r_aload_n 0 C dX6_findFaces_17 rfl ?_
        refine gf_X6_29 C dX6_findFaces_18 ?_
        refine r_iload_n 1 C dX6_findFaces_21 rfl ?_
        refine r_iconst C dX6_findFaces_22 ⟨by decide, by decide⟩ ?_
        obtain ⟨o23, v⟩ := v
        refine s_iastore (r := 37) (N := 200) C dX6_findFaces_23 rfl hXM (by decide) o23 (fun h24 eh24 => ?_)
        have v := v h24 eh24
        obtain ⟨o26, v⟩ := v
        refine s_iinc 1 C dX6_findFaces_24 rfl (by decide) o26 (fun z25 ez25 => ?_)
        have v := v z25 ez25
        show Wh X 27 [(1, vi z25), (0, vr 30)] [] h24 0
        refine r_goto (tgt := 7) C dX6_findFaces_27 (by decide) ?_
        obtain ⟨n', hn', hI'⟩ := v
        exact s_sub [1, 0] rfl (ih_7 n' hn' _ _ hI')
  show Wh X 0 [(0, vr 30)] [] h0 0
  have v := hmain
  unfold V_X6_findFaces at v
  refine r_aload_n 0 C dX6_findFaces_0 rfl ?_
  refine r_iconst C dX6_findFaces_1 ⟨by decide, by decide⟩ ?_
  refine pf_X6_111 C dX6_findFaces_2 hXM (by decide) (fun h27 eh27 => ?_)
  have v := v h27 eh27
  refine r_iconst C dX6_findFaces_5 ⟨by decide, by decide⟩ ?_
  refine s_istore_n C dX6_findFaces_6 (by decide) (fun z28 ez28 => ?_)
  have v := v z28 ez28
  show Wh X 7 [(1, vi z28), (0, vr 30)] [] h27 0
  obtain ⟨n', hI'⟩ := v
  exact s_sub [1, 0] rfl (B_7 n' _ _ hI')

def V_X6_faces (P : Int → Hp → Prop) (p_X6_findFaces : Hp → Prop) (q_X6_findFaces : Hp → Hp → Prop) (h0 : Hp) : Prop :=
  ∀ h1 : Hp, h1 = hup h0 30 0 0 → (p_X6_findFaces h1 ∧ (∀ h3 : Hp, Fr [30, 37] h1 h3 → RH h3 → q_X6_findFaces h1 h3 → (P (h3 30 12) h3)))
set_option maxHeartbeats 4000000 in
set_option maxRecDepth 100000 in
theorem w_X6_faces {l : Launch} (P : Int → Hp → Prop) (p_X6_findFaces : Hp → Prop) (q_X6_findFaces : Hp → Hp → Prop) (h0 : Hp)
    (c_X6_findFaces : ∀ (h : Hp), p_X6_findFaces h → Ct l yX6_findFaces cX6_findFaces 3 none 2 47 0 [vr 30] h [30, 37] (fun _ h1 => q_X6_findFaces h h1) (fun _ => False))
    (o : RH h0 → V_X6_faces P p_X6_findFaces q_X6_findFaces h0) :
    Ct l yX6_faces cX6_faces 1 (some .int) 3 69 0 [vr 30] h0 [30, 37] P (fun _ => False) := by
  refine Ct.of (own := RX6) (by decide) rfl (Nat.le_of_ble_eq_true rfl) ?_
  intro X C hXl hXM hXh hXP hXX hXc hXr hav hR0
  have hmain : V_X6_faces P p_X6_findFaces q_X6_findFaces h0 := o hR0 
  show Wh X 0 [(0, vr 30)] [] h0 0
  have v := hmain
  unfold V_X6_faces at v
  refine r_aload_n 0 C dX6_faces_0 rfl ?_
  refine r_iconst C dX6_faces_1 ⟨by decide, by decide⟩ ?_
  refine pf_X6_59 C dX6_faces_2 hXM (by decide) (fun h1 eh1 => ?_)
  have v := v h1 eh1
  refine r_aload_n 0 C dX6_faces_5 rfl ?_
  obtain ⟨o2, v⟩ := v
  refine s_callv [] [] C dX6_faces_6 ck_X6_117 (r := 30) (fY := 2) (nY := 47) rfl rfl (by decide) (by decide) (Nat.le_of_ble_eq_true rfl) rfl (MY := [30, 37]) hXM (by decide) (by rw [hXl]; exact c_X6_findFaces h1 o2) (fun h3 fh3 kh3 qh3 => ?_)
  have v := v h3 fh3 kh3 qh3
  refine r_aload_n 0 C dX6_faces_9 rfl ?_
  refine gf_X6_111 C dX6_faces_10 ?_
  exact r_ireturn C dX6_faces_13 hXr (Nat.zero_le _) (by rw [hXP]; exact v)

def V_X6_firstSide_35 (P : Int → Hp → Prop) (I_2 : Nat → Hp → Int → Int → Prop) (n_2 : Nat) (h : Hp) (x1 : Int) (x2 : Int) : Prop :=
  InR (x2 + 1) ∧ (∀ z1 : Int, z1 = x2 + 1 → (∃ n', n' < n_2 ∧ I_2 n' h x1 z1))
def V_X6_firstSide_2 (P : Int → Hp → Prop) (I_2 : Nat → Hp → Int → Int → Prop) (n_2 : Nat) (h : Hp) (x1 : Int) (x2 : Int) : Prop :=
  InR (2 * (h 30 2)) ∧ (((2 * (h 30 2)) ≤ x2 → P (-1) h) ∧ (¬ (2 * (h 30 2)) ≤ x2 → ((0 : Int) < 2 ∧ InR (x2.tdiv 2)) ∧ (((0 : Int) ≤ (x2.tdiv 2) ∧ ((x2.tdiv 2) : Int) < 100) ∧ ((¬ (h 33 (x2.tdiv 2)) = 0 → V_X6_firstSide_35 P I_2 n_2 h x1 x2) ∧ ((h 33 (x2.tdiv 2)) = 0 → ((0 : Int) ≤ x2 ∧ (x2 : Int) < 200) ∧ ((¬ (h 37 x2) = x1 → V_X6_firstSide_35 P I_2 n_2 h x1 x2) ∧ ((h 37 x2) = x1 → P x2 h)))))))
def V_X6_firstSide (P : Int → Hp → Prop) (I_2 : Nat → Hp → Int → Int → Prop) (h0 : Hp) (a1 : Int) : Prop :=
  ∀ z10 : Int, z10 = 0 → (∃ n', I_2 n' h0 a1 z10)
set_option maxHeartbeats 4000000 in
set_option maxRecDepth 100000 in
theorem w_X6_firstSide {l : Launch} (P : Int → Hp → Prop) (I_2 : Nat → Hp → Int → Int → Prop) (h0 : Hp) (a1 : Int)
    (o_2 : ∀ (n_2 : Nat) (h : Hp) (x1 : Int) (x2 : Int), RH h → Fr [] h0 h → InR x1 → InR x2 → I_2 n_2 h x1 x2 → V_X6_firstSide_2 P I_2 n_2 h x1 x2)
    (o : RH h0 → InR a1 → V_X6_firstSide P I_2 h0 a1) :
    Ct l yX6_firstSide cX6_firstSide 3 (some .int) 0 0 0 [vr 30, vi a1] h0 [] P (fun _ => False) := by
  refine Ct.of (own := RX6) (by decide) rfl (Nat.le_of_ble_eq_true rfl) ?_
  intro X C hXl hXM hXh hXP hXX hXc hXr hav hR0
  have hmain : V_X6_firstSide P I_2 h0 a1 := o hR0 (hav (vi a1) (by simp))
  have B_2 : ∀ (n_2 : Nat) (h : Hp) (x1 : Int) (x2 : Int), I_2 n_2 h x1 x2 → Wh X 2 [(0, vr 30), (1, vi x1), (2, vi x2)] [] h 0 := by
    intro n_2
    induction n_2 using Nat.strongRecOn with
    | _ n_2 ih_2 =>
      intro h x1 x2 hI
      refine s_use fun hR hF hL => ?_
      have v := o_2 n_2 h x1 x2 hR (by rw [hXM, hXh] at hF; exact hF) (hL (1, vi x1) (by simp)) (hL (2, vi x2) (by simp)) hI
      unfold V_X6_firstSide_2 at v
      have B_35 : ∀ (h : Hp) (x1 : Int) (x2 : Int), V_X6_firstSide_35 P I_2 n_2 h x1 x2 → Wh X 35 [(0, vr 30), (1, vi x1), (2, vi x2)] [] h 0 := by
        intro h x1 x2 v
        unfold V_X6_firstSide_35 at v
        obtain ⟨o2, v⟩ := v
        refine s_iinc 2 C dX6_firstSide_35 rfl (by decide) o2 (fun z1 ez1 => ?_)
        have v := v z1 ez1
        show Wh X 38 [(2, vi z1), (0, vr 30), (1, vi x1)] [] h 0
        refine r_goto (tgt := 2) C dX6_firstSide_38 (by decide) ?_
        obtain ⟨n', hn', hI'⟩ := v
        exact s_sub [1, 2, 0] rfl (ih_2 n' hn' _ _ _ hI')
      refine r_iload_n 2 C dX6_firstSide_2 rfl ?_
      refine r_iconst C dX6_firstSide_3 ⟨by decide, by decide⟩ ?_
      refine r_aload_n 0 C dX6_firstSide_4 rfl ?_
      refine gf_X6_66 C dX6_firstSide_5 ?_
      obtain ⟨o3, v⟩ := v
      refine r_imul C dX6_firstSide_8 o3 ?_
      refine r_icmp_ge (tgt := 41) C dX6_firstSide_9 (by decide) (fun c4 => ?_) (fun c4 => ?_)
      · have v := v.1 c4
        refine r_iconst C dX6_firstSide_41 ⟨by decide, by decide⟩ ?_
        exact r_ireturn C dX6_firstSide_42 hXr (Nat.zero_le _) (by rw [hXP]; exact v)
      · have v := v.2 c4
        refine r_aload_n 0 C dX6_firstSide_12 rfl ?_
        refine gf_X6_16 C dX6_firstSide_13 ?_
        refine r_iload_n 2 C dX6_firstSide_16 rfl ?_
        refine r_iconst C dX6_firstSide_17 ⟨by decide, by decide⟩ ?_
        obtain ⟨o5, v⟩ := v
        refine r_idiv C dX6_firstSide_18 o5 ?_
        obtain ⟨o6, v⟩ := v
        refine r_baload (r := 33) (N := 100) C dX6_firstSide_19 rfl o6 ?_
        refine r_if_ne (tgt := 35) C dX6_firstSide_20 (by decide) (fun c7 => ?_) (fun c7 => ?_)
        · have v := v.1 c7
          exact s_sub [0, 1, 2] rfl (B_35 _ _ _ v)
        · have v := v.2 c7
          refine r_aload_n 0 C dX6_firstSide_23 rfl ?_
          refine gf_X6_29 C dX6_firstSide_24 ?_
          refine r_iload_n 2 C dX6_firstSide_27 rfl ?_
          obtain ⟨o8, v⟩ := v
          refine r_iaload (r := 37) (N := 200) C dX6_firstSide_28 rfl o8 ?_
          refine r_iload_n 1 C dX6_firstSide_29 rfl ?_
          refine r_icmp_ne (tgt := 35) C dX6_firstSide_30 (by decide) (fun c9 => ?_) (fun c9 => ?_)
          · have v := v.1 c9
            exact s_sub [0, 1, 2] rfl (B_35 _ _ _ v)
          · have v := v.2 c9
            refine r_iload_n 2 C dX6_firstSide_33 rfl ?_
            exact r_ireturn C dX6_firstSide_34 hXr (Nat.zero_le _) (by rw [hXP]; exact v)
  show Wh X 0 [(0, vr 30), (1, vi a1)] [] h0 0
  have v := hmain
  unfold V_X6_firstSide at v
  refine r_iconst C dX6_firstSide_0 ⟨by decide, by decide⟩ ?_
  refine s_istore_n C dX6_firstSide_1 (by decide) (fun z10 ez10 => ?_)
  have v := v z10 ez10
  show Wh X 2 [(2, vi z10), (0, vr 30), (1, vi a1)] [] h0 0
  obtain ⟨n', hI'⟩ := v
  exact s_sub [1, 2, 0] rfl (B_2 n' _ _ _ hI')

def V_X6_sidesOf_42 (P : Int → Hp → Prop) (I_4 : Nat → Hp → Int → Int → Int → Prop) (n_4 : Nat) (h : Hp) (x1 : Int) (x3 : Int) (y0 : Int) : Prop :=
  ∀ z1 : Int, z1 = y0 → (InR (x3 + 1) ∧ (∀ z2 : Int, z2 = x3 + 1 → (∃ n', n' < n_4 ∧ I_4 n' h x1 z1 z2)))
def V_X6_sidesOf_41 (P : Int → Hp → Prop) (I_4 : Nat → Hp → Int → Int → Int → Prop) (n_4 : Nat) (h : Hp) (x1 : Int) (x2 : Int) (x3 : Int) : Prop :=
  V_X6_sidesOf_42 P I_4 n_4 h x1 x3 x2
def V_X6_sidesOf_4 (P : Int → Hp → Prop) (I_4 : Nat → Hp → Int → Int → Int → Prop) (n_4 : Nat) (h : Hp) (x1 : Int) (x2 : Int) (x3 : Int) : Prop :=
  InR (2 * (h 30 2)) ∧ (((2 * (h 30 2)) ≤ x3 → P x2 h) ∧ (¬ (2 * (h 30 2)) ≤ x3 → ((0 : Int) < 2 ∧ InR (x3.tdiv 2)) ∧ (((0 : Int) ≤ (x3.tdiv 2) ∧ ((x3.tdiv 2) : Int) < 100) ∧ ((¬ (h 33 (x3.tdiv 2)) = 0 → V_X6_sidesOf_41 P I_4 n_4 h x1 x2 x3) ∧ ((h 33 (x3.tdiv 2)) = 0 → ((0 : Int) ≤ x3 ∧ (x3 : Int) < 200) ∧ ((¬ (h 37 x3) = x1 → V_X6_sidesOf_41 P I_4 n_4 h x1 x2 x3) ∧ ((h 37 x3) = x1 → InR (x2 + 1) ∧ (V_X6_sidesOf_42 P I_4 n_4 h x1 x3 (x2 + 1)))))))))
def V_X6_sidesOf (P : Int → Hp → Prop) (I_4 : Nat → Hp → Int → Int → Int → Prop) (h0 : Hp) (a1 : Int) : Prop :=
  ∀ z12 : Int, z12 = 0 → (∀ z13 : Int, z13 = 0 → (∃ n', I_4 n' h0 a1 z12 z13))
set_option maxHeartbeats 4000000 in
set_option maxRecDepth 100000 in
theorem w_X6_sidesOf {l : Launch} (P : Int → Hp → Prop) (I_4 : Nat → Hp → Int → Int → Int → Prop) (h0 : Hp) (a1 : Int)
    (o_4 : ∀ (n_4 : Nat) (h : Hp) (x1 : Int) (x2 : Int) (x3 : Int), RH h → Fr [] h0 h → InR x1 → InR x2 → InR x3 → I_4 n_4 h x1 x2 x3 → V_X6_sidesOf_4 P I_4 n_4 h x1 x2 x3)
    (o : RH h0 → InR a1 → V_X6_sidesOf P I_4 h0 a1) :
    Ct l yX6_sidesOf cX6_sidesOf 4 (some .int) 0 0 0 [vr 30, vi a1] h0 [] P (fun _ => False) := by
  refine Ct.of (own := RX6) (by decide) rfl (Nat.le_of_ble_eq_true rfl) ?_
  intro X C hXl hXM hXh hXP hXX hXc hXr hav hR0
  have hmain : V_X6_sidesOf P I_4 h0 a1 := o hR0 (hav (vi a1) (by simp))
  have B_4 : ∀ (n_4 : Nat) (h : Hp) (x1 : Int) (x2 : Int) (x3 : Int), I_4 n_4 h x1 x2 x3 → Wh X 4 [(0, vr 30), (1, vi x1), (2, vi x2), (3, vi x3)] [] h 0 := by
    intro n_4
    induction n_4 using Nat.strongRecOn with
    | _ n_4 ih_4 =>
      intro h x1 x2 x3 hI
      refine s_use fun hR hF hL => ?_
      have v := o_4 n_4 h x1 x2 x3 hR (by rw [hXM, hXh] at hF; exact hF) (hL (1, vi x1) (by simp)) (hL (2, vi x2) (by simp)) (hL (3, vi x3) (by simp)) hI
      unfold V_X6_sidesOf_4 at v
      have B_42 : ∀ (h : Hp) (x1 : Int) (x3 : Int) (y0 : Int), V_X6_sidesOf_42 P I_4 n_4 h x1 x3 y0 → Wh X 42 [(0, vr 30), (1, vi x1), (3, vi x3)] [vi y0] h 0 := by
        intro h x1 x3 y0 v
        unfold V_X6_sidesOf_42 at v
        refine s_istore_n C dX6_sidesOf_42 (by decide) (fun z1 ez1 => ?_)
        have v := v z1 ez1
        show Wh X 43 [(2, vi z1), (0, vr 30), (1, vi x1), (3, vi x3)] [] h 0
        obtain ⟨o3, v⟩ := v
        refine s_iinc 3 C dX6_sidesOf_43 rfl (by decide) o3 (fun z2 ez2 => ?_)
        have v := v z2 ez2
        show Wh X 46 [(3, vi z2), (2, vi z1), (0, vr 30), (1, vi x1)] [] h 0
        refine r_goto (tgt := 4) C dX6_sidesOf_46 (by decide) ?_
        obtain ⟨n', hn', hI'⟩ := v
        exact s_sub [2, 3, 1, 0] rfl (ih_4 n' hn' _ _ _ _ hI')
      have B_41 : ∀ (h : Hp) (x1 : Int) (x2 : Int) (x3 : Int), V_X6_sidesOf_41 P I_4 n_4 h x1 x2 x3 → Wh X 41 [(0, vr 30), (1, vi x1), (2, vi x2), (3, vi x3)] [] h 0 := by
        intro h x1 x2 x3 v
        unfold V_X6_sidesOf_41 at v
        refine r_iload_n 2 C dX6_sidesOf_41 rfl ?_
        exact s_sub [0, 1, 3] rfl (B_42 _ _ _ _ v)
      refine r_iload_n 3 C dX6_sidesOf_4 rfl ?_
      refine r_iconst C dX6_sidesOf_5 ⟨by decide, by decide⟩ ?_
      refine r_aload_n 0 C dX6_sidesOf_6 rfl ?_
      refine gf_X6_66 C dX6_sidesOf_7 ?_
      obtain ⟨o4, v⟩ := v
      refine r_imul C dX6_sidesOf_10 o4 ?_
      refine r_icmp_ge (tgt := 49) C dX6_sidesOf_11 (by decide) (fun c5 => ?_) (fun c5 => ?_)
      · have v := v.1 c5
        refine r_iload_n 2 C dX6_sidesOf_49 rfl ?_
        exact r_ireturn C dX6_sidesOf_50 hXr (Nat.zero_le _) (by rw [hXP]; exact v)
      · have v := v.2 c5
        refine r_aload_n 0 C dX6_sidesOf_14 rfl ?_
        refine gf_X6_16 C dX6_sidesOf_15 ?_
        refine r_iload_n 3 C dX6_sidesOf_18 rfl ?_
        refine r_iconst C dX6_sidesOf_19 ⟨by decide, by decide⟩ ?_
        obtain ⟨o6, v⟩ := v
        refine r_idiv C dX6_sidesOf_20 o6 ?_
        obtain ⟨o7, v⟩ := v
        refine r_baload (r := 33) (N := 100) C dX6_sidesOf_21 rfl o7 ?_
        refine r_if_ne (tgt := 41) C dX6_sidesOf_22 (by decide) (fun c8 => ?_) (fun c8 => ?_)
        · have v := v.1 c8
          exact s_sub [0, 1, 2, 3] rfl (B_41 _ _ _ _ v)
        · have v := v.2 c8
          refine r_aload_n 0 C dX6_sidesOf_25 rfl ?_
          refine gf_X6_29 C dX6_sidesOf_26 ?_
          refine r_iload_n 3 C dX6_sidesOf_29 rfl ?_
          obtain ⟨o9, v⟩ := v
          refine r_iaload (r := 37) (N := 200) C dX6_sidesOf_30 rfl o9 ?_
          refine r_iload_n 1 C dX6_sidesOf_31 rfl ?_
          refine r_icmp_ne (tgt := 41) C dX6_sidesOf_32 (by decide) (fun c10 => ?_) (fun c10 => ?_)
          · have v := v.1 c10
            exact s_sub [0, 1, 2, 3] rfl (B_41 _ _ _ _ v)
          · have v := v.2 c10
            refine r_iload_n 2 C dX6_sidesOf_35 rfl ?_
            refine r_iconst C dX6_sidesOf_36 ⟨by decide, by decide⟩ ?_
            obtain ⟨o11, v⟩ := v
            refine r_iadd C dX6_sidesOf_37 o11 ?_
            refine r_goto (tgt := 42) C dX6_sidesOf_38 (by decide) ?_
            exact s_sub [0, 1, 3] rfl (B_42 _ _ _ _ v)
  show Wh X 0 [(0, vr 30), (1, vi a1)] [] h0 0
  have v := hmain
  unfold V_X6_sidesOf at v
  refine r_iconst C dX6_sidesOf_0 ⟨by decide, by decide⟩ ?_
  refine s_istore_n C dX6_sidesOf_1 (by decide) (fun z12 ez12 => ?_)
  have v := v z12 ez12
  show Wh X 2 [(2, vi z12), (0, vr 30), (1, vi a1)] [] h0 0
  refine r_iconst C dX6_sidesOf_2 ⟨by decide, by decide⟩ ?_
  refine s_istore_n C dX6_sidesOf_3 (by decide) (fun z13 ez13 => ?_)
  have v := v z13 ez13
  show Wh X 4 [(3, vi z13), (2, vi z12), (0, vr 30), (1, vi a1)] [] h0 0
  obtain ⟨n', hI'⟩ := v
  exact s_sub [2, 3, 1, 0] rfl (B_4 n' _ _ _ _ hI')

def V_X6_sides_41 (P : Int → Hp → Prop) (p_X6_findFaces : Hp → Prop) (q_X6_findFaces : Hp → Hp → Prop) (p_X6_sidesOf : Int → Hp → Prop) (q_X6_sidesOf : Int → Hp → Int → Prop) (h : Hp) (y0 : Int) : Prop :=
  P y0 h
def V_X6_sides_22 (P : Int → Hp → Prop) (p_X6_findFaces : Hp → Prop) (q_X6_findFaces : Hp → Hp → Prop) (p_X6_sidesOf : Int → Hp → Prop) (q_X6_sidesOf : Int → Hp → Int → Prop) (h : Hp) (x1 : Int) (y1 : Int) : Prop :=
  ∀ h1 : Hp, h1 = hup h 30 0 y1 → (((h1 30 0) ≤ 0 → p_X6_sidesOf x1 h1 ∧ (∀ r4 : Int, InR r4 → q_X6_sidesOf x1 h1 r4 → (V_X6_sides_41 P p_X6_findFaces q_X6_findFaces p_X6_sidesOf q_X6_sidesOf h1 r4))) ∧ (¬ (h1 30 0) ≤ 0 → V_X6_sides_41 P p_X6_findFaces q_X6_findFaces p_X6_sidesOf q_X6_sidesOf h1 0))
def V_X6_sides_21 (P : Int → Hp → Prop) (p_X6_findFaces : Hp → Prop) (q_X6_findFaces : Hp → Hp → Prop) (p_X6_sidesOf : Int → Hp → Prop) (q_X6_sidesOf : Int → Hp → Int → Prop) (h : Hp) (x1 : Int) : Prop :=
  V_X6_sides_22 P p_X6_findFaces q_X6_findFaces p_X6_sidesOf q_X6_sidesOf h x1 1
def V_X6_sides (P : Int → Hp → Prop) (p_X6_findFaces : Hp → Prop) (q_X6_findFaces : Hp → Hp → Prop) (p_X6_sidesOf : Int → Hp → Prop) (q_X6_sidesOf : Int → Hp → Int → Prop) (h0 : Hp) (a1 : Int) : Prop :=
  p_X6_findFaces h0 ∧ (∀ h6 : Hp, Fr [30, 37] h0 h6 → RH h6 → q_X6_findFaces h0 h6 → ((a1 < 0 → V_X6_sides_21 P p_X6_findFaces q_X6_findFaces p_X6_sidesOf q_X6_sidesOf h6 a1) ∧ (¬ a1 < 0 → ((h6 30 12) ≤ a1 → V_X6_sides_21 P p_X6_findFaces q_X6_findFaces p_X6_sidesOf q_X6_sidesOf h6 a1) ∧ (¬ (h6 30 12) ≤ a1 → V_X6_sides_22 P p_X6_findFaces q_X6_findFaces p_X6_sidesOf q_X6_sidesOf h6 a1 0))))
set_option maxHeartbeats 4000000 in
set_option maxRecDepth 100000 in
theorem w_X6_sides {l : Launch} (P : Int → Hp → Prop) (p_X6_findFaces : Hp → Prop) (q_X6_findFaces : Hp → Hp → Prop) (p_X6_sidesOf : Int → Hp → Prop) (q_X6_sidesOf : Int → Hp → Int → Prop) (h0 : Hp) (a1 : Int)
    (c_X6_findFaces : ∀ (h : Hp), p_X6_findFaces h → Ct l yX6_findFaces cX6_findFaces 3 none 2 47 0 [vr 30] h [30, 37] (fun _ h1 => q_X6_findFaces h h1) (fun _ => False))
    (c_X6_sidesOf : ∀ (b1 : Int) (h : Hp), p_X6_sidesOf b1 h → Ct l yX6_sidesOf cX6_sidesOf 4 (some .int) 0 0 0 [vr 30, vi b1] h [] (fun r _ => q_X6_sidesOf b1 h r) (fun _ => False))
    (o : RH h0 → InR a1 → V_X6_sides P p_X6_findFaces q_X6_findFaces p_X6_sidesOf q_X6_sidesOf h0 a1) :
    Ct l yX6_sides cX6_sides 2 (some .int) 3 69 0 [vr 30, vi a1] h0 [30, 37] P (fun _ => False) := by
  refine Ct.of (own := RX6) (by decide) rfl (Nat.le_of_ble_eq_true rfl) ?_
  intro X C hXl hXM hXh hXP hXX hXc hXr hav hR0
  have hmain : V_X6_sides P p_X6_findFaces q_X6_findFaces p_X6_sidesOf q_X6_sidesOf h0 a1 := o hR0 (hav (vi a1) (by simp))
  have B_41 : ∀ (h : Hp) (y0 : Int), V_X6_sides_41 P p_X6_findFaces q_X6_findFaces p_X6_sidesOf q_X6_sidesOf h y0 → Wh X 41 [(0, vr 30)] [vi y0] h 0 := by
    intro h y0 v
    unfold V_X6_sides_41 at v
    exact r_ireturn C dX6_sides_41 hXr (Nat.zero_le _) (by rw [hXP]; exact v)
  have B_22 : ∀ (h : Hp) (x1 : Int) (y1 : Int), V_X6_sides_22 P p_X6_findFaces q_X6_findFaces p_X6_sidesOf q_X6_sidesOf h x1 y1 → Wh X 22 [(0, vr 30), (1, vi x1)] [vi y1, vr 30] h 0 := by
    intro h x1 y1 v
    unfold V_X6_sides_22 at v
    refine pf_X6_59 C dX6_sides_22 hXM (by decide) (fun h1 eh1 => ?_)
    have v := v h1 eh1
    refine r_aload_n 0 C dX6_sides_25 rfl ?_
    refine gf_X6_59 C dX6_sides_26 ?_
    refine r_if_le (tgt := 36) C dX6_sides_29 (by decide) (fun c2 => ?_) (fun c2 => ?_)
    · have v := v.1 c2
      refine r_aload_n 0 C dX6_sides_36 rfl ?_
      refine r_iload_n 1 C dX6_sides_37 rfl ?_
      obtain ⟨o3, v⟩ := v
      refine s_calli0 [x1] [] C dX6_sides_38 ck_X6_120 (r := 30) (fY := 0) (nY := 0) rfl rfl (by decide) (by decide) (Nat.le_of_ble_eq_true rfl) rfl (by rw [hXl]; exact c_X6_sidesOf x1 h1 o3) (fun r4 gr4 qr4 => ?_)
      have v := v r4 gr4 qr4
      exact s_sub [0] rfl (B_41 _ _ v)
    · have v := v.2 c2
      refine r_iconst C dX6_sides_32 ⟨by decide, by decide⟩ ?_
      refine r_goto (tgt := 41) C dX6_sides_33 (by decide) ?_
      exact s_sub [0] rfl (B_41 _ _ v)
  have B_21 : ∀ (h : Hp) (x1 : Int), V_X6_sides_21 P p_X6_findFaces q_X6_findFaces p_X6_sidesOf q_X6_sidesOf h x1 → Wh X 21 [(0, vr 30), (1, vi x1)] [vr 30] h 0 := by
    intro h x1 v
    unfold V_X6_sides_21 at v
    refine r_iconst C dX6_sides_21 ⟨by decide, by decide⟩ ?_
    exact s_sub [0, 1] rfl (B_22 _ _ _ v)
  show Wh X 0 [(0, vr 30), (1, vi a1)] [] h0 0
  have v := hmain
  unfold V_X6_sides at v
  refine r_aload_n 0 C dX6_sides_0 rfl ?_
  obtain ⟨o5, v⟩ := v
  refine s_callv [] [] C dX6_sides_1 ck_X6_117 (r := 30) (fY := 2) (nY := 47) rfl rfl (by decide) (by decide) (Nat.le_of_ble_eq_true rfl) rfl (MY := [30, 37]) hXM (by decide) (by rw [hXl]; exact c_X6_findFaces h0 o5) (fun h6 fh6 kh6 qh6 => ?_)
  have v := v h6 fh6 kh6 qh6
  refine r_aload_n 0 C dX6_sides_4 rfl ?_
  refine r_iload_n 1 C dX6_sides_5 rfl ?_
  refine r_if_lt (tgt := 21) C dX6_sides_6 (by decide) (fun c7 => ?_) (fun c7 => ?_)
  · have v := v.1 c7
    exact s_sub [0, 1] rfl (B_21 _ _ v)
  · have v := v.2 c7
    refine r_iload_n 1 C dX6_sides_9 rfl ?_
    refine r_aload_n 0 C dX6_sides_10 rfl ?_
    refine gf_X6_111 C dX6_sides_11 ?_
    refine r_icmp_ge (tgt := 21) C dX6_sides_14 (by decide) (fun c8 => ?_) (fun c8 => ?_)
    · have v := v.1 c8
      exact s_sub [0, 1] rfl (B_21 _ _ v)
    · have v := v.2 c8
      refine r_iconst C dX6_sides_17 ⟨by decide, by decide⟩ ?_
      refine r_goto (tgt := 22) C dX6_sides_18 (by decide) ?_
      exact s_sub [0, 1] rfl (B_22 _ _ _ v)

def V_X6_from_56 (P : Int → Hp → Prop) (p_X6_findFaces : Hp → Prop) (q_X6_findFaces : Hp → Hp → Prop) (p_X6_sidesOf : Int → Hp → Prop) (q_X6_sidesOf : Int → Hp → Int → Prop) (p_X6_firstSide : Int → Hp → Prop) (q_X6_firstSide : Int → Hp → Int → Prop) (p_X6_nextSide : Int → Hp → Prop) (q_X6_nextSide : Int → Hp → Int → Prop) (p_X6_origin : Int → Hp → Prop) (q_X6_origin : Int → Hp → Int → Prop) (I_56 : Nat → Hp → Int → Int → Int → Prop) (n_56 : Nat) (h : Hp) (x2 : Int) (x3 : Int) (x4 : Int) : Prop :=
  (x2 ≤ x4 → p_X6_origin x3 h ∧ (∀ r3 : Int, InR r3 → q_X6_origin x3 h r3 → (P r3 h))) ∧ (¬ x2 ≤ x4 → p_X6_nextSide x3 h ∧ (∀ r5 : Int, InR r5 → q_X6_nextSide x3 h r5 → (∀ z6 : Int, z6 = r5 → (InR (x4 + 1) ∧ (∀ z7 : Int, z7 = x4 + 1 → (∃ n', n' < n_56 ∧ I_56 n' h x2 z6 z7))))))
def V_X6_from_35 (P : Int → Hp → Prop) (p_X6_findFaces : Hp → Prop) (q_X6_findFaces : Hp → Hp → Prop) (p_X6_sidesOf : Int → Hp → Prop) (q_X6_sidesOf : Int → Hp → Int → Prop) (p_X6_firstSide : Int → Hp → Prop) (q_X6_firstSide : Int → Hp → Int → Prop) (p_X6_nextSide : Int → Hp → Prop) (q_X6_nextSide : Int → Hp → Int → Prop) (p_X6_origin : Int → Hp → Prop) (q_X6_origin : Int → Hp → Int → Prop) (I_56 : Nat → Hp → Int → Int → Int → Prop) (h : Hp) (x1 : Int) (x2 : Int) (y1 : Int) : Prop :=
  ∀ h9 : Hp, h9 = hup h 30 0 y1 → (((h9 30 0) ≤ 0 → p_X6_firstSide x1 h9 ∧ (∀ r12 : Int, InR r12 → q_X6_firstSide x1 h9 r12 → (∀ z13 : Int, z13 = r12 → (∀ z14 : Int, z14 = 0 → (∃ n', I_56 n' h9 x2 z13 z14))))) ∧ (¬ (h9 30 0) ≤ 0 → P 0 h9))
def V_X6_from_34 (P : Int → Hp → Prop) (p_X6_findFaces : Hp → Prop) (q_X6_findFaces : Hp → Hp → Prop) (p_X6_sidesOf : Int → Hp → Prop) (q_X6_sidesOf : Int → Hp → Int → Prop) (p_X6_firstSide : Int → Hp → Prop) (q_X6_firstSide : Int → Hp → Int → Prop) (p_X6_nextSide : Int → Hp → Prop) (q_X6_nextSide : Int → Hp → Int → Prop) (p_X6_origin : Int → Hp → Prop) (q_X6_origin : Int → Hp → Int → Prop) (I_56 : Nat → Hp → Int → Int → Int → Prop) (h : Hp) (x1 : Int) (x2 : Int) : Prop :=
  V_X6_from_35 P p_X6_findFaces q_X6_findFaces p_X6_sidesOf q_X6_sidesOf p_X6_firstSide q_X6_firstSide p_X6_nextSide q_X6_nextSide p_X6_origin q_X6_origin I_56 h x1 x2 1
def V_X6_from (P : Int → Hp → Prop) (p_X6_findFaces : Hp → Prop) (q_X6_findFaces : Hp → Hp → Prop) (p_X6_sidesOf : Int → Hp → Prop) (q_X6_sidesOf : Int → Hp → Int → Prop) (p_X6_firstSide : Int → Hp → Prop) (q_X6_firstSide : Int → Hp → Int → Prop) (p_X6_nextSide : Int → Hp → Prop) (q_X6_nextSide : Int → Hp → Int → Prop) (p_X6_origin : Int → Hp → Prop) (q_X6_origin : Int → Hp → Int → Prop) (I_56 : Nat → Hp → Int → Int → Int → Prop) (h0 : Hp) (a1 : Int) (a2 : Int) : Prop :=
  p_X6_findFaces h0 ∧ (∀ h16 : Hp, Fr [30, 37] h0 h16 → RH h16 → q_X6_findFaces h0 h16 → ((a1 < 0 → V_X6_from_34 P p_X6_findFaces q_X6_findFaces p_X6_sidesOf q_X6_sidesOf p_X6_firstSide q_X6_firstSide p_X6_nextSide q_X6_nextSide p_X6_origin q_X6_origin I_56 h16 a1 a2) ∧ (¬ a1 < 0 → ((h16 30 12) ≤ a1 → V_X6_from_34 P p_X6_findFaces q_X6_findFaces p_X6_sidesOf q_X6_sidesOf p_X6_firstSide q_X6_firstSide p_X6_nextSide q_X6_nextSide p_X6_origin q_X6_origin I_56 h16 a1 a2) ∧ (¬ (h16 30 12) ≤ a1 → (a2 < 0 → V_X6_from_34 P p_X6_findFaces q_X6_findFaces p_X6_sidesOf q_X6_sidesOf p_X6_firstSide q_X6_firstSide p_X6_nextSide q_X6_nextSide p_X6_origin q_X6_origin I_56 h16 a1 a2) ∧ (¬ a2 < 0 → p_X6_sidesOf a1 h16 ∧ (∀ r21 : Int, InR r21 → q_X6_sidesOf a1 h16 r21 → ((r21 ≤ a2 → V_X6_from_34 P p_X6_findFaces q_X6_findFaces p_X6_sidesOf q_X6_sidesOf p_X6_firstSide q_X6_firstSide p_X6_nextSide q_X6_nextSide p_X6_origin q_X6_origin I_56 h16 a1 a2) ∧ (¬ r21 ≤ a2 → V_X6_from_35 P p_X6_findFaces q_X6_findFaces p_X6_sidesOf q_X6_sidesOf p_X6_firstSide q_X6_firstSide p_X6_nextSide q_X6_nextSide p_X6_origin q_X6_origin I_56 h16 a1 a2 0))))))))
set_option maxHeartbeats 4000000 in
set_option maxRecDepth 100000 in
theorem w_X6_from {l : Launch} (P : Int → Hp → Prop) (p_X6_findFaces : Hp → Prop) (q_X6_findFaces : Hp → Hp → Prop) (p_X6_sidesOf : Int → Hp → Prop) (q_X6_sidesOf : Int → Hp → Int → Prop) (p_X6_firstSide : Int → Hp → Prop) (q_X6_firstSide : Int → Hp → Int → Prop) (p_X6_nextSide : Int → Hp → Prop) (q_X6_nextSide : Int → Hp → Int → Prop) (p_X6_origin : Int → Hp → Prop) (q_X6_origin : Int → Hp → Int → Prop) (I_56 : Nat → Hp → Int → Int → Int → Prop) (h0 : Hp) (a1 : Int) (a2 : Int)
    (c_X6_findFaces : ∀ (h : Hp), p_X6_findFaces h → Ct l yX6_findFaces cX6_findFaces 3 none 2 47 0 [vr 30] h [30, 37] (fun _ h1 => q_X6_findFaces h h1) (fun _ => False))
    (c_X6_sidesOf : ∀ (b1 : Int) (h : Hp), p_X6_sidesOf b1 h → Ct l yX6_sidesOf cX6_sidesOf 4 (some .int) 0 0 0 [vr 30, vi b1] h [] (fun r _ => q_X6_sidesOf b1 h r) (fun _ => False))
    (c_X6_firstSide : ∀ (b1 : Int) (h : Hp), p_X6_firstSide b1 h → Ct l yX6_firstSide cX6_firstSide 3 (some .int) 0 0 0 [vr 30, vi b1] h [] (fun r _ => q_X6_firstSide b1 h r) (fun _ => False))
    (c_X6_nextSide : ∀ (b1 : Int) (h : Hp), p_X6_nextSide b1 h → Ct l yX6_nextSide cX6_nextSide 5 (some .int) 1 23 0 [vr 30, vi b1] h [] (fun r _ => q_X6_nextSide b1 h r) (fun _ => False))
    (c_X6_origin : ∀ (b1 : Int) (h : Hp), p_X6_origin b1 h → Ct l yX6_origin cX6_origin 2 (some .int) 0 0 0 [vr 30, vi b1] h [] (fun r _ => q_X6_origin b1 h r) (fun _ => False))
    (o_56 : ∀ (n_56 : Nat) (h : Hp) (x2 : Int) (x3 : Int) (x4 : Int), RH h → Fr [30, 37] h0 h → InR x2 → InR x3 → InR x4 → I_56 n_56 h x2 x3 x4 → V_X6_from_56 P p_X6_findFaces q_X6_findFaces p_X6_sidesOf q_X6_sidesOf p_X6_firstSide q_X6_firstSide p_X6_nextSide q_X6_nextSide p_X6_origin q_X6_origin I_56 n_56 h x2 x3 x4)
    (o : RH h0 → InR a1 → InR a2 → V_X6_from P p_X6_findFaces q_X6_findFaces p_X6_sidesOf q_X6_sidesOf p_X6_firstSide q_X6_firstSide p_X6_nextSide q_X6_nextSide p_X6_origin q_X6_origin I_56 h0 a1 a2) :
    Ct l yX6_from cX6_from 5 (some .int) 3 69 0 [vr 30, vi a1, vi a2] h0 [30, 37] P (fun _ => False) := by
  refine Ct.of (own := RX6) (by decide) rfl (Nat.le_of_ble_eq_true rfl) ?_
  intro X C hXl hXM hXh hXP hXX hXc hXr hav hR0
  have hmain : V_X6_from P p_X6_findFaces q_X6_findFaces p_X6_sidesOf q_X6_sidesOf p_X6_firstSide q_X6_firstSide p_X6_nextSide q_X6_nextSide p_X6_origin q_X6_origin I_56 h0 a1 a2 := o hR0 (hav (vi a1) (by simp)) (hav (vi a2) (by simp))
  have B_56 : ∀ (n_56 : Nat) (h : Hp) (x2 : Int) (x3 : Int) (x4 : Int), I_56 n_56 h x2 x3 x4 → Wh X 56 [(0, vr 30), (2, vi x2), (3, vi x3), (4, vi x4)] [] h 0 := by
    intro n_56
    induction n_56 using Nat.strongRecOn with
    | _ n_56 ih_56 =>
      intro h x2 x3 x4 hI
      refine s_use fun hR hF hL => ?_
      have v := o_56 n_56 h x2 x3 x4 hR (by rw [hXM, hXh] at hF; exact hF) (hL (2, vi x2) (by simp)) (hL (3, vi x3) (by simp)) (hL (4, vi x4) (by simp)) hI
      unfold V_X6_from_56 at v
      refine r_iload 3 C dX6_from_56 rfl ?_
      refine r_iload_n 1 C dX6_from_58 rfl ?_
      refine r_icmp_ge (tgt := 74) C dX6_from_59 (by decide) (fun c1 => ?_) (fun c1 => ?_)
      · have v := v.1 c1
        refine r_aload_n 0 C dX6_from_74 rfl ?_
        refine r_iload_n 2 C dX6_from_75 rfl ?_
        obtain ⟨o2, v⟩ := v
        refine s_calli0 [x3] [] C dX6_from_76 ck_X6_107 (r := 30) (fY := 0) (nY := 0) rfl rfl (by decide) (by decide) (Nat.le_of_ble_eq_true rfl) rfl (by rw [hXl]; exact c_X6_origin x3 h o2) (fun r3 gr3 qr3 => ?_)
        have v := v r3 gr3 qr3
        exact r_ireturn C dX6_from_79 hXr (Nat.zero_le _) (by rw [hXP]; exact v)
      · have v := v.2 c1
        refine r_aload_n 0 C dX6_from_62 rfl ?_
        refine r_iload_n 2 C dX6_from_63 rfl ?_
        obtain ⟨o4, v⟩ := v
        refine s_calli0 [x3] [] C dX6_from_64 ck_X6_114 (r := 30) (fY := 1) (nY := 23) rfl rfl (by decide) (by decide) (Nat.le_of_ble_eq_true rfl) rfl (by rw [hXl]; exact c_X6_nextSide x3 h o4) (fun r5 gr5 qr5 => ?_)
        have v := v r5 gr5 qr5
        refine s_istore_n C dX6_from_67 (by decide) (fun z6 ez6 => ?_)
        have v := v z6 ez6
        show Wh X 68 [(3, vi z6), (0, vr 30), (2, vi x2), (4, vi x4)] [] h 0
        obtain ⟨o8, v⟩ := v
        refine s_iinc 3 C dX6_from_68 rfl (by decide) o8 (fun z7 ez7 => ?_)
        have v := v z7 ez7
        show Wh X 71 [(4, vi z7), (3, vi z6), (0, vr 30), (2, vi x2)] [] h 0
        refine r_goto (tgt := 56) C dX6_from_71 (by decide) ?_
        obtain ⟨n', hn', hI'⟩ := v
        exact s_sub [2, 3, 1, 0] rfl (ih_56 n' hn' _ _ _ _ hI')
  have B_35 : ∀ (h : Hp) (x1 : Int) (x2 : Int) (y1 : Int), V_X6_from_35 P p_X6_findFaces q_X6_findFaces p_X6_sidesOf q_X6_sidesOf p_X6_firstSide q_X6_firstSide p_X6_nextSide q_X6_nextSide p_X6_origin q_X6_origin I_56 h x1 x2 y1 → Wh X 35 [(0, vr 30), (1, vi x1), (2, vi x2)] [vi y1, vr 30] h 0 := by
    intro h x1 x2 y1 v
    unfold V_X6_from_35 at v
    refine pf_X6_59 C dX6_from_35 hXM (by decide) (fun h9 eh9 => ?_)
    have v := v h9 eh9
    refine r_aload_n 0 C dX6_from_38 rfl ?_
    refine gf_X6_59 C dX6_from_39 ?_
    refine r_if_le (tgt := 47) C dX6_from_42 (by decide) (fun c10 => ?_) (fun c10 => ?_)
    · have v := v.1 c10
      refine r_aload_n 0 C dX6_from_47 rfl ?_
      refine r_iload_n 1 C dX6_from_48 rfl ?_
      obtain ⟨o11, v⟩ := v
      refine s_calli0 [x1] [] C dX6_from_49 ck_X6_123 (r := 30) (fY := 0) (nY := 0) rfl rfl (by decide) (by decide) (Nat.le_of_ble_eq_true rfl) rfl (by rw [hXl]; exact c_X6_firstSide x1 h9 o11) (fun r12 gr12 qr12 => ?_)
      have v := v r12 gr12 qr12
      refine s_istore_n C dX6_from_52 (by decide) (fun z13 ez13 => ?_)
      have v := v z13 ez13
      show Wh X 53 [(3, vi z13), (0, vr 30), (1, vi x1), (2, vi x2)] [] h9 0
      refine r_iconst C dX6_from_53 ⟨by decide, by decide⟩ ?_
      refine s_istore C dX6_from_54 (by decide) (fun z14 ez14 => ?_)
      have v := v z14 ez14
      show Wh X 56 [(4, vi z14), (3, vi z13), (0, vr 30), (1, vi x1), (2, vi x2)] [] h9 0
      obtain ⟨n', hI'⟩ := v
      exact s_sub [2, 4, 1, 0] rfl (B_56 n' _ _ _ _ hI')
    · have v := v.2 c10
      refine r_iconst C dX6_from_45 ⟨by decide, by decide⟩ ?_
      exact r_ireturn C dX6_from_46 hXr (Nat.zero_le _) (by rw [hXP]; exact v)
  have B_34 : ∀ (h : Hp) (x1 : Int) (x2 : Int), V_X6_from_34 P p_X6_findFaces q_X6_findFaces p_X6_sidesOf q_X6_sidesOf p_X6_firstSide q_X6_firstSide p_X6_nextSide q_X6_nextSide p_X6_origin q_X6_origin I_56 h x1 x2 → Wh X 34 [(0, vr 30), (1, vi x1), (2, vi x2)] [vr 30] h 0 := by
    intro h x1 x2 v
    unfold V_X6_from_34 at v
    refine r_iconst C dX6_from_34 ⟨by decide, by decide⟩ ?_
    exact s_sub [0, 1, 2] rfl (B_35 _ _ _ _ v)
  show Wh X 0 [(0, vr 30), (1, vi a1), (2, vi a2)] [] h0 0
  have v := hmain
  unfold V_X6_from at v
  refine r_aload_n 0 C dX6_from_0 rfl ?_
  obtain ⟨o15, v⟩ := v
  refine s_callv [] [] C dX6_from_1 ck_X6_117 (r := 30) (fY := 2) (nY := 47) rfl rfl (by decide) (by decide) (Nat.le_of_ble_eq_true rfl) rfl (MY := [30, 37]) hXM (by decide) (by rw [hXl]; exact c_X6_findFaces h0 o15) (fun h16 fh16 kh16 qh16 => ?_)
  have v := v h16 fh16 kh16 qh16
  refine r_aload_n 0 C dX6_from_4 rfl ?_
  refine r_iload_n 1 C dX6_from_5 rfl ?_
  refine r_if_lt (tgt := 34) C dX6_from_6 (by decide) (fun c17 => ?_) (fun c17 => ?_)
  · have v := v.1 c17
    exact s_sub [0, 1, 2] rfl (B_34 _ _ _ v)
  · have v := v.2 c17
    refine r_iload_n 1 C dX6_from_9 rfl ?_
    refine r_aload_n 0 C dX6_from_10 rfl ?_
    refine gf_X6_111 C dX6_from_11 ?_
    refine r_icmp_ge (tgt := 34) C dX6_from_14 (by decide) (fun c18 => ?_) (fun c18 => ?_)
    · have v := v.1 c18
      exact s_sub [0, 1, 2] rfl (B_34 _ _ _ v)
    · have v := v.2 c18
      refine r_iload_n 2 C dX6_from_17 rfl ?_
      refine r_if_lt (tgt := 34) C dX6_from_18 (by decide) (fun c19 => ?_) (fun c19 => ?_)
      · have v := v.1 c19
        exact s_sub [0, 1, 2] rfl (B_34 _ _ _ v)
      · have v := v.2 c19
        refine r_iload_n 2 C dX6_from_21 rfl ?_
        refine r_aload_n 0 C dX6_from_22 rfl ?_
        refine r_iload_n 1 C dX6_from_23 rfl ?_
        obtain ⟨o20, v⟩ := v
        refine s_calli0 [a1] [vi a2, vr 30] C dX6_from_24 ck_X6_120 (r := 30) (fY := 0) (nY := 0) rfl rfl (by decide) (by decide) (Nat.le_of_ble_eq_true rfl) rfl (by rw [hXl]; exact c_X6_sidesOf a1 h16 o20) (fun r21 gr21 qr21 => ?_)
        have v := v r21 gr21 qr21
        refine r_icmp_ge (tgt := 34) C dX6_from_27 (by decide) (fun c22 => ?_) (fun c22 => ?_)
        · have v := v.1 c22
          exact s_sub [0, 1, 2] rfl (B_34 _ _ _ v)
        · have v := v.2 c22
          refine r_iconst C dX6_from_30 ⟨by decide, by decide⟩ ?_
          refine r_goto (tgt := 35) C dX6_from_31 (by decide) ?_
          exact s_sub [0, 1, 2] rfl (B_35 _ _ _ _ v)

def V_X6_findTree_70 (P : Int → Hp → Prop) (p_X6_spread : Int → Hp → Prop) (q_X6_spread : Int → Hp → Hp → Prop) (I_7 : Nat → Hp → Int → Prop) (I_37 : Nat → Hp → Int → Prop) (n_37 : Nat) (h : Hp) (x1 : Int) : Prop :=
  InR (x1 + 1) ∧ (∀ z1 : Int, z1 = x1 + 1 → (∃ n', n' < n_37 ∧ I_37 n' h z1))
def V_X6_findTree_37 (P : Int → Hp → Prop) (p_X6_spread : Int → Hp → Prop) (q_X6_spread : Int → Hp → Hp → Prop) (I_7 : Nat → Hp → Int → Prop) (I_37 : Nat → Hp → Int → Prop) (n_37 : Nat) (h : Hp) (x1 : Int) : Prop :=
  ((h 30 1) ≤ x1 → P 0 h) ∧ (¬ (h 30 1) ≤ x1 → ((0 : Int) ≤ x1 ∧ (x1 : Int) < 30) ∧ ((¬ (h 39 x1) = (-1) → V_X6_findTree_70 P p_X6_spread q_X6_spread I_7 I_37 n_37 h x1) ∧ ((h 39 x1) = (-1) → p_X6_spread x1 h ∧ (∀ h7 : Hp, Fr [38, 39, 40] h h7 → RH h7 → q_X6_spread x1 h h7 → (InR ((h7 30 16) + 1) ∧ (∀ h9 : Hp, h9 = hup h7 30 16 ((h7 30 16) + 1) → (V_X6_findTree_70 P p_X6_spread q_X6_spread I_7 I_37 n_37 h9 x1)))))))
def V_X6_findTree_7 (P : Int → Hp → Prop) (p_X6_spread : Int → Hp → Prop) (q_X6_spread : Int → Hp → Hp → Prop) (I_7 : Nat → Hp → Int → Prop) (I_37 : Nat → Hp → Int → Prop) (n_7 : Nat) (h : Hp) (x1 : Int) : Prop :=
  ((h 30 1) ≤ x1 → ∀ z11 : Int, z11 = 0 → (∃ n', I_37 n' h z11)) ∧ (¬ (h 30 1) ≤ x1 → ((0 : Int) ≤ x1 ∧ (x1 : Int) < 30) ∧ (∀ h13 : Hp, h13 = hup h 39 x1 (-1) → (((0 : Int) ≤ x1 ∧ (x1 : Int) < 30) ∧ (∀ h15 : Hp, h15 = hup h13 38 x1 (-1) → (InR (x1 + 1) ∧ (∀ z16 : Int, z16 = x1 + 1 → (∃ n', n' < n_7 ∧ I_7 n' h15 z16)))))))
def V_X6_findTree (P : Int → Hp → Prop) (p_X6_spread : Int → Hp → Prop) (q_X6_spread : Int → Hp → Hp → Prop) (I_7 : Nat → Hp → Int → Prop) (I_37 : Nat → Hp → Int → Prop) (h0 : Hp) : Prop :=
  ∀ h18 : Hp, h18 = hup h0 30 16 0 → (∀ z19 : Int, z19 = 0 → (∃ n', I_7 n' h18 z19))
set_option maxHeartbeats 4000000 in
set_option maxRecDepth 100000 in
theorem w_X6_findTree {l : Launch} (P : Int → Hp → Prop) (p_X6_spread : Int → Hp → Prop) (q_X6_spread : Int → Hp → Hp → Prop) (I_7 : Nat → Hp → Int → Prop) (I_37 : Nat → Hp → Int → Prop) (h0 : Hp)
    (c_X6_spread : ∀ (b1 : Int) (h : Hp), p_X6_spread b1 h → Ct l yX6_spread cX6_spread 7 none 1 22 0 [vr 30, vi b1] h [38, 39, 40] (fun _ h1 => q_X6_spread b1 h h1) (fun _ => False))
    (o_7 : ∀ (n_7 : Nat) (h : Hp) (x1 : Int), RH h → Fr [30, 38, 39, 40] h0 h → InR x1 → I_7 n_7 h x1 → V_X6_findTree_7 P p_X6_spread q_X6_spread I_7 I_37 n_7 h x1)
    (o_37 : ∀ (n_37 : Nat) (h : Hp) (x1 : Int), RH h → Fr [30, 38, 39, 40] h0 h → InR x1 → I_37 n_37 h x1 → V_X6_findTree_37 P p_X6_spread q_X6_spread I_7 I_37 n_37 h x1)
    (o : RH h0 → V_X6_findTree P p_X6_spread q_X6_spread I_7 I_37 h0) :
    Ct l yX6_findTree cX6_findTree 2 none 2 48 0 [vr 30] h0 [30, 38, 39, 40] P (fun _ => False) := by
  refine Ct.of (own := RX6) (by decide) rfl (Nat.le_of_ble_eq_true rfl) ?_
  intro X C hXl hXM hXh hXP hXX hXc hXr hav hR0
  have hmain : V_X6_findTree P p_X6_spread q_X6_spread I_7 I_37 h0 := o hR0 
  have B_37 : ∀ (n_37 : Nat) (h : Hp) (x1 : Int), I_37 n_37 h x1 → Wh X 37 [(0, vr 30), (1, vi x1)] [] h 0 := by
    intro n_37
    induction n_37 using Nat.strongRecOn with
    | _ n_37 ih_37 =>
      intro h x1 hI
      refine s_use fun hR hF hL => ?_
      have v := o_37 n_37 h x1 hR (by rw [hXM, hXh] at hF; exact hF) (hL (1, vi x1) (by simp)) hI
      unfold V_X6_findTree_37 at v
      have B_70 : ∀ (h : Hp) (x1 : Int), V_X6_findTree_70 P p_X6_spread q_X6_spread I_7 I_37 n_37 h x1 → Wh X 70 [(0, vr 30), (1, vi x1)] [] h 0 := by
        intro h x1 v
        unfold V_X6_findTree_70 at v
        obtain ⟨o2, v⟩ := v
        refine s_iinc 1 C dX6_findTree_70 rfl (by decide) o2 (fun z1 ez1 => ?_)
        have v := v z1 ez1
        show Wh X 73 [(1, vi z1), (0, vr 30)] [] h 0
        refine r_goto (tgt := 37) C dX6_findTree_73 (by decide) ?_
        obtain ⟨n', hn', hI'⟩ := v
        exact s_sub [1, 0] rfl (ih_37 n' hn' _ _ hI')
      refine r_iload_n 1 C dX6_findTree_37 rfl ?_
      refine r_aload_n 0 C dX6_findTree_38 rfl ?_
      refine gf_X6_63 C dX6_findTree_39 ?_
      refine r_icmp_ge (tgt := 76) C dX6_findTree_42 (by decide) (fun c3 => ?_) (fun c3 => ?_)
      · have v := v.1 c3
        exact r_return C dX6_findTree_76 hXr (Nat.zero_le _) (by rw [hXP]; exact v)
      · have v := v.2 c3
        refine r_aload_n 0 C dX6_findTree_45 rfl ?_
        refine gf_X6_35 C dX6_findTree_46 ?_
        refine r_iload_n 1 C dX6_findTree_49 rfl ?_
        obtain ⟨o4, v⟩ := v
        refine r_iaload (r := 39) (N := 30) C dX6_findTree_50 rfl o4 ?_
        refine r_iconst C dX6_findTree_51 ⟨by decide, by decide⟩ ?_
        refine r_icmp_ne (tgt := 70) C dX6_findTree_52 (by decide) (fun c5 => ?_) (fun c5 => ?_)
        · have v := v.1 c5
          exact s_sub [0, 1] rfl (B_70 _ _ v)
        · have v := v.2 c5
          refine r_aload_n 0 C dX6_findTree_55 rfl ?_
          refine r_iload_n 1 C dX6_findTree_56 rfl ?_
          obtain ⟨o6, v⟩ := v
          refine s_callv [x1] [] C dX6_findTree_57 ck_X6_129 (r := 30) (fY := 1) (nY := 22) rfl rfl (by decide) (by decide) (Nat.le_of_ble_eq_true rfl) rfl (MY := [38, 39, 40]) hXM (by decide) (by rw [hXl]; exact c_X6_spread x1 h o6) (fun h7 fh7 kh7 qh7 => ?_)
          have v := v h7 fh7 kh7 qh7
          refine r_aload_n 0 C dX6_findTree_60 rfl ?_
          refine r_dup C dX6_findTree_61 trivial ?_
          refine gf_X6_126 C dX6_findTree_62 ?_
          refine r_iconst C dX6_findTree_65 ⟨by decide, by decide⟩ ?_
          obtain ⟨o8, v⟩ := v
          refine r_iadd C dX6_findTree_66 o8 ?_
          refine pf_X6_126 C dX6_findTree_67 hXM (by decide) (fun h9 eh9 => ?_)
          have v := v h9 eh9
          exact s_sub [0, 1] rfl (B_70 _ _ v)
  have B_7 : ∀ (n_7 : Nat) (h : Hp) (x1 : Int), I_7 n_7 h x1 → Wh X 7 [(0, vr 30), (1, vi x1)] [] h 0 := by
    intro n_7
    induction n_7 using Nat.strongRecOn with
    | _ n_7 ih_7 =>
      intro h x1 hI
      refine s_use fun hR hF hL => ?_
      have v := o_7 n_7 h x1 hR (by rw [hXM, hXh] at hF; exact hF) (hL (1, vi x1) (by simp)) hI
      unfold V_X6_findTree_7 at v
      refine r_iload_n 1 C dX6_findTree_7 rfl ?_
      refine r_aload_n 0 C dX6_findTree_8 rfl ?_
      refine gf_X6_63 C dX6_findTree_9 ?_
      refine r_icmp_ge (tgt := 35) C dX6_findTree_12 (by decide) (fun c10 => ?_) (fun c10 => ?_)
      · have v := v.1 c10
        refine r_iconst C dX6_findTree_35 ⟨by decide, by decide⟩ ?_
        refine s_istore_n C dX6_findTree_36 (by decide) (fun z11 ez11 => ?_)
        have v := v z11 ez11
        show Wh X 37 [(1, vi z11), (0, vr 30)] [] h 0
        obtain ⟨n', hI'⟩ := v
        exact s_sub [1, 0] rfl (B_37 n' _ _ hI')
      · have v := v.2 c10
        refine r_aload_n 0 C dX6_findTree_15 rfl ?_
        refine gf_X6_35 C dX6_findTree_16 ?_
        refine r_iload_n 1 C dX6_findTree_19 rfl ?_
        refine r_iconst C dX6_findTree_20 ⟨by decide, by decide⟩ ?_
        obtain ⟨o12, v⟩ := v
        refine s_iastore (r := 39) (N := 30) C dX6_findTree_21 rfl hXM (by decide) o12 (fun h13 eh13 => ?_)
        have v := v h13 eh13
        refine r_aload_n 0 C dX6_findTree_22 rfl ?_
        refine gf_X6_32 C dX6_findTree_23 ?_
        refine r_iload_n 1 C dX6_findTree_26 rfl ?_
        refine r_iconst C dX6_findTree_27 ⟨by decide, by decide⟩ ?_
        obtain ⟨o14, v⟩ := v
        refine s_iastore (r := 38) (N := 30) C dX6_findTree_28 rfl hXM (by decide) o14 (fun h15 eh15 => ?_)
        have v := v h15 eh15
        obtain ⟨o17, v⟩ := v
        refine s_iinc 1 C dX6_findTree_29 rfl (by decide) o17 (fun z16 ez16 => ?_)
        have v := v z16 ez16
        show Wh X 32 [(1, vi z16), (0, vr 30)] [] h15 0
        refine r_goto (tgt := 7) C dX6_findTree_32 (by decide) ?_
        obtain ⟨n', hn', hI'⟩ := v
        exact s_sub [1, 0] rfl (ih_7 n' hn' _ _ hI')
  show Wh X 0 [(0, vr 30)] [] h0 0
  have v := hmain
  unfold V_X6_findTree at v
  refine r_aload_n 0 C dX6_findTree_0 rfl ?_
  refine r_iconst C dX6_findTree_1 ⟨by decide, by decide⟩ ?_
  refine pf_X6_126 C dX6_findTree_2 hXM (by decide) (fun h18 eh18 => ?_)
  have v := v h18 eh18
  refine r_iconst C dX6_findTree_5 ⟨by decide, by decide⟩ ?_
  refine s_istore_n C dX6_findTree_6 (by decide) (fun z19 ez19 => ?_)
  have v := v z19 ez19
  show Wh X 7 [(1, vi z19), (0, vr 30)] [] h18 0
  obtain ⟨n', hI'⟩ := v
  exact s_sub [1, 0] rfl (B_7 n' _ _ hI')

def V_X6_spread_112 (P : Int → Hp → Prop) (p_X6_far : Int → Int → Hp → Prop) (q_X6_far : Int → Int → Hp → Int → Prop) (I_21 : Nat → Hp → Int → Int → Prop) (I_37 : Nat → Nat → Hp → Int → Int → Int → Int → Prop) (n_21 : Nat) (n_37 : Nat) (h : Hp) (x2 : Int) (x3 : Int) (x4 : Int) (x5 : Int) : Prop :=
  InR (x5 + 1) ∧ (∀ z1 : Int, z1 = x5 + 1 → (∃ n', n' < n_37 ∧ I_37 n_21 n' h x2 x3 x4 z1))
def V_X6_spread_37 (P : Int → Hp → Prop) (p_X6_far : Int → Int → Hp → Prop) (q_X6_far : Int → Int → Hp → Int → Prop) (I_21 : Nat → Hp → Int → Int → Prop) (I_37 : Nat → Nat → Hp → Int → Int → Int → Int → Prop) (n_21 : Nat) (n_37 : Nat) (h : Hp) (x2 : Int) (x3 : Int) (x4 : Int) (x5 : Int) : Prop :=
  ((0 : Int) ≤ x4 ∧ (x4 : Int) < 30) ∧ (((h 35 x4) ≤ x5 → InR (x3 + 1) ∧ (∀ z5 : Int, z5 = x3 + 1 → (∃ n', n' < n_21 ∧ I_21 n' h x2 z5))) ∧ (¬ (h 35 x4) ≤ x5 → InR (30 * x4) ∧ (InR ((30 * x4) + x5) ∧ (((0 : Int) ≤ ((30 * x4) + x5) ∧ (((30 * x4) + x5) : Int) < 900) ∧ (p_X6_far (h 34 ((30 * x4) + x5)) x4 h ∧ (∀ r11 : Int, InR r11 → q_X6_far (h 34 ((30 * x4) + x5)) x4 h r11 → (∀ z12 : Int, z12 = r11 → (((0 : Int) ≤ z12 ∧ (z12 : Int) < 30) ∧ ((¬ (h 39 z12) = (-1) → V_X6_spread_112 P p_X6_far q_X6_far I_21 I_37 n_21 n_37 h x2 x3 x4 x5) ∧ ((h 39 z12) = (-1) → ((0 : Int) ≤ z12 ∧ (z12 : Int) < 30) ∧ (∀ h16 : Hp, h16 = hup h 39 z12 (h 30 16) → (((0 : Int) ≤ z12 ∧ (z12 : Int) < 30) ∧ (∀ h18 : Hp, h18 = hup h16 38 z12 x4 → (((0 : Int) ≤ x2 ∧ (x2 : Int) < 30) ∧ (∀ h20 : Hp, h20 = hup h18 40 x2 z12 → (InR (x2 + 1) ∧ (∀ z21 : Int, z21 = x2 + 1 → (V_X6_spread_112 P p_X6_far q_X6_far I_21 I_37 n_21 n_37 h20 z21 x3 x4 x5))))))))))))))))))
def V_X6_spread_21 (P : Int → Hp → Prop) (p_X6_far : Int → Int → Hp → Prop) (q_X6_far : Int → Int → Hp → Int → Prop) (I_21 : Nat → Hp → Int → Int → Prop) (I_37 : Nat → Nat → Hp → Int → Int → Int → Int → Prop) (n_21 : Nat) (h : Hp) (x2 : Int) (x3 : Int) : Prop :=
  (x2 ≤ x3 → P 0 h) ∧ (¬ x2 ≤ x3 → ((0 : Int) ≤ x3 ∧ (x3 : Int) < 30) ∧ (∀ z25 : Int, z25 = (h 40 x3) → (∀ z26 : Int, z26 = 0 → (∃ n', I_37 n_21 n' h x2 x3 z25 z26))))
def V_X6_spread (P : Int → Hp → Prop) (p_X6_far : Int → Int → Hp → Prop) (q_X6_far : Int → Int → Hp → Int → Prop) (I_21 : Nat → Hp → Int → Int → Prop) (I_37 : Nat → Nat → Hp → Int → Int → Int → Int → Prop) (h0 : Hp) (a1 : Int) : Prop :=
  ∀ z27 : Int, z27 = 1 → (((0 : Int) ≤ 0 ∧ (0 : Int) < 30) ∧ (∀ h29 : Hp, h29 = hup h0 40 0 a1 → (((0 : Int) ≤ a1 ∧ (a1 : Int) < 30) ∧ (∀ h31 : Hp, h31 = hup h29 39 a1 (h29 30 16) → (∀ z32 : Int, z32 = 0 → (∃ n', I_21 n' h31 z27 z32))))))
set_option maxHeartbeats 4000000 in
set_option maxRecDepth 100000 in
theorem w_X6_spread {l : Launch} (P : Int → Hp → Prop) (p_X6_far : Int → Int → Hp → Prop) (q_X6_far : Int → Int → Hp → Int → Prop) (I_21 : Nat → Hp → Int → Int → Prop) (I_37 : Nat → Nat → Hp → Int → Int → Int → Int → Prop) (h0 : Hp) (a1 : Int)
    (c_X6_far : ∀ (b1 : Int) (b2 : Int) (h : Hp), p_X6_far b1 b2 h → Ct l yX6_far cX6_far 3 (some .int) 0 0 0 [vr 30, vi b1, vi b2] h [] (fun r _ => q_X6_far b1 b2 h r) (fun _ => False))
    (o_21 : ∀ (n_21 : Nat) (h : Hp) (x2 : Int) (x3 : Int), RH h → Fr [38, 39, 40] h0 h → InR x2 → InR x3 → I_21 n_21 h x2 x3 → V_X6_spread_21 P p_X6_far q_X6_far I_21 I_37 n_21 h x2 x3)
    (o_37 : ∀ (n_21 n_37 : Nat) (h : Hp) (x2 : Int) (x3 : Int) (x4 : Int) (x5 : Int), RH h → Fr [38, 39, 40] h0 h → InR x2 → InR x3 → InR x4 → InR x5 → I_37 n_21 n_37 h x2 x3 x4 x5 → V_X6_spread_37 P p_X6_far q_X6_far I_21 I_37 n_21 n_37 h x2 x3 x4 x5)
    (o : RH h0 → InR a1 → V_X6_spread P p_X6_far q_X6_far I_21 I_37 h0 a1) :
    Ct l yX6_spread cX6_spread 7 none 1 22 0 [vr 30, vi a1] h0 [38, 39, 40] P (fun _ => False) := by
  refine Ct.of (own := RX6) (by decide) rfl (Nat.le_of_ble_eq_true rfl) ?_
  intro X C hXl hXM hXh hXP hXX hXc hXr hav hR0
  have hmain : V_X6_spread P p_X6_far q_X6_far I_21 I_37 h0 a1 := o hR0 (hav (vi a1) (by simp))
  have B_21 : ∀ (n_21 : Nat) (h : Hp) (x2 : Int) (x3 : Int), I_21 n_21 h x2 x3 → Wh X 21 [(0, vr 30), (2, vi x2), (3, vi x3)] [] h 0 := by
    intro n_21
    induction n_21 using Nat.strongRecOn with
    | _ n_21 ih_21 =>
      intro h x2 x3 hI
      refine s_use fun hR hF hL => ?_
      have v := o_21 n_21 h x2 x3 hR (by rw [hXM, hXh] at hF; exact hF) (hL (2, vi x2) (by simp)) (hL (3, vi x3) (by simp)) hI
      unfold V_X6_spread_21 at v
      have B_37 : ∀ (n_37 : Nat) (h : Hp) (x2 : Int) (x3 : Int) (x4 : Int) (x5 : Int), I_37 n_21 n_37 h x2 x3 x4 x5 → Wh X 37 [(0, vr 30), (2, vi x2), (3, vi x3), (4, vi x4), (5, vi x5)] [] h 0 := by
        intro n_37
        induction n_37 using Nat.strongRecOn with
        | _ n_37 ih_37 =>
          intro h x2 x3 x4 x5 hI
          refine s_use fun hR hF hL => ?_
          have v := o_37 n_21 n_37 h x2 x3 x4 x5 hR (by rw [hXM, hXh] at hF; exact hF) (hL (2, vi x2) (by simp)) (hL (3, vi x3) (by simp)) (hL (4, vi x4) (by simp)) (hL (5, vi x5) (by simp)) hI
          unfold V_X6_spread_37 at v
          have B_112 : ∀ (h : Hp) (x2 : Int) (x3 : Int) (x4 : Int) (x5 : Int), V_X6_spread_112 P p_X6_far q_X6_far I_21 I_37 n_21 n_37 h x2 x3 x4 x5 → Wh X 112 [(0, vr 30), (2, vi x2), (3, vi x3), (4, vi x4), (5, vi x5)] [] h 0 := by
            intro h x2 x3 x4 x5 v
            unfold V_X6_spread_112 at v
            obtain ⟨o2, v⟩ := v
            refine s_iinc 4 C dX6_spread_112 rfl (by decide) o2 (fun z1 ez1 => ?_)
            have v := v z1 ez1
            show Wh X 115 [(5, vi z1), (0, vr 30), (2, vi x2), (3, vi x3), (4, vi x4)] [] h 0
            refine r_goto (tgt := 37) C dX6_spread_115 (by decide) ?_
            obtain ⟨n', hn', hI'⟩ := v
            exact s_sub [1, 2, 3, 4, 0] rfl (ih_37 n' hn' _ _ _ _ _ hI')
          refine r_iload 4 C dX6_spread_37 rfl ?_
          refine r_aload_n 0 C dX6_spread_39 rfl ?_
          refine gf_X6_23 C dX6_spread_40 ?_
          refine r_iload 3 C dX6_spread_43 rfl ?_
          obtain ⟨o3, v⟩ := v
          refine r_iaload (r := 35) (N := 30) C dX6_spread_45 rfl o3 ?_
          refine r_icmp_ge (tgt := 118) C dX6_spread_46 (by decide) (fun c4 => ?_) (fun c4 => ?_)
          · have v := v.1 c4
            obtain ⟨o6, v⟩ := v
            refine s_iinc 2 C dX6_spread_118 rfl (by decide) o6 (fun z5 ez5 => ?_)
            have v := v z5 ez5
            show Wh X 121 [(3, vi z5), (0, vr 30), (2, vi x2), (4, vi x4), (5, vi x5)] [] h 0
            refine r_goto (tgt := 21) C dX6_spread_121 (by decide) ?_
            obtain ⟨n', hn', hI'⟩ := v
            exact s_sub [1, 2, 0] rfl (ih_21 n' hn' _ _ _ hI')
          · have v := v.2 c4
            refine r_aload_n 0 C dX6_spread_49 rfl ?_
            refine r_aload_n 0 C dX6_spread_50 rfl ?_
            refine gf_X6_20 C dX6_spread_51 ?_
            refine r_bipush C dX6_spread_54 ⟨by decide, by decide⟩ (by decide) ?_
            refine r_iload 3 C dX6_spread_56 rfl ?_
            obtain ⟨o7, v⟩ := v
            refine r_imul C dX6_spread_58 o7 ?_
            refine r_iload 4 C dX6_spread_59 rfl ?_
            obtain ⟨o8, v⟩ := v
            refine r_iadd C dX6_spread_61 o8 ?_
            obtain ⟨o9, v⟩ := v
            refine r_iaload (r := 34) (N := 900) C dX6_spread_62 rfl o9 ?_
            refine r_iload 3 C dX6_spread_63 rfl ?_
            obtain ⟨o10, v⟩ := v
            refine s_calli0 [(h 34 ((30 * x4) + x5)), x4] [] C dX6_spread_65 ck_X6_69 (r := 30) (fY := 0) (nY := 0) rfl rfl (by decide) (by decide) (Nat.le_of_ble_eq_true rfl) rfl (by rw [hXl]; exact c_X6_far (h 34 ((30 * x4) + x5)) x4 h o10) (fun r11 gr11 qr11 => ?_)
            have v := v r11 gr11 qr11
            refine s_istore C dX6_spread_68 (by decide) (fun z12 ez12 => ?_)
            have v := v z12 ez12
            show Wh X 70 [(6, vi z12), (0, vr 30), (2, vi x2), (3, vi x3), (4, vi x4), (5, vi x5)] [] h 0
            refine r_aload_n 1 C dX6_spread_70 rfl ?_
            refine gf_X6_35 C dX6_spread_71 ?_
            refine r_iload 0 C dX6_spread_74 rfl ?_
            obtain ⟨o13, v⟩ := v
            refine r_iaload (r := 39) (N := 30) C dX6_spread_76 rfl o13 ?_
            refine r_iconst C dX6_spread_77 ⟨by decide, by decide⟩ ?_
            refine r_icmp_ne (tgt := 112) C dX6_spread_78 (by decide) (fun c14 => ?_) (fun c14 => ?_)
            · have v := v.1 c14
              exact s_sub [1, 2, 3, 4, 5] rfl (B_112 _ _ _ _ _ v)
            · have v := v.2 c14
              refine r_aload_n 1 C dX6_spread_81 rfl ?_
              refine gf_X6_35 C dX6_spread_82 ?_
              refine r_iload 0 C dX6_spread_85 rfl ?_
              refine r_aload_n 1 C dX6_spread_87 rfl ?_
              refine gf_X6_126 C dX6_spread_88 ?_
              obtain ⟨o15, v⟩ := v
              refine s_iastore (r := 39) (N := 30) C dX6_spread_91 rfl hXM (by decide) o15 (fun h16 eh16 => ?_)
              have v := v h16 eh16
              refine r_aload_n 1 C dX6_spread_92 rfl ?_
              refine gf_X6_32 C dX6_spread_93 ?_
              refine r_iload 0 C dX6_spread_96 rfl ?_
              refine r_iload 4 C dX6_spread_98 rfl ?_
              obtain ⟨o17, v⟩ := v
              refine s_iastore (r := 38) (N := 30) C dX6_spread_100 rfl hXM (by decide) o17 (fun h18 eh18 => ?_)
              have v := v h18 eh18
              refine r_aload_n 1 C dX6_spread_101 rfl ?_
              refine gf_X6_38 C dX6_spread_102 ?_
              refine r_iload_n 2 C dX6_spread_105 rfl ?_
              refine r_iload 0 C dX6_spread_106 rfl ?_
              obtain ⟨o19, v⟩ := v
              refine s_iastore (r := 40) (N := 30) C dX6_spread_108 rfl hXM (by decide) o19 (fun h20 eh20 => ?_)
              have v := v h20 eh20
              obtain ⟨o22, v⟩ := v
              refine s_iinc 2 C dX6_spread_109 rfl (by decide) o22 (fun z21 ez21 => ?_)
              have v := v z21 ez21
              show Wh X 112 [(2, vi z21), (6, vi z12), (0, vr 30), (3, vi x3), (4, vi x4), (5, vi x5)] [] h20 0
              exact s_sub [2, 0, 3, 4, 5] rfl (B_112 _ _ _ _ _ v)
      refine r_iload_n 2 C dX6_spread_21 rfl ?_
      refine r_iload_n 1 C dX6_spread_22 rfl ?_
      refine r_icmp_ge (tgt := 124) C dX6_spread_23 (by decide) (fun c23 => ?_) (fun c23 => ?_)
      · have v := v.1 c23
        exact r_return C dX6_spread_124 hXr (Nat.zero_le _) (by rw [hXP]; exact v)
      · have v := v.2 c23
        refine r_aload_n 0 C dX6_spread_26 rfl ?_
        refine gf_X6_38 C dX6_spread_27 ?_
        refine r_iload_n 2 C dX6_spread_30 rfl ?_
        obtain ⟨o24, v⟩ := v
        refine r_iaload (r := 40) (N := 30) C dX6_spread_31 rfl o24 ?_
        refine s_istore C dX6_spread_32 (by decide) (fun z25 ez25 => ?_)
        have v := v z25 ez25
        show Wh X 34 [(4, vi z25), (0, vr 30), (2, vi x2), (3, vi x3)] [] h 0
        refine r_iconst C dX6_spread_34 ⟨by decide, by decide⟩ ?_
        refine s_istore C dX6_spread_35 (by decide) (fun z26 ez26 => ?_)
        have v := v z26 ez26
        show Wh X 37 [(5, vi z26), (4, vi z25), (0, vr 30), (2, vi x2), (3, vi x3)] [] h 0
        obtain ⟨n', hI'⟩ := v
        exact s_sub [2, 3, 4, 1, 0] rfl (B_37 n' _ _ _ _ _ hI')
  show Wh X 0 [(0, vr 30), (1, vi a1)] [] h0 0
  have v := hmain
  unfold V_X6_spread at v
  refine r_iconst C dX6_spread_0 ⟨by decide, by decide⟩ ?_
  refine s_istore_n C dX6_spread_1 (by decide) (fun z27 ez27 => ?_)
  have v := v z27 ez27
  show Wh X 2 [(2, vi z27), (0, vr 30), (1, vi a1)] [] h0 0
  refine r_aload_n 1 C dX6_spread_2 rfl ?_
  refine gf_X6_38 C dX6_spread_3 ?_
  refine r_iconst C dX6_spread_6 ⟨by decide, by decide⟩ ?_
  refine r_iload_n 2 C dX6_spread_7 rfl ?_
  obtain ⟨o28, v⟩ := v
  refine s_iastore (r := 40) (N := 30) C dX6_spread_8 rfl hXM (by decide) o28 (fun h29 eh29 => ?_)
  have v := v h29 eh29
  refine r_aload_n 1 C dX6_spread_9 rfl ?_
  refine gf_X6_35 C dX6_spread_10 ?_
  refine r_iload_n 2 C dX6_spread_13 rfl ?_
  refine r_aload_n 1 C dX6_spread_14 rfl ?_
  refine gf_X6_126 C dX6_spread_15 ?_
  obtain ⟨o30, v⟩ := v
  refine s_iastore (r := 39) (N := 30) C dX6_spread_18 rfl hXM (by decide) o30 (fun h31 eh31 => ?_)
  have v := v h31 eh31
  refine r_iconst C dX6_spread_19 ⟨by decide, by decide⟩ ?_
  refine s_istore_n C dX6_spread_20 (by decide) (fun z32 ez32 => ?_)
  have v := v z32 ez32
  show Wh X 21 [(3, vi z32), (2, vi z27), (0, vr 30), (1, vi a1)] [] h31 0
  obtain ⟨n', hI'⟩ := v
  exact s_sub [2, 1, 0] rfl (B_21 n' _ _ _ hI')

def V_X6_parts (P : Int → Hp → Prop) (p_X6_findTree : Hp → Prop) (q_X6_findTree : Hp → Hp → Prop) (h0 : Hp) : Prop :=
  ∀ h1 : Hp, h1 = hup h0 30 0 0 → (p_X6_findTree h1 ∧ (∀ h3 : Hp, Fr [30, 38, 39, 40] h1 h3 → RH h3 → q_X6_findTree h1 h3 → (P (h3 30 16) h3)))
set_option maxHeartbeats 4000000 in
set_option maxRecDepth 100000 in
theorem w_X6_parts {l : Launch} (P : Int → Hp → Prop) (p_X6_findTree : Hp → Prop) (q_X6_findTree : Hp → Hp → Prop) (h0 : Hp)
    (c_X6_findTree : ∀ (h : Hp), p_X6_findTree h → Ct l yX6_findTree cX6_findTree 2 none 2 48 0 [vr 30] h [30, 38, 39, 40] (fun _ h1 => q_X6_findTree h h1) (fun _ => False))
    (o : RH h0 → V_X6_parts P p_X6_findTree q_X6_findTree h0) :
    Ct l yX6_parts cX6_parts 1 (some .int) 3 69 0 [vr 30] h0 [30, 38, 39, 40] P (fun _ => False) := by
  refine Ct.of (own := RX6) (by decide) rfl (Nat.le_of_ble_eq_true rfl) ?_
  intro X C hXl hXM hXh hXP hXX hXc hXr hav hR0
  have hmain : V_X6_parts P p_X6_findTree q_X6_findTree h0 := o hR0 
  show Wh X 0 [(0, vr 30)] [] h0 0
  have v := hmain
  unfold V_X6_parts at v
  refine r_aload_n 0 C dX6_parts_0 rfl ?_
  refine r_iconst C dX6_parts_1 ⟨by decide, by decide⟩ ?_
  refine pf_X6_59 C dX6_parts_2 hXM (by decide) (fun h1 eh1 => ?_)
  have v := v h1 eh1
  refine r_aload_n 0 C dX6_parts_5 rfl ?_
  obtain ⟨o2, v⟩ := v
  refine s_callv [] [] C dX6_parts_6 ck_X6_133 (r := 30) (fY := 2) (nY := 48) rfl rfl (by decide) (by decide) (Nat.le_of_ble_eq_true rfl) rfl (MY := [30, 38, 39, 40]) hXM (by decide) (by rw [hXl]; exact c_X6_findTree h1 o2) (fun h3 fh3 kh3 qh3 => ?_)
  have v := v h3 fh3 kh3 qh3
  refine r_aload_n 0 C dX6_parts_9 rfl ?_
  refine gf_X6_126 C dX6_parts_10 ?_
  exact r_ireturn C dX6_parts_13 hXr (Nat.zero_le _) (by rw [hXP]; exact v)

def V_X6_genusOf_36 (P : Int → Hp → Prop) (p_X6_findTree : Hp → Prop) (q_X6_findTree : Hp → Hp → Prop) (p_X6_findFaces : Hp → Prop) (q_X6_findFaces : Hp → Hp → Prop) (I_12 : Nat → Hp → Int → Int → Prop) (n_12 : Nat) (h : Hp) (x2 : Int) (y0 : Int) : Prop :=
  ∀ z1 : Int, z1 = y0 → (InR (x2 + 1) ∧ (∀ z2 : Int, z2 = x2 + 1 → (∃ n', n' < n_12 ∧ I_12 n' h z1 z2)))
def V_X6_genusOf_12 (P : Int → Hp → Prop) (p_X6_findTree : Hp → Prop) (q_X6_findTree : Hp → Hp → Prop) (p_X6_findFaces : Hp → Prop) (q_X6_findFaces : Hp → Hp → Prop) (I_12 : Nat → Hp → Int → Int → Prop) (n_12 : Nat) (h : Hp) (x1 : Int) (x2 : Int) : Prop :=
  ((h 30 1) ≤ x2 → InR ((h 30 1) - (h 30 3)) ∧ (InR (((h 30 1) - (h 30 3)) + (h 30 12)) ∧ (InR ((((h 30 1) - (h 30 3)) + (h 30 12)) + x1) ∧ (((0 : Int) < 2 ∧ InR (((((h 30 1) - (h 30 3)) + (h 30 12)) + x1).tdiv 2)) ∧ (InR ((h 30 16) - (((((h 30 1) - (h 30 3)) + (h 30 12)) + x1).tdiv 2)) ∧ (P ((h 30 16) - (((((h 30 1) - (h 30 3)) + (h 30 12)) + x1).tdiv 2)) h)))))) ∧ (¬ (h 30 1) ≤ x2 → ((0 : Int) ≤ x2 ∧ (x2 : Int) < 30) ∧ ((¬ (h 35 x2) = 0 → V_X6_genusOf_36 P p_X6_findTree q_X6_findTree p_X6_findFaces q_X6_findFaces I_12 n_12 h x2 x1) ∧ ((h 35 x2) = 0 → InR (x1 + 1) ∧ (V_X6_genusOf_36 P p_X6_findTree q_X6_findTree p_X6_findFaces q_X6_findFaces I_12 n_12 h x2 (x1 + 1)))))
def V_X6_genusOf (P : Int → Hp → Prop) (p_X6_findTree : Hp → Prop) (q_X6_findTree : Hp → Hp → Prop) (p_X6_findFaces : Hp → Prop) (q_X6_findFaces : Hp → Hp → Prop) (I_12 : Nat → Hp → Int → Int → Prop) (h0 : Hp) : Prop :=
  p_X6_findTree h0 ∧ (∀ h14 : Hp, Fr [30, 38, 39, 40] h0 h14 → RH h14 → q_X6_findTree h0 h14 → (p_X6_findFaces h14 ∧ (∀ h16 : Hp, Fr [30, 37] h14 h16 → RH h16 → q_X6_findFaces h14 h16 → (∀ z17 : Int, z17 = 0 → (∀ z18 : Int, z18 = 0 → (∃ n', I_12 n' h16 z17 z18))))))
set_option maxHeartbeats 4000000 in
set_option maxRecDepth 100000 in
theorem w_X6_genusOf {l : Launch} (P : Int → Hp → Prop) (p_X6_findTree : Hp → Prop) (q_X6_findTree : Hp → Hp → Prop) (p_X6_findFaces : Hp → Prop) (q_X6_findFaces : Hp → Hp → Prop) (I_12 : Nat → Hp → Int → Int → Prop) (h0 : Hp)
    (c_X6_findTree : ∀ (h : Hp), p_X6_findTree h → Ct l yX6_findTree cX6_findTree 2 none 2 48 0 [vr 30] h [30, 38, 39, 40] (fun _ h1 => q_X6_findTree h h1) (fun _ => False))
    (c_X6_findFaces : ∀ (h : Hp), p_X6_findFaces h → Ct l yX6_findFaces cX6_findFaces 3 none 2 47 0 [vr 30] h [30, 37] (fun _ h1 => q_X6_findFaces h h1) (fun _ => False))
    (o_12 : ∀ (n_12 : Nat) (h : Hp) (x1 : Int) (x2 : Int), RH h → Fr [30, 37, 38, 39, 40] h0 h → InR x1 → InR x2 → I_12 n_12 h x1 x2 → V_X6_genusOf_12 P p_X6_findTree q_X6_findTree p_X6_findFaces q_X6_findFaces I_12 n_12 h x1 x2)
    (o : RH h0 → V_X6_genusOf P p_X6_findTree q_X6_findTree p_X6_findFaces q_X6_findFaces I_12 h0) :
    Ct l yX6_genusOf cX6_genusOf 3 (some .int) 3 69 0 [vr 30] h0 [30, 37, 38, 39, 40] P (fun _ => False) := by
  refine Ct.of (own := RX6) (by decide) rfl (Nat.le_of_ble_eq_true rfl) ?_
  intro X C hXl hXM hXh hXP hXX hXc hXr hav hR0
  have hmain : V_X6_genusOf P p_X6_findTree q_X6_findTree p_X6_findFaces q_X6_findFaces I_12 h0 := o hR0 
  have B_12 : ∀ (n_12 : Nat) (h : Hp) (x1 : Int) (x2 : Int), I_12 n_12 h x1 x2 → Wh X 12 [(0, vr 30), (1, vi x1), (2, vi x2)] [] h 0 := by
    intro n_12
    induction n_12 using Nat.strongRecOn with
    | _ n_12 ih_12 =>
      intro h x1 x2 hI
      refine s_use fun hR hF hL => ?_
      have v := o_12 n_12 h x1 x2 hR (by rw [hXM, hXh] at hF; exact hF) (hL (1, vi x1) (by simp)) (hL (2, vi x2) (by simp)) hI
      unfold V_X6_genusOf_12 at v
      have B_36 : ∀ (h : Hp) (x2 : Int) (y0 : Int), V_X6_genusOf_36 P p_X6_findTree q_X6_findTree p_X6_findFaces q_X6_findFaces I_12 n_12 h x2 y0 → Wh X 36 [(0, vr 30), (2, vi x2)] [vi y0] h 0 := by
        intro h x2 y0 v
        unfold V_X6_genusOf_36 at v
        refine s_istore_n C dX6_genusOf_36 (by decide) (fun z1 ez1 => ?_)
        have v := v z1 ez1
        show Wh X 37 [(1, vi z1), (0, vr 30), (2, vi x2)] [] h 0
        obtain ⟨o3, v⟩ := v
        refine s_iinc 2 C dX6_genusOf_37 rfl (by decide) o3 (fun z2 ez2 => ?_)
        have v := v z2 ez2
        show Wh X 40 [(2, vi z2), (1, vi z1), (0, vr 30)] [] h 0
        refine r_goto (tgt := 12) C dX6_genusOf_40 (by decide) ?_
        obtain ⟨n', hn', hI'⟩ := v
        exact s_sub [2, 1, 0] rfl (ih_12 n' hn' _ _ _ hI')
      refine r_iload_n 2 C dX6_genusOf_12 rfl ?_
      refine r_aload_n 0 C dX6_genusOf_13 rfl ?_
      refine gf_X6_63 C dX6_genusOf_14 ?_
      refine r_icmp_ge (tgt := 43) C dX6_genusOf_17 (by decide) (fun c4 => ?_) (fun c4 => ?_)
      · have v := v.1 c4
        refine r_aload_n 0 C dX6_genusOf_43 rfl ?_
        refine gf_X6_126 C dX6_genusOf_44 ?_
        refine r_aload_n 0 C dX6_genusOf_47 rfl ?_
        refine gf_X6_63 C dX6_genusOf_48 ?_
        refine r_aload_n 0 C dX6_genusOf_51 rfl ?_
        refine gf_X6_97 C dX6_genusOf_52 ?_
        obtain ⟨o5, v⟩ := v
        refine r_isub C dX6_genusOf_55 o5 ?_
        refine r_aload_n 0 C dX6_genusOf_56 rfl ?_
        refine gf_X6_111 C dX6_genusOf_57 ?_
        obtain ⟨o6, v⟩ := v
        refine r_iadd C dX6_genusOf_60 o6 ?_
        refine r_iload_n 1 C dX6_genusOf_61 rfl ?_
        obtain ⟨o7, v⟩ := v
        refine r_iadd C dX6_genusOf_62 o7 ?_
        refine r_iconst C dX6_genusOf_63 ⟨by decide, by decide⟩ ?_
        obtain ⟨o8, v⟩ := v
        refine r_idiv C dX6_genusOf_64 o8 ?_
        obtain ⟨o9, v⟩ := v
        refine r_isub C dX6_genusOf_65 o9 ?_
        exact r_ireturn C dX6_genusOf_66 hXr (Nat.zero_le _) (by rw [hXP]; exact v)
      · have v := v.2 c4
        refine r_aload_n 0 C dX6_genusOf_20 rfl ?_
        refine gf_X6_23 C dX6_genusOf_21 ?_
        refine r_iload_n 2 C dX6_genusOf_24 rfl ?_
        obtain ⟨o10, v⟩ := v
        refine r_iaload (r := 35) (N := 30) C dX6_genusOf_25 rfl o10 ?_
        refine r_if_ne (tgt := 35) C dX6_genusOf_26 (by decide) (fun c11 => ?_) (fun c11 => ?_)
        · have v := v.1 c11
          refine r_iload_n 1 C dX6_genusOf_35 rfl ?_
          exact s_sub [0, 2] rfl (B_36 _ _ _ v)
        · have v := v.2 c11
          refine r_iload_n 1 C dX6_genusOf_29 rfl ?_
          refine r_iconst C dX6_genusOf_30 ⟨by decide, by decide⟩ ?_
          obtain ⟨o12, v⟩ := v
          refine r_iadd C dX6_genusOf_31 o12 ?_
          refine r_goto (tgt := 36) C dX6_genusOf_32 (by decide) ?_
          exact s_sub [0, 2] rfl (B_36 _ _ _ v)
  show Wh X 0 [(0, vr 30)] [] h0 0
  have v := hmain
  unfold V_X6_genusOf at v
  refine r_aload_n 0 C dX6_genusOf_0 rfl ?_
  obtain ⟨o13, v⟩ := v
  refine s_callv [] [] C dX6_genusOf_1 ck_X6_133 (r := 30) (fY := 2) (nY := 48) rfl rfl (by decide) (by decide) (Nat.le_of_ble_eq_true rfl) rfl (MY := [30, 38, 39, 40]) hXM (by decide) (by rw [hXl]; exact c_X6_findTree h0 o13) (fun h14 fh14 kh14 qh14 => ?_)
  have v := v h14 fh14 kh14 qh14
  refine r_aload_n 0 C dX6_genusOf_4 rfl ?_
  obtain ⟨o15, v⟩ := v
  refine s_callv [] [] C dX6_genusOf_5 ck_X6_117 (r := 30) (fY := 2) (nY := 47) rfl rfl (by decide) (by decide) (Nat.le_of_ble_eq_true rfl) rfl (MY := [30, 37]) hXM (by decide) (by rw [hXl]; exact c_X6_findFaces h14 o15) (fun h16 fh16 kh16 qh16 => ?_)
  have v := v h16 fh16 kh16 qh16
  refine r_iconst C dX6_genusOf_8 ⟨by decide, by decide⟩ ?_
  refine s_istore_n C dX6_genusOf_9 (by decide) (fun z17 ez17 => ?_)
  have v := v z17 ez17
  show Wh X 10 [(1, vi z17), (0, vr 30)] [] h16 0
  refine r_iconst C dX6_genusOf_10 ⟨by decide, by decide⟩ ?_
  refine s_istore_n C dX6_genusOf_11 (by decide) (fun z18 ez18 => ?_)
  have v := v z18 ez18
  show Wh X 12 [(2, vi z18), (1, vi z17), (0, vr 30)] [] h16 0
  obtain ⟨n', hI'⟩ := v
  exact s_sub [2, 1, 0] rfl (B_12 n' _ _ _ hI')

def V_X6_genus (P : Int → Hp → Prop) (p_X6_genusOf : Hp → Prop) (q_X6_genusOf : Hp → Int → Hp → Prop) (h0 : Hp) : Prop :=
  ∀ h1 : Hp, h1 = hup h0 30 0 0 → (p_X6_genusOf h1 ∧ (∀ (r3 : Int) (h4 : Hp), Fr [30, 37, 38, 39, 40] h1 h4 → RH h4 → InR r3 → q_X6_genusOf h1 r3 h4 → (P r3 h4)))
set_option maxHeartbeats 4000000 in
set_option maxRecDepth 100000 in
theorem w_X6_genus {l : Launch} (P : Int → Hp → Prop) (p_X6_genusOf : Hp → Prop) (q_X6_genusOf : Hp → Int → Hp → Prop) (h0 : Hp)
    (c_X6_genusOf : ∀ (h : Hp), p_X6_genusOf h → Ct l yX6_genusOf cX6_genusOf 3 (some .int) 3 69 0 [vr 30] h [30, 37, 38, 39, 40] (fun r h1 => q_X6_genusOf h r h1) (fun _ => False))
    (o : RH h0 → V_X6_genus P p_X6_genusOf q_X6_genusOf h0) :
    Ct l yX6_genus cX6_genus 1 (some .int) 4 91 0 [vr 30] h0 [30, 37, 38, 39, 40] P (fun _ => False) := by
  refine Ct.of (own := RX6) (by decide) rfl (Nat.le_of_ble_eq_true rfl) ?_
  intro X C hXl hXM hXh hXP hXX hXc hXr hav hR0
  have hmain : V_X6_genus P p_X6_genusOf q_X6_genusOf h0 := o hR0 
  show Wh X 0 [(0, vr 30)] [] h0 0
  have v := hmain
  unfold V_X6_genus at v
  refine r_aload_n 0 C dX6_genus_0 rfl ?_
  refine r_iconst C dX6_genus_1 ⟨by decide, by decide⟩ ?_
  refine pf_X6_59 C dX6_genus_2 hXM (by decide) (fun h1 eh1 => ?_)
  have v := v h1 eh1
  refine r_aload_n 0 C dX6_genus_5 rfl ?_
  obtain ⟨o2, v⟩ := v
  refine s_calli [] [] C dX6_genus_6 ck_X6_136 (r := 30) (fY := 3) (nY := 69) rfl rfl (by decide) (by decide) (Nat.le_of_ble_eq_true rfl) rfl (MY := [30, 37, 38, 39, 40]) hXM (by decide) (by rw [hXl]; exact c_X6_genusOf h1 o2) (fun r3 h4 fr3 kr3 gr3 qr3 => ?_)
  have v := v r3 h4 fr3 kr3 gr3 qr3
  exact r_ireturn C dX6_genus_9 hXr (Nat.zero_le _) (by rw [hXP]; exact v)

def V_X6_above_14 (P : Int → Hp → Prop) (p_X6_isVertex : Int → Hp → Prop) (q_X6_isVertex : Int → Hp → Int → Prop) (p_X6_findTree : Hp → Prop) (q_X6_findTree : Hp → Hp → Prop) (h : Hp) (x1 : Int) (y1 : Int) : Prop :=
  ∀ h1 : Hp, h1 = hup h 30 0 y1 → (((h1 30 0) ≤ 0 → p_X6_findTree h1 ∧ (∀ h4 : Hp, Fr [30, 38, 39, 40] h1 h4 → RH h4 → q_X6_findTree h1 h4 → (((0 : Int) ≤ x1 ∧ (x1 : Int) < 30) ∧ (P (h4 38 x1) h4)))) ∧ (¬ (h1 30 0) ≤ 0 → P 0 h1))
def V_X6_above (P : Int → Hp → Prop) (p_X6_isVertex : Int → Hp → Prop) (q_X6_isVertex : Int → Hp → Int → Prop) (p_X6_findTree : Hp → Prop) (q_X6_findTree : Hp → Hp → Prop) (h0 : Hp) (a1 : Int) : Prop :=
  p_X6_isVertex a1 h0 ∧ (∀ r7 : Int, InR r7 → q_X6_isVertex a1 h0 r7 → ((r7 = 0 → V_X6_above_14 P p_X6_isVertex q_X6_isVertex p_X6_findTree q_X6_findTree h0 a1 1) ∧ (¬ r7 = 0 → V_X6_above_14 P p_X6_isVertex q_X6_isVertex p_X6_findTree q_X6_findTree h0 a1 0)))
set_option maxHeartbeats 4000000 in
set_option maxRecDepth 100000 in
theorem w_X6_above {l : Launch} (P : Int → Hp → Prop) (p_X6_isVertex : Int → Hp → Prop) (q_X6_isVertex : Int → Hp → Int → Prop) (p_X6_findTree : Hp → Prop) (q_X6_findTree : Hp → Hp → Prop) (h0 : Hp) (a1 : Int)
    (c_X6_isVertex : ∀ (b1 : Int) (h : Hp), p_X6_isVertex b1 h → Ct l yX6_isVertex cX6_isVertex 2 (some .boolean) 0 0 0 [vr 30, vi b1] h [] (fun r _ => q_X6_isVertex b1 h r) (fun _ => False))
    (c_X6_findTree : ∀ (h : Hp), p_X6_findTree h → Ct l yX6_findTree cX6_findTree 2 none 2 48 0 [vr 30] h [30, 38, 39, 40] (fun _ h1 => q_X6_findTree h h1) (fun _ => False))
    (o : RH h0 → InR a1 → V_X6_above P p_X6_isVertex q_X6_isVertex p_X6_findTree q_X6_findTree h0 a1) :
    Ct l yX6_above cX6_above 2 (some .int) 3 69 0 [vr 30, vi a1] h0 [30, 38, 39, 40] P (fun _ => False) := by
  refine Ct.of (own := RX6) (by decide) rfl (Nat.le_of_ble_eq_true rfl) ?_
  intro X C hXl hXM hXh hXP hXX hXc hXr hav hR0
  have hmain : V_X6_above P p_X6_isVertex q_X6_isVertex p_X6_findTree q_X6_findTree h0 a1 := o hR0 (hav (vi a1) (by simp))
  have B_14 : ∀ (h : Hp) (x1 : Int) (y1 : Int), V_X6_above_14 P p_X6_isVertex q_X6_isVertex p_X6_findTree q_X6_findTree h x1 y1 → Wh X 14 [(0, vr 30), (1, vi x1)] [vi y1, vr 30] h 0 := by
    intro h x1 y1 v
    unfold V_X6_above_14 at v
    refine pf_X6_59 C dX6_above_14 hXM (by decide) (fun h1 eh1 => ?_)
    have v := v h1 eh1
    refine r_aload_n 0 C dX6_above_17 rfl ?_
    refine gf_X6_59 C dX6_above_18 ?_
    refine r_if_le (tgt := 26) C dX6_above_21 (by decide) (fun c2 => ?_) (fun c2 => ?_)
    · have v := v.1 c2
      refine r_aload_n 0 C dX6_above_26 rfl ?_
      obtain ⟨o3, v⟩ := v
      refine s_callv [] [] C dX6_above_27 ck_X6_133 (r := 30) (fY := 2) (nY := 48) rfl rfl (by decide) (by decide) (Nat.le_of_ble_eq_true rfl) rfl (MY := [30, 38, 39, 40]) hXM (by decide) (by rw [hXl]; exact c_X6_findTree h1 o3) (fun h4 fh4 kh4 qh4 => ?_)
      have v := v h4 fh4 kh4 qh4
      refine r_aload_n 0 C dX6_above_30 rfl ?_
      refine gf_X6_32 C dX6_above_31 ?_
      refine r_iload_n 1 C dX6_above_34 rfl ?_
      obtain ⟨o5, v⟩ := v
      refine r_iaload (r := 38) (N := 30) C dX6_above_35 rfl o5 ?_
      exact r_ireturn C dX6_above_36 hXr (Nat.zero_le _) (by rw [hXP]; exact v)
    · have v := v.2 c2
      refine r_iconst C dX6_above_24 ⟨by decide, by decide⟩ ?_
      exact r_ireturn C dX6_above_25 hXr (Nat.zero_le _) (by rw [hXP]; exact v)
  show Wh X 0 [(0, vr 30), (1, vi a1)] [] h0 0
  have v := hmain
  unfold V_X6_above at v
  refine r_aload_n 0 C dX6_above_0 rfl ?_
  refine r_aload_n 0 C dX6_above_1 rfl ?_
  refine r_iload_n 1 C dX6_above_2 rfl ?_
  obtain ⟨o6, v⟩ := v
  refine s_calli0 [a1] [vr 30] C dX6_above_3 ck_X6_79 (r := 30) (fY := 0) (nY := 0) rfl rfl (by decide) (by decide) (Nat.le_of_ble_eq_true rfl) rfl (by rw [hXl]; exact c_X6_isVertex a1 h0 o6) (fun r7 gr7 qr7 => ?_)
  have v := v r7 gr7 qr7
  refine r_if_eq (tgt := 13) C dX6_above_6 (by decide) (fun c8 => ?_) (fun c8 => ?_)
  · have v := v.1 c8
    refine r_iconst C dX6_above_13 ⟨by decide, by decide⟩ ?_
    exact s_sub [0, 1] rfl (B_14 _ _ _ v)
  · have v := v.2 c8
    refine r_iconst C dX6_above_9 ⟨by decide, by decide⟩ ?_
    refine r_goto (tgt := 14) C dX6_above_10 (by decide) ?_
    exact s_sub [0, 1] rfl (B_14 _ _ _ v)

def V_X6_findChain_171 (P : Int → Hp → Prop) (p_X6_far : Int → Int → Hp → Prop) (q_X6_far : Int → Int → Hp → Int → Prop) (I_3 : Nat → Hp → Int → Int → Int → Int → Prop) (I_46 : Nat → Hp → Int → Int → Int → Prop) (I_67 : Nat → Nat → Hp → Int → Int → Int → Int → Int → Prop) (n_46 : Nat) (n_67 : Nat) (h : Hp) (x2 : Int) (x3 : Int) (x4 : Int) (x5 : Int) (x6 : Int) : Prop :=
  InR (x6 + 1) ∧ (∀ z1 : Int, z1 = x6 + 1 → (∃ n', n' < n_67 ∧ I_67 n_46 n' h x2 x3 x4 x5 z1))
def V_X6_findChain_142 (P : Int → Hp → Prop) (p_X6_far : Int → Int → Hp → Prop) (q_X6_far : Int → Int → Hp → Int → Prop) (I_3 : Nat → Hp → Int → Int → Int → Int → Prop) (I_46 : Nat → Hp → Int → Int → Int → Prop) (I_67 : Nat → Nat → Hp → Int → Int → Int → Int → Int → Prop) (n_46 : Nat) (n_67 : Nat) (h : Hp) (x2 : Int) (x3 : Int) (x4 : Int) (x5 : Int) (x6 : Int) (x7 : Int) : Prop :=
  ((0 : Int) ≤ x7 ∧ (x7 : Int) < 30) ∧ (∀ h4 : Hp, h4 = hup h 43 x7 1 → (((0 : Int) ≤ (h4 30 20) ∧ ((h4 30 20) : Int) < 30) ∧ (∀ h6 : Hp, h6 = hup h4 40 (h4 30 20) x7 → (InR ((h6 30 20) + 1) ∧ (∀ h8 : Hp, h8 = hup h6 30 20 ((h6 30 20) + 1) → (V_X6_findChain_171 P p_X6_far q_X6_far I_3 I_46 I_67 n_46 n_67 h8 x2 x3 x4 x5 x6))))))
def V_X6_findChain_67 (P : Int → Hp → Prop) (p_X6_far : Int → Int → Hp → Prop) (q_X6_far : Int → Int → Hp → Int → Prop) (I_3 : Nat → Hp → Int → Int → Int → Int → Prop) (I_46 : Nat → Hp → Int → Int → Int → Prop) (I_67 : Nat → Nat → Hp → Int → Int → Int → Int → Int → Prop) (n_46 : Nat) (n_67 : Nat) (h : Hp) (x2 : Int) (x3 : Int) (x4 : Int) (x5 : Int) (x6 : Int) : Prop :=
  ((0 : Int) ≤ x5 ∧ (x5 : Int) < 30) ∧ (((h 35 x5) ≤ x6 → InR (x4 + 1) ∧ (∀ z11 : Int, z11 = x4 + 1 → (∃ n', n' < n_46 ∧ I_46 n' h x2 x3 z11))) ∧ (¬ (h 35 x5) ≤ x6 → InR (30 * x5) ∧ (InR ((30 * x5) + x6) ∧ (((0 : Int) ≤ ((30 * x5) + x6) ∧ (((30 * x5) + x6) : Int) < 900) ∧ (p_X6_far (h 34 ((30 * x5) + x6)) x5 h ∧ (∀ r17 : Int, InR r17 → q_X6_far (h 34 ((30 * x5) + x6)) x5 h r17 → (∀ z18 : Int, z18 = r17 → (((0 : Int) ≤ z18 ∧ (z18 : Int) < 30) ∧ (((h 42 z18) = 0 → V_X6_findChain_171 P p_X6_far q_X6_far I_3 I_46 I_67 n_46 n_67 h x2 x3 x4 x5 x6) ∧ (¬ (h 42 z18) = 0 → ((0 : Int) ≤ z18 ∧ (z18 : Int) < 30) ∧ ((¬ (h 43 z18) = 0 → V_X6_findChain_171 P p_X6_far q_X6_far I_3 I_46 I_67 n_46 n_67 h x2 x3 x4 x5 x6) ∧ ((h 43 z18) = 0 → ((0 : Int) ≤ z18 ∧ (z18 : Int) < 30) ∧ (((h 36 z18) = x2 → V_X6_findChain_142 P p_X6_far q_X6_far I_3 I_46 I_67 n_46 n_67 h x2 x3 x4 x5 x6 z18) ∧ (¬ (h 36 z18) = x2 → ((0 : Int) ≤ z18 ∧ (z18 : Int) < 30) ∧ ((¬ (h 36 z18) = x3 → V_X6_findChain_171 P p_X6_far q_X6_far I_3 I_46 I_67 n_46 n_67 h x2 x3 x4 x5 x6) ∧ ((h 36 z18) = x3 → V_X6_findChain_142 P p_X6_far q_X6_far I_3 I_46 I_67 n_46 n_67 h x2 x3 x4 x5 x6 z18))))))))))))))))
def V_X6_findChain_46 (P : Int → Hp → Prop) (p_X6_far : Int → Int → Hp → Prop) (q_X6_far : Int → Int → Hp → Int → Prop) (I_3 : Nat → Hp → Int → Int → Int → Int → Prop) (I_46 : Nat → Hp → Int → Int → Int → Prop) (I_67 : Nat → Nat → Hp → Int → Int → Int → Int → Int → Prop) (n_46 : Nat) (h : Hp) (x2 : Int) (x3 : Int) (x4 : Int) : Prop :=
  ((h 30 20) ≤ x4 → P 0 h) ∧ (¬ (h 30 20) ≤ x4 → ((0 : Int) ≤ x4 ∧ (x4 : Int) < 30) ∧ (∀ z29 : Int, z29 = (h 40 x4) → (∀ z30 : Int, z30 = 0 → (∃ n', I_67 n_46 n' h x2 x3 x4 z29 z30))))
def V_X6_findChain_3 (P : Int → Hp → Prop) (p_X6_far : Int → Int → Hp → Prop) (q_X6_far : Int → Int → Hp → Int → Prop) (I_3 : Nat → Hp → Int → Int → Int → Int → Prop) (I_46 : Nat → Hp → Int → Int → Int → Prop) (I_67 : Nat → Nat → Hp → Int → Int → Int → Int → Int → Prop) (n_3 : Nat) (h : Hp) (x1 : Int) (x2 : Int) (x3 : Int) (x4 : Int) : Prop :=
  (30 ≤ x4 → ((0 : Int) ≤ x1 ∧ (x1 : Int) < 30) ∧ (∀ h33 : Hp, h33 = hup h 43 x1 1 → (((0 : Int) ≤ 0 ∧ (0 : Int) < 30) ∧ (∀ h35 : Hp, h35 = hup h33 40 0 x1 → (∀ h36 : Hp, h36 = hup h35 30 20 1 → (∀ z37 : Int, z37 = 0 → (∃ n', I_46 n' h36 x2 x3 z37))))))) ∧ (¬ 30 ≤ x4 → ((0 : Int) ≤ x4 ∧ (x4 : Int) < 30) ∧ (∀ h39 : Hp, h39 = hup h 43 x4 0 → (InR (x4 + 1) ∧ (∀ z40 : Int, z40 = x4 + 1 → (∃ n', n' < n_3 ∧ I_3 n' h39 x1 x2 x3 z40)))))
def V_X6_findChain (P : Int → Hp → Prop) (p_X6_far : Int → Int → Hp → Prop) (q_X6_far : Int → Int → Hp → Int → Prop) (I_3 : Nat → Hp → Int → Int → Int → Int → Prop) (I_46 : Nat → Hp → Int → Int → Int → Prop) (I_67 : Nat → Nat → Hp → Int → Int → Int → Int → Int → Prop) (h0 : Hp) (a1 : Int) (a2 : Int) (a3 : Int) : Prop :=
  ∀ z42 : Int, z42 = 0 → (∃ n', I_3 n' h0 a1 a2 a3 z42)
set_option maxHeartbeats 4000000 in
set_option maxRecDepth 100000 in
theorem w_X6_findChain {l : Launch} (P : Int → Hp → Prop) (p_X6_far : Int → Int → Hp → Prop) (q_X6_far : Int → Int → Hp → Int → Prop) (I_3 : Nat → Hp → Int → Int → Int → Int → Prop) (I_46 : Nat → Hp → Int → Int → Int → Prop) (I_67 : Nat → Nat → Hp → Int → Int → Int → Int → Int → Prop) (h0 : Hp) (a1 : Int) (a2 : Int) (a3 : Int)
    (c_X6_far : ∀ (b1 : Int) (b2 : Int) (h : Hp), p_X6_far b1 b2 h → Ct l yX6_far cX6_far 3 (some .int) 0 0 0 [vr 30, vi b1, vi b2] h [] (fun r _ => q_X6_far b1 b2 h r) (fun _ => False))
    (o_3 : ∀ (n_3 : Nat) (h : Hp) (x1 : Int) (x2 : Int) (x3 : Int) (x4 : Int), RH h → Fr [30, 40, 43] h0 h → InR x1 → InR x2 → InR x3 → InR x4 → I_3 n_3 h x1 x2 x3 x4 → V_X6_findChain_3 P p_X6_far q_X6_far I_3 I_46 I_67 n_3 h x1 x2 x3 x4)
    (o_46 : ∀ (n_46 : Nat) (h : Hp) (x2 : Int) (x3 : Int) (x4 : Int), RH h → Fr [30, 40, 43] h0 h → InR x2 → InR x3 → InR x4 → I_46 n_46 h x2 x3 x4 → V_X6_findChain_46 P p_X6_far q_X6_far I_3 I_46 I_67 n_46 h x2 x3 x4)
    (o_67 : ∀ (n_46 n_67 : Nat) (h : Hp) (x2 : Int) (x3 : Int) (x4 : Int) (x5 : Int) (x6 : Int), RH h → Fr [30, 40, 43] h0 h → InR x2 → InR x3 → InR x4 → InR x5 → InR x6 → I_67 n_46 n_67 h x2 x3 x4 x5 x6 → V_X6_findChain_67 P p_X6_far q_X6_far I_3 I_46 I_67 n_46 n_67 h x2 x3 x4 x5 x6)
    (o : RH h0 → InR a1 → InR a2 → InR a3 → V_X6_findChain P p_X6_far q_X6_far I_3 I_46 I_67 h0 a1 a2 a3) :
    Ct l yX6_findChain cX6_findChain 8 none 1 22 0 [vr 30, vi a1, vi a2, vi a3] h0 [30, 40, 43] P (fun _ => False) := by
  refine Ct.of (own := RX6) (by decide) rfl (Nat.le_of_ble_eq_true rfl) ?_
  intro X C hXl hXM hXh hXP hXX hXc hXr hav hR0
  have hmain : V_X6_findChain P p_X6_far q_X6_far I_3 I_46 I_67 h0 a1 a2 a3 := o hR0 (hav (vi a1) (by simp)) (hav (vi a2) (by simp)) (hav (vi a3) (by simp))
  have B_46 : ∀ (n_46 : Nat) (h : Hp) (x2 : Int) (x3 : Int) (x4 : Int), I_46 n_46 h x2 x3 x4 → Wh X 46 [(0, vr 30), (2, vi x2), (3, vi x3), (4, vi x4)] [] h 0 := by
    intro n_46
    induction n_46 using Nat.strongRecOn with
    | _ n_46 ih_46 =>
      intro h x2 x3 x4 hI
      refine s_use fun hR hF hL => ?_
      have v := o_46 n_46 h x2 x3 x4 hR (by rw [hXM, hXh] at hF; exact hF) (hL (2, vi x2) (by simp)) (hL (3, vi x3) (by simp)) (hL (4, vi x4) (by simp)) hI
      unfold V_X6_findChain_46 at v
      have B_67 : ∀ (n_67 : Nat) (h : Hp) (x2 : Int) (x3 : Int) (x4 : Int) (x5 : Int) (x6 : Int), I_67 n_46 n_67 h x2 x3 x4 x5 x6 → Wh X 67 [(0, vr 30), (2, vi x2), (3, vi x3), (4, vi x4), (5, vi x5), (6, vi x6)] [] h 0 := by
        intro n_67
        induction n_67 using Nat.strongRecOn with
        | _ n_67 ih_67 =>
          intro h x2 x3 x4 x5 x6 hI
          refine s_use fun hR hF hL => ?_
          have v := o_67 n_46 n_67 h x2 x3 x4 x5 x6 hR (by rw [hXM, hXh] at hF; exact hF) (hL (2, vi x2) (by simp)) (hL (3, vi x3) (by simp)) (hL (4, vi x4) (by simp)) (hL (5, vi x5) (by simp)) (hL (6, vi x6) (by simp)) hI
          unfold V_X6_findChain_67 at v
          have B_171 : ∀ (h : Hp) (x2 : Int) (x3 : Int) (x4 : Int) (x5 : Int) (x6 : Int), V_X6_findChain_171 P p_X6_far q_X6_far I_3 I_46 I_67 n_46 n_67 h x2 x3 x4 x5 x6 → Wh X 171 [(0, vr 30), (2, vi x2), (3, vi x3), (4, vi x4), (5, vi x5), (6, vi x6)] [] h 0 := by
            intro h x2 x3 x4 x5 x6 v
            unfold V_X6_findChain_171 at v
            obtain ⟨o2, v⟩ := v
            refine s_iinc 5 C dX6_findChain_171 rfl (by decide) o2 (fun z1 ez1 => ?_)
            have v := v z1 ez1
            show Wh X 174 [(6, vi z1), (0, vr 30), (2, vi x2), (3, vi x3), (4, vi x4), (5, vi x5)] [] h 0
            refine r_goto (tgt := 67) C dX6_findChain_174 (by decide) ?_
            obtain ⟨n', hn', hI'⟩ := v
            exact s_sub [1, 2, 3, 4, 5, 0] rfl (ih_67 n' hn' _ _ _ _ _ _ hI')
          have B_142 : ∀ (h : Hp) (x2 : Int) (x3 : Int) (x4 : Int) (x5 : Int) (x6 : Int) (x7 : Int), V_X6_findChain_142 P p_X6_far q_X6_far I_3 I_46 I_67 n_46 n_67 h x2 x3 x4 x5 x6 x7 → Wh X 142 [(0, vr 30), (2, vi x2), (3, vi x3), (4, vi x4), (5, vi x5), (6, vi x6), (7, vi x7)] [] h 0 := by
            intro h x2 x3 x4 x5 x6 x7 v
            unfold V_X6_findChain_142 at v
            refine r_aload_n 0 C dX6_findChain_142 rfl ?_
            refine gf_X6_47 C dX6_findChain_143 ?_
            refine r_iload 6 C dX6_findChain_146 rfl ?_
            refine r_iconst C dX6_findChain_148 ⟨by decide, by decide⟩ ?_
            obtain ⟨o3, v⟩ := v
            refine s_bastore (r := 43) (N := 30) C dX6_findChain_149 rfl hXM (by decide) o3 (by decide) (fun h4 eh4 => ?_)
            have v := v h4 eh4
            refine r_aload_n 0 C dX6_findChain_150 rfl ?_
            refine gf_X6_38 C dX6_findChain_151 ?_
            refine r_aload_n 0 C dX6_findChain_154 rfl ?_
            refine gf_X6_140 C dX6_findChain_155 ?_
            refine r_iload 6 C dX6_findChain_158 rfl ?_
            obtain ⟨o5, v⟩ := v
            refine s_iastore (r := 40) (N := 30) C dX6_findChain_160 rfl hXM (by decide) o5 (fun h6 eh6 => ?_)
            have v := v h6 eh6
            refine r_aload_n 0 C dX6_findChain_161 rfl ?_
            refine r_dup C dX6_findChain_162 trivial ?_
            refine gf_X6_140 C dX6_findChain_163 ?_
            refine r_iconst C dX6_findChain_166 ⟨by decide, by decide⟩ ?_
            obtain ⟨o7, v⟩ := v
            refine r_iadd C dX6_findChain_167 o7 ?_
            refine pf_X6_140 C dX6_findChain_168 hXM (by decide) (fun h8 eh8 => ?_)
            have v := v h8 eh8
            exact s_sub [0, 1, 2, 3, 4, 5] rfl (B_171 _ _ _ _ _ _ v)
          refine r_iload 5 C dX6_findChain_67 rfl ?_
          refine r_aload_n 0 C dX6_findChain_69 rfl ?_
          refine gf_X6_23 C dX6_findChain_70 ?_
          refine r_iload 4 C dX6_findChain_73 rfl ?_
          obtain ⟨o9, v⟩ := v
          refine r_iaload (r := 35) (N := 30) C dX6_findChain_75 rfl o9 ?_
          refine r_icmp_ge (tgt := 177) C dX6_findChain_76 (by decide) (fun c10 => ?_) (fun c10 => ?_)
          · have v := v.1 c10
            obtain ⟨o12, v⟩ := v
            refine s_iinc 3 C dX6_findChain_177 rfl (by decide) o12 (fun z11 ez11 => ?_)
            have v := v z11 ez11
            show Wh X 180 [(4, vi z11), (0, vr 30), (2, vi x2), (3, vi x3), (5, vi x5), (6, vi x6)] [] h 0
            refine r_goto (tgt := 46) C dX6_findChain_180 (by decide) ?_
            obtain ⟨n', hn', hI'⟩ := v
            exact s_sub [1, 2, 3, 0] rfl (ih_46 n' hn' _ _ _ _ hI')
          · have v := v.2 c10
            refine r_aload_n 0 C dX6_findChain_79 rfl ?_
            refine r_aload_n 0 C dX6_findChain_80 rfl ?_
            refine gf_X6_20 C dX6_findChain_81 ?_
            refine r_bipush C dX6_findChain_84 ⟨by decide, by decide⟩ (by decide) ?_
            refine r_iload 4 C dX6_findChain_86 rfl ?_
            obtain ⟨o13, v⟩ := v
            refine r_imul C dX6_findChain_88 o13 ?_
            refine r_iload 5 C dX6_findChain_89 rfl ?_
            obtain ⟨o14, v⟩ := v
            refine r_iadd C dX6_findChain_91 o14 ?_
            obtain ⟨o15, v⟩ := v
            refine r_iaload (r := 34) (N := 900) C dX6_findChain_92 rfl o15 ?_
            refine r_iload 4 C dX6_findChain_93 rfl ?_
            obtain ⟨o16, v⟩ := v
            refine s_calli0 [(h 34 ((30 * x5) + x6)), x5] [] C dX6_findChain_95 ck_X6_69 (r := 30) (fY := 0) (nY := 0) rfl rfl (by decide) (by decide) (Nat.le_of_ble_eq_true rfl) rfl (by rw [hXl]; exact c_X6_far (h 34 ((30 * x5) + x6)) x5 h o16) (fun r17 gr17 qr17 => ?_)
            have v := v r17 gr17 qr17
            refine s_istore C dX6_findChain_98 (by decide) (fun z18 ez18 => ?_)
            have v := v z18 ez18
            show Wh X 100 [(7, vi z18), (0, vr 30), (2, vi x2), (3, vi x3), (4, vi x4), (5, vi x5), (6, vi x6)] [] h 0
            refine r_aload_n 1 C dX6_findChain_100 rfl ?_
            refine gf_X6_44 C dX6_findChain_101 ?_
            refine r_iload 0 C dX6_findChain_104 rfl ?_
            obtain ⟨o19, v⟩ := v
            refine r_baload (r := 42) (N := 30) C dX6_findChain_106 rfl o19 ?_
            refine r_if_eq (tgt := 171) C dX6_findChain_107 (by decide) (fun c20 => ?_) (fun c20 => ?_)
            · have v := v.1 c20
              exact s_sub [1, 2, 3, 4, 5, 6] rfl (B_171 _ _ _ _ _ _ v)
            · have v := v.2 c20
              refine r_aload_n 1 C dX6_findChain_110 rfl ?_
              refine gf_X6_47 C dX6_findChain_111 ?_
              refine r_iload 0 C dX6_findChain_114 rfl ?_
              obtain ⟨o21, v⟩ := v
              refine r_baload (r := 43) (N := 30) C dX6_findChain_116 rfl o21 ?_
              refine r_if_ne (tgt := 171) C dX6_findChain_117 (by decide) (fun c22 => ?_) (fun c22 => ?_)
              · have v := v.1 c22
                exact s_sub [1, 2, 3, 4, 5, 6] rfl (B_171 _ _ _ _ _ _ v)
              · have v := v.2 c22
                refine r_aload_n 1 C dX6_findChain_120 rfl ?_
                refine gf_X6_26 C dX6_findChain_121 ?_
                refine r_iload 0 C dX6_findChain_124 rfl ?_
                obtain ⟨o23, v⟩ := v
                refine r_iaload (r := 36) (N := 30) C dX6_findChain_126 rfl o23 ?_
                refine r_iload_n 2 C dX6_findChain_127 rfl ?_
                refine r_icmp_eq (tgt := 142) C dX6_findChain_128 (by decide) (fun c24 => ?_) (fun c24 => ?_)
                · have v := v.1 c24
                  exact s_sub [1, 2, 3, 4, 5, 6, 0] rfl (B_142 _ _ _ _ _ _ _ v)
                · have v := v.2 c24
                  refine r_aload_n 1 C dX6_findChain_131 rfl ?_
                  refine gf_X6_26 C dX6_findChain_132 ?_
                  refine r_iload 0 C dX6_findChain_135 rfl ?_
                  obtain ⟨o25, v⟩ := v
                  refine r_iaload (r := 36) (N := 30) C dX6_findChain_137 rfl o25 ?_
                  refine r_iload_n 3 C dX6_findChain_138 rfl ?_
                  refine r_icmp_ne (tgt := 171) C dX6_findChain_139 (by decide) (fun c26 => ?_) (fun c26 => ?_)
                  · have v := v.1 c26
                    exact s_sub [1, 2, 3, 4, 5, 6] rfl (B_171 _ _ _ _ _ _ v)
                  · have v := v.2 c26
                    exact s_sub [1, 2, 3, 4, 5, 6, 0] rfl (B_142 _ _ _ _ _ _ _ v)
      refine r_iload 3 C dX6_findChain_46 rfl ?_
      refine r_aload_n 0 C dX6_findChain_48 rfl ?_
      refine gf_X6_140 C dX6_findChain_49 ?_
      refine r_icmp_ge (tgt := 183) C dX6_findChain_52 (by decide) (fun c27 => ?_) (fun c27 => ?_)
      · have v := v.1 c27
        exact r_return C dX6_findChain_183 hXr (Nat.zero_le _) (by rw [hXP]; exact v)
      · have v := v.2 c27
        refine r_aload_n 0 C dX6_findChain_55 rfl ?_
        refine gf_X6_38 C dX6_findChain_56 ?_
        refine r_iload 3 C dX6_findChain_59 rfl ?_
        obtain ⟨o28, v⟩ := v
        refine r_iaload (r := 40) (N := 30) C dX6_findChain_61 rfl o28 ?_
        refine s_istore C dX6_findChain_62 (by decide) (fun z29 ez29 => ?_)
        have v := v z29 ez29
        show Wh X 64 [(5, vi z29), (0, vr 30), (2, vi x2), (3, vi x3), (4, vi x4)] [] h 0
        refine r_iconst C dX6_findChain_64 ⟨by decide, by decide⟩ ?_
        refine s_istore C dX6_findChain_65 (by decide) (fun z30 ez30 => ?_)
        have v := v z30 ez30
        show Wh X 67 [(6, vi z30), (5, vi z29), (0, vr 30), (2, vi x2), (3, vi x3), (4, vi x4)] [] h 0
        obtain ⟨n', hI'⟩ := v
        exact s_sub [2, 3, 4, 5, 1, 0] rfl (B_67 n' _ _ _ _ _ _ hI')
  have B_3 : ∀ (n_3 : Nat) (h : Hp) (x1 : Int) (x2 : Int) (x3 : Int) (x4 : Int), I_3 n_3 h x1 x2 x3 x4 → Wh X 3 [(0, vr 30), (1, vi x1), (2, vi x2), (3, vi x3), (4, vi x4)] [] h 0 := by
    intro n_3
    induction n_3 using Nat.strongRecOn with
    | _ n_3 ih_3 =>
      intro h x1 x2 x3 x4 hI
      refine s_use fun hR hF hL => ?_
      have v := o_3 n_3 h x1 x2 x3 x4 hR (by rw [hXM, hXh] at hF; exact hF) (hL (1, vi x1) (by simp)) (hL (2, vi x2) (by simp)) (hL (3, vi x3) (by simp)) (hL (4, vi x4) (by simp)) hI
      unfold V_X6_findChain_3 at v
      refine r_iload 4 C dX6_findChain_3 rfl ?_
      refine r_bipush C dX6_findChain_5 ⟨by decide, by decide⟩ (by decide) ?_
      refine r_icmp_ge (tgt := 24) C dX6_findChain_7 (by decide) (fun c31 => ?_) (fun c31 => ?_)
      · have v := v.1 c31
        refine r_aload_n 0 C dX6_findChain_24 rfl ?_
        refine gf_X6_47 C dX6_findChain_25 ?_
        refine r_iload_n 1 C dX6_findChain_28 rfl ?_
        refine r_iconst C dX6_findChain_29 ⟨by decide, by decide⟩ ?_
        obtain ⟨o32, v⟩ := v
        refine s_bastore (r := 43) (N := 30) C dX6_findChain_30 rfl hXM (by decide) o32 (by decide) (fun h33 eh33 => ?_)
        have v := v h33 eh33
        refine r_aload_n 0 C dX6_findChain_31 rfl ?_
        refine gf_X6_38 C dX6_findChain_32 ?_
        refine r_iconst C dX6_findChain_35 ⟨by decide, by decide⟩ ?_
        refine r_iload_n 1 C dX6_findChain_36 rfl ?_
        obtain ⟨o34, v⟩ := v
        refine s_iastore (r := 40) (N := 30) C dX6_findChain_37 rfl hXM (by decide) o34 (fun h35 eh35 => ?_)
        have v := v h35 eh35
        refine r_aload_n 0 C dX6_findChain_38 rfl ?_
        refine r_iconst C dX6_findChain_39 ⟨by decide, by decide⟩ ?_
        refine pf_X6_140 C dX6_findChain_40 hXM (by decide) (fun h36 eh36 => ?_)
        have v := v h36 eh36
        refine r_iconst C dX6_findChain_43 ⟨by decide, by decide⟩ ?_
        refine s_istore C dX6_findChain_44 (by decide) (fun z37 ez37 => ?_)
        have v := v z37 ez37
        show Wh X 46 [(4, vi z37), (0, vr 30), (1, vi x1), (2, vi x2), (3, vi x3)] [] h36 0
        obtain ⟨n', hI'⟩ := v
        exact s_sub [1, 3, 4, 0] rfl (B_46 n' _ _ _ _ hI')
      · have v := v.2 c31
        refine r_aload_n 0 C dX6_findChain_10 rfl ?_
        refine gf_X6_47 C dX6_findChain_11 ?_
        refine r_iload 4 C dX6_findChain_14 rfl ?_
        refine r_iconst C dX6_findChain_16 ⟨by decide, by decide⟩ ?_
        obtain ⟨o38, v⟩ := v
        refine s_bastore (r := 43) (N := 30) C dX6_findChain_17 rfl hXM (by decide) o38 (by decide) (fun h39 eh39 => ?_)
        have v := v h39 eh39
        obtain ⟨o41, v⟩ := v
        refine s_iinc 4 C dX6_findChain_18 rfl (by decide) o41 (fun z40 ez40 => ?_)
        have v := v z40 ez40
        show Wh X 21 [(4, vi z40), (0, vr 30), (1, vi x1), (2, vi x2), (3, vi x3)] [] h39 0
        refine r_goto (tgt := 3) C dX6_findChain_21 (by decide) ?_
        obtain ⟨n', hn', hI'⟩ := v
        exact s_sub [1, 2, 3, 4, 0] rfl (ih_3 n' hn' _ _ _ _ _ hI')
  show Wh X 0 [(0, vr 30), (1, vi a1), (2, vi a2), (3, vi a3)] [] h0 0
  have v := hmain
  unfold V_X6_findChain at v
  refine r_iconst C dX6_findChain_0 ⟨by decide, by decide⟩ ?_
  refine s_istore C dX6_findChain_1 (by decide) (fun z42 ez42 => ?_)
  have v := v z42 ez42
  show Wh X 3 [(4, vi z42), (0, vr 30), (1, vi a1), (2, vi a2), (3, vi a3)] [] h0 0
  obtain ⟨n', hI'⟩ := v
  exact s_sub [1, 2, 3, 4, 0] rfl (B_3 n' _ _ _ _ _ hI')

def V_X6_changeChain_35 (P : Int → Hp → Prop) (I_2 : Nat → Hp → Int → Int → Int → Prop) (n_2 : Nat) (h : Hp) (x1 : Int) (x2 : Int) (x3 : Int) : Prop :=
  InR (x3 + 1) ∧ (∀ z1 : Int, z1 = x3 + 1 → (∃ n', n' < n_2 ∧ I_2 n' h x1 x2 z1))
def V_X6_changeChain_2 (P : Int → Hp → Prop) (I_2 : Nat → Hp → Int → Int → Int → Prop) (n_2 : Nat) (h : Hp) (x1 : Int) (x2 : Int) (x3 : Int) : Prop :=
  ((h 30 1) ≤ x3 → P 0 h) ∧ (¬ (h 30 1) ≤ x3 → ((0 : Int) ≤ x3 ∧ (x3 : Int) < 30) ∧ (((h 43 x3) = 0 → V_X6_changeChain_35 P I_2 n_2 h x1 x2 x3) ∧ (¬ (h 43 x3) = 0 → InR (x1 + x2) ∧ (((0 : Int) ≤ x3 ∧ (x3 : Int) < 30) ∧ (InR ((x1 + x2) - (h 36 x3)) ∧ (((0 : Int) ≤ x3 ∧ (x3 : Int) < 30) ∧ (∀ h10 : Hp, h10 = hup h 36 x3 ((x1 + x2) - (h 36 x3)) → (V_X6_changeChain_35 P I_2 n_2 h10 x1 x2 x3))))))))
def V_X6_changeChain (P : Int → Hp → Prop) (I_2 : Nat → Hp → Int → Int → Int → Prop) (h0 : Hp) (a1 : Int) (a2 : Int) : Prop :=
  ∀ z11 : Int, z11 = 0 → (∃ n', I_2 n' h0 a1 a2 z11)
set_option maxHeartbeats 4000000 in
set_option maxRecDepth 100000 in
theorem w_X6_changeChain {l : Launch} (P : Int → Hp → Prop) (I_2 : Nat → Hp → Int → Int → Int → Prop) (h0 : Hp) (a1 : Int) (a2 : Int)
    (o_2 : ∀ (n_2 : Nat) (h : Hp) (x1 : Int) (x2 : Int) (x3 : Int), RH h → Fr [36] h0 h → InR x1 → InR x2 → InR x3 → I_2 n_2 h x1 x2 x3 → V_X6_changeChain_2 P I_2 n_2 h x1 x2 x3)
    (o : RH h0 → InR a1 → InR a2 → V_X6_changeChain P I_2 h0 a1 a2) :
    Ct l yX6_changeChain cX6_changeChain 4 none 0 0 0 [vr 30, vi a1, vi a2] h0 [36] P (fun _ => False) := by
  refine Ct.of (own := RX6) (by decide) rfl (Nat.le_of_ble_eq_true rfl) ?_
  intro X C hXl hXM hXh hXP hXX hXc hXr hav hR0
  have hmain : V_X6_changeChain P I_2 h0 a1 a2 := o hR0 (hav (vi a1) (by simp)) (hav (vi a2) (by simp))
  have B_2 : ∀ (n_2 : Nat) (h : Hp) (x1 : Int) (x2 : Int) (x3 : Int), I_2 n_2 h x1 x2 x3 → Wh X 2 [(0, vr 30), (1, vi x1), (2, vi x2), (3, vi x3)] [] h 0 := by
    intro n_2
    induction n_2 using Nat.strongRecOn with
    | _ n_2 ih_2 =>
      intro h x1 x2 x3 hI
      refine s_use fun hR hF hL => ?_
      have v := o_2 n_2 h x1 x2 x3 hR (by rw [hXM, hXh] at hF; exact hF) (hL (1, vi x1) (by simp)) (hL (2, vi x2) (by simp)) (hL (3, vi x3) (by simp)) hI
      unfold V_X6_changeChain_2 at v
      have B_35 : ∀ (h : Hp) (x1 : Int) (x2 : Int) (x3 : Int), V_X6_changeChain_35 P I_2 n_2 h x1 x2 x3 → Wh X 35 [(0, vr 30), (1, vi x1), (2, vi x2), (3, vi x3)] [] h 0 := by
        intro h x1 x2 x3 v
        unfold V_X6_changeChain_35 at v
        obtain ⟨o2, v⟩ := v
        refine s_iinc 3 C dX6_changeChain_35 rfl (by decide) o2 (fun z1 ez1 => ?_)
        have v := v z1 ez1
        show Wh X 38 [(3, vi z1), (0, vr 30), (1, vi x1), (2, vi x2)] [] h 0
        refine r_goto (tgt := 2) C dX6_changeChain_38 (by decide) ?_
        obtain ⟨n', hn', hI'⟩ := v
        exact s_sub [1, 2, 3, 0] rfl (ih_2 n' hn' _ _ _ _ hI')
      refine r_iload_n 3 C dX6_changeChain_2 rfl ?_
      refine r_aload_n 0 C dX6_changeChain_3 rfl ?_
      refine gf_X6_63 C dX6_changeChain_4 ?_
      refine r_icmp_ge (tgt := 41) C dX6_changeChain_7 (by decide) (fun c3 => ?_) (fun c3 => ?_)
      · have v := v.1 c3
        exact r_return C dX6_changeChain_41 hXr (Nat.zero_le _) (by rw [hXP]; exact v)
      · have v := v.2 c3
        refine r_aload_n 0 C dX6_changeChain_10 rfl ?_
        refine gf_X6_47 C dX6_changeChain_11 ?_
        refine r_iload_n 3 C dX6_changeChain_14 rfl ?_
        obtain ⟨o4, v⟩ := v
        refine r_baload (r := 43) (N := 30) C dX6_changeChain_15 rfl o4 ?_
        refine r_if_eq (tgt := 35) C dX6_changeChain_16 (by decide) (fun c5 => ?_) (fun c5 => ?_)
        · have v := v.1 c5
          exact s_sub [0, 1, 2, 3] rfl (B_35 _ _ _ _ v)
        · have v := v.2 c5
          refine r_aload_n 0 C dX6_changeChain_19 rfl ?_
          refine gf_X6_26 C dX6_changeChain_20 ?_
          refine r_iload_n 3 C dX6_changeChain_23 rfl ?_
          refine r_iload_n 1 C dX6_changeChain_24 rfl ?_
          refine r_iload_n 2 C dX6_changeChain_25 rfl ?_
          obtain ⟨o6, v⟩ := v
          refine r_iadd C dX6_changeChain_26 o6 ?_
          refine r_aload_n 0 C dX6_changeChain_27 rfl ?_
          refine gf_X6_26 C dX6_changeChain_28 ?_
          refine r_iload_n 3 C dX6_changeChain_31 rfl ?_
          obtain ⟨o7, v⟩ := v
          refine r_iaload (r := 36) (N := 30) C dX6_changeChain_32 rfl o7 ?_
          obtain ⟨o8, v⟩ := v
          refine r_isub C dX6_changeChain_33 o8 ?_
          obtain ⟨o9, v⟩ := v
          refine s_iastore (r := 36) (N := 30) C dX6_changeChain_34 rfl hXM (by decide) o9 (fun h10 eh10 => ?_)
          have v := v h10 eh10
          exact s_sub [0, 1, 2, 3] rfl (B_35 _ _ _ _ v)
  show Wh X 0 [(0, vr 30), (1, vi a1), (2, vi a2)] [] h0 0
  have v := hmain
  unfold V_X6_changeChain at v
  refine r_iconst C dX6_changeChain_0 ⟨by decide, by decide⟩ ?_
  refine s_istore_n C dX6_changeChain_1 (by decide) (fun z11 ez11 => ?_)
  have v := v z11 ez11
  show Wh X 2 [(3, vi z11), (0, vr 30), (1, vi a1), (2, vi a2)] [] h0 0
  obtain ⟨n', hI'⟩ := v
  exact s_sub [1, 2, 3, 0] rfl (B_2 n' _ _ _ _ hI')

def V_X6_around_45 (P : Int → Hp → Prop) (p_X6_far : Int → Int → Hp → Prop) (q_X6_far : Int → Int → Hp → Int → Prop) (I_4 : Nat → Hp → Int → Int → Int → Prop) (n_4 : Nat) (h : Hp) (x1 : Int) (x3 : Int) (y0 : Int) : Prop :=
  ∀ z1 : Int, z1 = y0 → (InR (x3 + 1) ∧ (∀ z2 : Int, z2 = x3 + 1 → (∃ n', n' < n_4 ∧ I_4 n' h x1 z1 z2)))
def V_X6_around_4 (P : Int → Hp → Prop) (p_X6_far : Int → Int → Hp → Prop) (q_X6_far : Int → Int → Hp → Int → Prop) (I_4 : Nat → Hp → Int → Int → Int → Prop) (n_4 : Nat) (h : Hp) (x1 : Int) (x2 : Int) (x3 : Int) : Prop :=
  ((0 : Int) ≤ x1 ∧ (x1 : Int) < 30) ∧ (((h 35 x1) ≤ x3 → P x2 h) ∧ (¬ (h 35 x1) ≤ x3 → InR (30 * x1) ∧ (InR ((30 * x1) + x3) ∧ (((0 : Int) ≤ ((30 * x1) + x3) ∧ (((30 * x1) + x3) : Int) < 900) ∧ (p_X6_far (h 34 ((30 * x1) + x3)) x1 h ∧ (∀ r10 : Int, InR r10 → q_X6_far (h 34 ((30 * x1) + x3)) x1 h r10 → (((0 : Int) ≤ r10 ∧ (r10 : Int) < 30) ∧ (((h 42 r10) = 0 → V_X6_around_45 P p_X6_far q_X6_far I_4 n_4 h x1 x3 x2) ∧ (¬ (h 42 r10) = 0 → InR (x2 + 1) ∧ (V_X6_around_45 P p_X6_far q_X6_far I_4 n_4 h x1 x3 (x2 + 1)))))))))))
def V_X6_around (P : Int → Hp → Prop) (p_X6_far : Int → Int → Hp → Prop) (q_X6_far : Int → Int → Hp → Int → Prop) (I_4 : Nat → Hp → Int → Int → Int → Prop) (h0 : Hp) (a1 : Int) : Prop :=
  ∀ z14 : Int, z14 = 0 → (∀ z15 : Int, z15 = 0 → (∃ n', I_4 n' h0 a1 z14 z15))
set_option maxHeartbeats 4000000 in
set_option maxRecDepth 100000 in
theorem w_X6_around {l : Launch} (P : Int → Hp → Prop) (p_X6_far : Int → Int → Hp → Prop) (q_X6_far : Int → Int → Hp → Int → Prop) (I_4 : Nat → Hp → Int → Int → Int → Prop) (h0 : Hp) (a1 : Int)
    (c_X6_far : ∀ (b1 : Int) (b2 : Int) (h : Hp), p_X6_far b1 b2 h → Ct l yX6_far cX6_far 3 (some .int) 0 0 0 [vr 30, vi b1, vi b2] h [] (fun r _ => q_X6_far b1 b2 h r) (fun _ => False))
    (o_4 : ∀ (n_4 : Nat) (h : Hp) (x1 : Int) (x2 : Int) (x3 : Int), RH h → Fr [] h0 h → InR x1 → InR x2 → InR x3 → I_4 n_4 h x1 x2 x3 → V_X6_around_4 P p_X6_far q_X6_far I_4 n_4 h x1 x2 x3)
    (o : RH h0 → InR a1 → V_X6_around P p_X6_far q_X6_far I_4 h0 a1) :
    Ct l yX6_around cX6_around 4 (some .int) 1 22 0 [vr 30, vi a1] h0 [] P (fun _ => False) := by
  refine Ct.of (own := RX6) (by decide) rfl (Nat.le_of_ble_eq_true rfl) ?_
  intro X C hXl hXM hXh hXP hXX hXc hXr hav hR0
  have hmain : V_X6_around P p_X6_far q_X6_far I_4 h0 a1 := o hR0 (hav (vi a1) (by simp))
  have B_4 : ∀ (n_4 : Nat) (h : Hp) (x1 : Int) (x2 : Int) (x3 : Int), I_4 n_4 h x1 x2 x3 → Wh X 4 [(0, vr 30), (1, vi x1), (2, vi x2), (3, vi x3)] [] h 0 := by
    intro n_4
    induction n_4 using Nat.strongRecOn with
    | _ n_4 ih_4 =>
      intro h x1 x2 x3 hI
      refine s_use fun hR hF hL => ?_
      have v := o_4 n_4 h x1 x2 x3 hR (by rw [hXM, hXh] at hF; exact hF) (hL (1, vi x1) (by simp)) (hL (2, vi x2) (by simp)) (hL (3, vi x3) (by simp)) hI
      unfold V_X6_around_4 at v
      have B_45 : ∀ (h : Hp) (x1 : Int) (x3 : Int) (y0 : Int), V_X6_around_45 P p_X6_far q_X6_far I_4 n_4 h x1 x3 y0 → Wh X 45 [(0, vr 30), (1, vi x1), (3, vi x3)] [vi y0] h 0 := by
        intro h x1 x3 y0 v
        unfold V_X6_around_45 at v
        refine s_istore_n C dX6_around_45 (by decide) (fun z1 ez1 => ?_)
        have v := v z1 ez1
        show Wh X 46 [(2, vi z1), (0, vr 30), (1, vi x1), (3, vi x3)] [] h 0
        obtain ⟨o3, v⟩ := v
        refine s_iinc 3 C dX6_around_46 rfl (by decide) o3 (fun z2 ez2 => ?_)
        have v := v z2 ez2
        show Wh X 49 [(3, vi z2), (2, vi z1), (0, vr 30), (1, vi x1)] [] h 0
        refine r_goto (tgt := 4) C dX6_around_49 (by decide) ?_
        obtain ⟨n', hn', hI'⟩ := v
        exact s_sub [2, 3, 1, 0] rfl (ih_4 n' hn' _ _ _ _ hI')
      refine r_iload_n 3 C dX6_around_4 rfl ?_
      refine r_aload_n 0 C dX6_around_5 rfl ?_
      refine gf_X6_23 C dX6_around_6 ?_
      refine r_iload_n 1 C dX6_around_9 rfl ?_
      obtain ⟨o4, v⟩ := v
      refine r_iaload (r := 35) (N := 30) C dX6_around_10 rfl o4 ?_
      refine r_icmp_ge (tgt := 52) C dX6_around_11 (by decide) (fun c5 => ?_) (fun c5 => ?_)
      · have v := v.1 c5
        refine r_iload_n 2 C dX6_around_52 rfl ?_
        exact r_ireturn C dX6_around_53 hXr (Nat.zero_le _) (by rw [hXP]; exact v)
      · have v := v.2 c5
        refine r_aload_n 0 C dX6_around_14 rfl ?_
        refine gf_X6_44 C dX6_around_15 ?_
        refine r_aload_n 0 C dX6_around_18 rfl ?_
        refine r_aload_n 0 C dX6_around_19 rfl ?_
        refine gf_X6_20 C dX6_around_20 ?_
        refine r_bipush C dX6_around_23 ⟨by decide, by decide⟩ (by decide) ?_
        refine r_iload_n 1 C dX6_around_25 rfl ?_
        obtain ⟨o6, v⟩ := v
        refine r_imul C dX6_around_26 o6 ?_
        refine r_iload_n 3 C dX6_around_27 rfl ?_
        obtain ⟨o7, v⟩ := v
        refine r_iadd C dX6_around_28 o7 ?_
        obtain ⟨o8, v⟩ := v
        refine r_iaload (r := 34) (N := 900) C dX6_around_29 rfl o8 ?_
        refine r_iload_n 1 C dX6_around_30 rfl ?_
        obtain ⟨o9, v⟩ := v
        refine s_calli0 [(h 34 ((30 * x1) + x3)), x1] [vr 42] C dX6_around_31 ck_X6_69 (r := 30) (fY := 0) (nY := 0) rfl rfl (by decide) (by decide) (Nat.le_of_ble_eq_true rfl) rfl (by rw [hXl]; exact c_X6_far (h 34 ((30 * x1) + x3)) x1 h o9) (fun r10 gr10 qr10 => ?_)
        have v := v r10 gr10 qr10
        obtain ⟨o11, v⟩ := v
        refine r_baload (r := 42) (N := 30) C dX6_around_34 rfl o11 ?_
        refine r_if_eq (tgt := 44) C dX6_around_35 (by decide) (fun c12 => ?_) (fun c12 => ?_)
        · have v := v.1 c12
          refine r_iload_n 2 C dX6_around_44 rfl ?_
          exact s_sub [0, 1, 3] rfl (B_45 _ _ _ _ v)
        · have v := v.2 c12
          refine r_iload_n 2 C dX6_around_38 rfl ?_
          refine r_iconst C dX6_around_39 ⟨by decide, by decide⟩ ?_
          obtain ⟨o13, v⟩ := v
          refine r_iadd C dX6_around_40 o13 ?_
          refine r_goto (tgt := 45) C dX6_around_41 (by decide) ?_
          exact s_sub [0, 1, 3] rfl (B_45 _ _ _ _ v)
  show Wh X 0 [(0, vr 30), (1, vi a1)] [] h0 0
  have v := hmain
  unfold V_X6_around at v
  refine r_iconst C dX6_around_0 ⟨by decide, by decide⟩ ?_
  refine s_istore_n C dX6_around_1 (by decide) (fun z14 ez14 => ?_)
  have v := v z14 ez14
  show Wh X 2 [(2, vi z14), (0, vr 30), (1, vi a1)] [] h0 0
  refine r_iconst C dX6_around_2 ⟨by decide, by decide⟩ ?_
  refine s_istore_n C dX6_around_3 (by decide) (fun z15 ez15 => ?_)
  have v := v z15 ez15
  show Wh X 4 [(3, vi z15), (2, vi z14), (0, vr 30), (1, vi a1)] [] h0 0
  obtain ⟨n', hI'⟩ := v
  exact s_sub [2, 3, 1, 0] rfl (B_4 n' _ _ _ _ hI')

def V_X6_freeColour_73 (P : Int → Hp → Prop) (p_X6_far : Int → Int → Hp → Prop) (q_X6_far : Int → Int → Hp → Int → Prop) (I_2 : Nat → Hp → Int → Int → Prop) (I_13 : Nat → Nat → Hp → Int → Int → Int → Int → Prop) (n_2 : Nat) (n_13 : Nat) (h : Hp) (x1 : Int) (x2 : Int) (x4 : Int) (y0 : Int) : Prop :=
  ∀ z1 : Int, z1 = y0 → (InR (x4 + 1) ∧ (∀ z2 : Int, z2 = x4 + 1 → (∃ n', n' < n_13 ∧ I_13 n_2 n' h x1 x2 z1 z2)))
def V_X6_freeColour_72 (P : Int → Hp → Prop) (p_X6_far : Int → Int → Hp → Prop) (q_X6_far : Int → Int → Hp → Int → Prop) (I_2 : Nat → Hp → Int → Int → Prop) (I_13 : Nat → Nat → Hp → Int → Int → Int → Int → Prop) (n_2 : Nat) (n_13 : Nat) (h : Hp) (x1 : Int) (x2 : Int) (x4 : Int) : Prop :=
  V_X6_freeColour_73 P p_X6_far q_X6_far I_2 I_13 n_2 n_13 h x1 x2 x4 0
def V_X6_freeColour_68 (P : Int → Hp → Prop) (p_X6_far : Int → Int → Hp → Prop) (q_X6_far : Int → Int → Hp → Int → Prop) (I_2 : Nat → Hp → Int → Int → Prop) (I_13 : Nat → Nat → Hp → Int → Int → Int → Int → Prop) (n_2 : Nat) (n_13 : Nat) (h : Hp) (x1 : Int) (x2 : Int) (x4 : Int) : Prop :=
  V_X6_freeColour_73 P p_X6_far q_X6_far I_2 I_13 n_2 n_13 h x1 x2 x4 1
def V_X6_freeColour_13 (P : Int → Hp → Prop) (p_X6_far : Int → Int → Hp → Prop) (q_X6_far : Int → Int → Hp → Int → Prop) (I_2 : Nat → Hp → Int → Int → Prop) (I_13 : Nat → Nat → Hp → Int → Int → Int → Int → Prop) (n_2 : Nat) (n_13 : Nat) (h : Hp) (x1 : Int) (x2 : Int) (x3 : Int) (x4 : Int) : Prop :=
  ((0 : Int) ≤ x1 ∧ (x1 : Int) < 30) ∧ (((h 35 x1) ≤ x4 → (x3 = 0 → InR (x2 + 1) ∧ (∀ z7 : Int, z7 = x2 + 1 → (∃ n', n' < n_2 ∧ I_2 n' h x1 z7))) ∧ (¬ x3 = 0 → P x2 h)) ∧ (¬ (h 35 x1) ≤ x4 → InR (30 * x1) ∧ (InR ((30 * x1) + x4) ∧ (((0 : Int) ≤ ((30 * x1) + x4) ∧ (((30 * x1) + x4) : Int) < 900) ∧ (p_X6_far (h 34 ((30 * x1) + x4)) x1 h ∧ (∀ r13 : Int, InR r13 → q_X6_far (h 34 ((30 * x1) + x4)) x1 h r13 → (∀ z14 : Int, z14 = r13 → ((x3 = 0 → V_X6_freeColour_72 P p_X6_far q_X6_far I_2 I_13 n_2 n_13 h x1 x2 x4) ∧ (¬ x3 = 0 → ((0 : Int) ≤ z14 ∧ (z14 : Int) < 30) ∧ (((h 42 z14) = 0 → V_X6_freeColour_68 P p_X6_far q_X6_far I_2 I_13 n_2 n_13 h x1 x2 x4) ∧ (¬ (h 42 z14) = 0 → ((0 : Int) ≤ z14 ∧ (z14 : Int) < 30) ∧ (((h 36 z14) = x2 → V_X6_freeColour_72 P p_X6_far q_X6_far I_2 I_13 n_2 n_13 h x1 x2 x4) ∧ (¬ (h 36 z14) = x2 → V_X6_freeColour_68 P p_X6_far q_X6_far I_2 I_13 n_2 n_13 h x1 x2 x4)))))))))))))
def V_X6_freeColour_2 (P : Int → Hp → Prop) (p_X6_far : Int → Int → Hp → Prop) (q_X6_far : Int → Int → Hp → Int → Prop) (I_2 : Nat → Hp → Int → Int → Prop) (I_13 : Nat → Nat → Hp → Int → Int → Int → Int → Prop) (n_2 : Nat) (h : Hp) (x1 : Int) (x2 : Int) : Prop :=
  (6 ≤ x2 → P 0 h) ∧ (¬ 6 ≤ x2 → ∀ z21 : Int, z21 = 1 → (∀ z22 : Int, z22 = 0 → (∃ n', I_13 n_2 n' h x1 x2 z21 z22)))
def V_X6_freeColour (P : Int → Hp → Prop) (p_X6_far : Int → Int → Hp → Prop) (q_X6_far : Int → Int → Hp → Int → Prop) (I_2 : Nat → Hp → Int → Int → Prop) (I_13 : Nat → Nat → Hp → Int → Int → Int → Int → Prop) (h0 : Hp) (a1 : Int) : Prop :=
  ∀ z23 : Int, z23 = 1 → (∃ n', I_2 n' h0 a1 z23)
set_option maxHeartbeats 4000000 in
set_option maxRecDepth 100000 in
theorem w_X6_freeColour {l : Launch} (P : Int → Hp → Prop) (p_X6_far : Int → Int → Hp → Prop) (q_X6_far : Int → Int → Hp → Int → Prop) (I_2 : Nat → Hp → Int → Int → Prop) (I_13 : Nat → Nat → Hp → Int → Int → Int → Int → Prop) (h0 : Hp) (a1 : Int)
    (c_X6_far : ∀ (b1 : Int) (b2 : Int) (h : Hp), p_X6_far b1 b2 h → Ct l yX6_far cX6_far 3 (some .int) 0 0 0 [vr 30, vi b1, vi b2] h [] (fun r _ => q_X6_far b1 b2 h r) (fun _ => False))
    (o_2 : ∀ (n_2 : Nat) (h : Hp) (x1 : Int) (x2 : Int), RH h → Fr [] h0 h → InR x1 → InR x2 → I_2 n_2 h x1 x2 → V_X6_freeColour_2 P p_X6_far q_X6_far I_2 I_13 n_2 h x1 x2)
    (o_13 : ∀ (n_2 n_13 : Nat) (h : Hp) (x1 : Int) (x2 : Int) (x3 : Int) (x4 : Int), RH h → Fr [] h0 h → InR x1 → InR x2 → InR x3 → InR x4 → I_13 n_2 n_13 h x1 x2 x3 x4 → V_X6_freeColour_13 P p_X6_far q_X6_far I_2 I_13 n_2 n_13 h x1 x2 x3 x4)
    (o : RH h0 → InR a1 → V_X6_freeColour P p_X6_far q_X6_far I_2 I_13 h0 a1) :
    Ct l yX6_freeColour cX6_freeColour 6 (some .int) 1 22 0 [vr 30, vi a1] h0 [] P (fun _ => False) := by
  refine Ct.of (own := RX6) (by decide) rfl (Nat.le_of_ble_eq_true rfl) ?_
  intro X C hXl hXM hXh hXP hXX hXc hXr hav hR0
  have hmain : V_X6_freeColour P p_X6_far q_X6_far I_2 I_13 h0 a1 := o hR0 (hav (vi a1) (by simp))
  have B_2 : ∀ (n_2 : Nat) (h : Hp) (x1 : Int) (x2 : Int), I_2 n_2 h x1 x2 → Wh X 2 [(0, vr 30), (1, vi x1), (2, vi x2)] [] h 0 := by
    intro n_2
    induction n_2 using Nat.strongRecOn with
    | _ n_2 ih_2 =>
      intro h x1 x2 hI
      refine s_use fun hR hF hL => ?_
      have v := o_2 n_2 h x1 x2 hR (by rw [hXM, hXh] at hF; exact hF) (hL (1, vi x1) (by simp)) (hL (2, vi x2) (by simp)) hI
      unfold V_X6_freeColour_2 at v
      have B_13 : ∀ (n_13 : Nat) (h : Hp) (x1 : Int) (x2 : Int) (x3 : Int) (x4 : Int), I_13 n_2 n_13 h x1 x2 x3 x4 → Wh X 13 [(0, vr 30), (1, vi x1), (2, vi x2), (3, vi x3), (4, vi x4)] [] h 0 := by
        intro n_13
        induction n_13 using Nat.strongRecOn with
        | _ n_13 ih_13 =>
          intro h x1 x2 x3 x4 hI
          refine s_use fun hR hF hL => ?_
          have v := o_13 n_2 n_13 h x1 x2 x3 x4 hR (by rw [hXM, hXh] at hF; exact hF) (hL (1, vi x1) (by simp)) (hL (2, vi x2) (by simp)) (hL (3, vi x3) (by simp)) (hL (4, vi x4) (by simp)) hI
          unfold V_X6_freeColour_13 at v
          have B_73 : ∀ (h : Hp) (x1 : Int) (x2 : Int) (x4 : Int) (y0 : Int), V_X6_freeColour_73 P p_X6_far q_X6_far I_2 I_13 n_2 n_13 h x1 x2 x4 y0 → Wh X 73 [(0, vr 30), (1, vi x1), (2, vi x2), (4, vi x4)] [vi y0] h 0 := by
            intro h x1 x2 x4 y0 v
            unfold V_X6_freeColour_73 at v
            refine s_istore_n C dX6_freeColour_73 (by decide) (fun z1 ez1 => ?_)
            have v := v z1 ez1
            show Wh X 74 [(3, vi z1), (0, vr 30), (1, vi x1), (2, vi x2), (4, vi x4)] [] h 0
            obtain ⟨o3, v⟩ := v
            refine s_iinc 4 C dX6_freeColour_74 rfl (by decide) o3 (fun z2 ez2 => ?_)
            have v := v z2 ez2
            show Wh X 77 [(4, vi z2), (3, vi z1), (0, vr 30), (1, vi x1), (2, vi x2)] [] h 0
            refine r_goto (tgt := 13) C dX6_freeColour_77 (by decide) ?_
            obtain ⟨n', hn', hI'⟩ := v
            exact s_sub [2, 3, 4, 1, 0] rfl (ih_13 n' hn' _ _ _ _ _ hI')
          have B_72 : ∀ (h : Hp) (x1 : Int) (x2 : Int) (x4 : Int), V_X6_freeColour_72 P p_X6_far q_X6_far I_2 I_13 n_2 n_13 h x1 x2 x4 → Wh X 72 [(0, vr 30), (1, vi x1), (2, vi x2), (4, vi x4)] [] h 0 := by
            intro h x1 x2 x4 v
            unfold V_X6_freeColour_72 at v
            refine r_iconst C dX6_freeColour_72 ⟨by decide, by decide⟩ ?_
            exact s_sub [0, 1, 2, 3] rfl (B_73 _ _ _ _ _ v)
          have B_68 : ∀ (h : Hp) (x1 : Int) (x2 : Int) (x4 : Int), V_X6_freeColour_68 P p_X6_far q_X6_far I_2 I_13 n_2 n_13 h x1 x2 x4 → Wh X 68 [(0, vr 30), (1, vi x1), (2, vi x2), (4, vi x4)] [] h 0 := by
            intro h x1 x2 x4 v
            unfold V_X6_freeColour_68 at v
            refine r_iconst C dX6_freeColour_68 ⟨by decide, by decide⟩ ?_
            refine r_goto (tgt := 73) C dX6_freeColour_69 (by decide) ?_
            exact s_sub [0, 1, 2, 3] rfl (B_73 _ _ _ _ _ v)
          refine r_iload 4 C dX6_freeColour_13 rfl ?_
          refine r_aload_n 0 C dX6_freeColour_15 rfl ?_
          refine gf_X6_23 C dX6_freeColour_16 ?_
          refine r_iload_n 1 C dX6_freeColour_19 rfl ?_
          obtain ⟨o4, v⟩ := v
          refine r_iaload (r := 35) (N := 30) C dX6_freeColour_20 rfl o4 ?_
          refine r_icmp_ge (tgt := 80) C dX6_freeColour_21 (by decide) (fun c5 => ?_) (fun c5 => ?_)
          · have v := v.1 c5
            refine r_iload_n 3 C dX6_freeColour_80 rfl ?_
            refine r_if_eq (tgt := 86) C dX6_freeColour_81 (by decide) (fun c6 => ?_) (fun c6 => ?_)
            · have v := v.1 c6
              obtain ⟨o8, v⟩ := v
              refine s_iinc 2 C dX6_freeColour_86 rfl (by decide) o8 (fun z7 ez7 => ?_)
              have v := v z7 ez7
              show Wh X 89 [(2, vi z7), (0, vr 30), (1, vi x1), (3, vi x3), (4, vi x4)] [] h 0
              refine r_goto (tgt := 2) C dX6_freeColour_89 (by decide) ?_
              obtain ⟨n', hn', hI'⟩ := v
              exact s_sub [1, 2, 0] rfl (ih_2 n' hn' _ _ _ hI')
            · have v := v.2 c6
              refine r_iload_n 2 C dX6_freeColour_84 rfl ?_
              exact r_ireturn C dX6_freeColour_85 hXr (Nat.zero_le _) (by rw [hXP]; exact v)
          · have v := v.2 c5
            refine r_aload_n 0 C dX6_freeColour_24 rfl ?_
            refine r_aload_n 0 C dX6_freeColour_25 rfl ?_
            refine gf_X6_20 C dX6_freeColour_26 ?_
            refine r_bipush C dX6_freeColour_29 ⟨by decide, by decide⟩ (by decide) ?_
            refine r_iload_n 1 C dX6_freeColour_31 rfl ?_
            obtain ⟨o9, v⟩ := v
            refine r_imul C dX6_freeColour_32 o9 ?_
            refine r_iload 4 C dX6_freeColour_33 rfl ?_
            obtain ⟨o10, v⟩ := v
            refine r_iadd C dX6_freeColour_35 o10 ?_
            obtain ⟨o11, v⟩ := v
            refine r_iaload (r := 34) (N := 900) C dX6_freeColour_36 rfl o11 ?_
            refine r_iload_n 1 C dX6_freeColour_37 rfl ?_
            obtain ⟨o12, v⟩ := v
            refine s_calli0 [(h 34 ((30 * x1) + x4)), x1] [] C dX6_freeColour_38 ck_X6_69 (r := 30) (fY := 0) (nY := 0) rfl rfl (by decide) (by decide) (Nat.le_of_ble_eq_true rfl) rfl (by rw [hXl]; exact c_X6_far (h 34 ((30 * x1) + x4)) x1 h o12) (fun r13 gr13 qr13 => ?_)
            have v := v r13 gr13 qr13
            refine s_istore C dX6_freeColour_41 (by decide) (fun z14 ez14 => ?_)
            have v := v z14 ez14
            show Wh X 43 [(5, vi z14), (0, vr 30), (1, vi x1), (2, vi x2), (3, vi x3), (4, vi x4)] [] h 0
            refine r_iload_n 4 C dX6_freeColour_43 rfl ?_
            refine r_if_eq (tgt := 72) C dX6_freeColour_44 (by decide) (fun c15 => ?_) (fun c15 => ?_)
            · have v := v.1 c15
              exact s_sub [1, 2, 3, 5] rfl (B_72 _ _ _ _ v)
            · have v := v.2 c15
              refine r_aload_n 1 C dX6_freeColour_47 rfl ?_
              refine gf_X6_44 C dX6_freeColour_48 ?_
              refine r_iload 0 C dX6_freeColour_51 rfl ?_
              obtain ⟨o16, v⟩ := v
              refine r_baload (r := 42) (N := 30) C dX6_freeColour_53 rfl o16 ?_
              refine r_if_eq (tgt := 68) C dX6_freeColour_54 (by decide) (fun c17 => ?_) (fun c17 => ?_)
              · have v := v.1 c17
                exact s_sub [1, 2, 3, 5] rfl (B_68 _ _ _ _ v)
              · have v := v.2 c17
                refine r_aload_n 1 C dX6_freeColour_57 rfl ?_
                refine gf_X6_26 C dX6_freeColour_58 ?_
                refine r_iload 0 C dX6_freeColour_61 rfl ?_
                obtain ⟨o18, v⟩ := v
                refine r_iaload (r := 36) (N := 30) C dX6_freeColour_63 rfl o18 ?_
                refine r_iload_n 3 C dX6_freeColour_64 rfl ?_
                refine r_icmp_eq (tgt := 72) C dX6_freeColour_65 (by decide) (fun c19 => ?_) (fun c19 => ?_)
                · have v := v.1 c19
                  exact s_sub [1, 2, 3, 5] rfl (B_72 _ _ _ _ v)
                · have v := v.2 c19
                  exact s_sub [1, 2, 3, 5] rfl (B_68 _ _ _ _ v)
      refine r_iload_n 2 C dX6_freeColour_2 rfl ?_
      refine r_bipush C dX6_freeColour_3 ⟨by decide, by decide⟩ (by decide) ?_
      refine r_icmp_ge (tgt := 92) C dX6_freeColour_5 (by decide) (fun c20 => ?_) (fun c20 => ?_)
      · have v := v.1 c20
        refine r_iconst C dX6_freeColour_92 ⟨by decide, by decide⟩ ?_
        exact r_ireturn C dX6_freeColour_93 hXr (Nat.zero_le _) (by rw [hXP]; exact v)
      · have v := v.2 c20
        refine r_iconst C dX6_freeColour_8 ⟨by decide, by decide⟩ ?_
        refine s_istore_n C dX6_freeColour_9 (by decide) (fun z21 ez21 => ?_)
        have v := v z21 ez21
        show Wh X 10 [(3, vi z21), (0, vr 30), (1, vi x1), (2, vi x2)] [] h 0
        refine r_iconst C dX6_freeColour_10 ⟨by decide, by decide⟩ ?_
        refine s_istore C dX6_freeColour_11 (by decide) (fun z22 ez22 => ?_)
        have v := v z22 ez22
        show Wh X 13 [(4, vi z22), (3, vi z21), (0, vr 30), (1, vi x1), (2, vi x2)] [] h 0
        obtain ⟨n', hI'⟩ := v
        exact s_sub [2, 3, 4, 1, 0] rfl (B_13 n' _ _ _ _ _ hI')
  show Wh X 0 [(0, vr 30), (1, vi a1)] [] h0 0
  have v := hmain
  unfold V_X6_freeColour at v
  refine r_iconst C dX6_freeColour_0 ⟨by decide, by decide⟩ ?_
  refine s_istore_n C dX6_freeColour_1 (by decide) (fun z23 ez23 => ?_)
  have v := v z23 ez23
  show Wh X 2 [(2, vi z23), (0, vr 30), (1, vi a1)] [] h0 0
  obtain ⟨n', hI'⟩ := v
  exact s_sub [1, 2, 0] rfl (B_2 n' _ _ _ hI')

def V_X6_neighbour_56 (P : Int → Hp → Prop) (p_X6_far : Int → Int → Hp → Prop) (q_X6_far : Int → Int → Hp → Int → Prop) (I_5 : Nat → Hp → Int → Int → Int → Int → Prop) (n_5 : Nat) (h : Hp) (x1 : Int) (x2 : Int) (x3 : Int) (x4 : Int) : Prop :=
  InR (x4 + 1) ∧ (∀ z1 : Int, z1 = x4 + 1 → (∃ n', n' < n_5 ∧ I_5 n' h x1 x2 x3 z1))
def V_X6_neighbour_5 (P : Int → Hp → Prop) (p_X6_far : Int → Int → Hp → Prop) (q_X6_far : Int → Int → Hp → Int → Prop) (I_5 : Nat → Hp → Int → Int → Int → Int → Prop) (n_5 : Nat) (h : Hp) (x1 : Int) (x2 : Int) (x3 : Int) (x4 : Int) : Prop :=
  ((0 : Int) ≤ x1 ∧ (x1 : Int) < 30) ∧ (((h 35 x1) ≤ x4 → P (-1) h) ∧ (¬ (h 35 x1) ≤ x4 → InR (30 * x1) ∧ (InR ((30 * x1) + x4) ∧ (((0 : Int) ≤ ((30 * x1) + x4) ∧ (((30 * x1) + x4) : Int) < 900) ∧ (p_X6_far (h 34 ((30 * x1) + x4)) x1 h ∧ (∀ r9 : Int, InR r9 → q_X6_far (h 34 ((30 * x1) + x4)) x1 h r9 → (∀ z10 : Int, z10 = r9 → (((0 : Int) ≤ z10 ∧ (z10 : Int) < 30) ∧ (((h 42 z10) = 0 → V_X6_neighbour_56 P p_X6_far q_X6_far I_5 n_5 h x1 x2 x3 x4) ∧ (¬ (h 42 z10) = 0 → (¬ x3 = x2 → InR (x3 + 1) ∧ (∀ z14 : Int, z14 = x3 + 1 → (V_X6_neighbour_56 P p_X6_far q_X6_far I_5 n_5 h x1 x2 z14 x4))) ∧ (x3 = x2 → P z10 h)))))))))))
def V_X6_neighbour (P : Int → Hp → Prop) (p_X6_far : Int → Int → Hp → Prop) (q_X6_far : Int → Int → Hp → Int → Prop) (I_5 : Nat → Hp → Int → Int → Int → Int → Prop) (h0 : Hp) (a1 : Int) (a2 : Int) : Prop :=
  ∀ z16 : Int, z16 = 0 → (∀ z17 : Int, z17 = 0 → (∃ n', I_5 n' h0 a1 a2 z16 z17))
set_option maxHeartbeats 4000000 in
set_option maxRecDepth 100000 in
theorem w_X6_neighbour {l : Launch} (P : Int → Hp → Prop) (p_X6_far : Int → Int → Hp → Prop) (q_X6_far : Int → Int → Hp → Int → Prop) (I_5 : Nat → Hp → Int → Int → Int → Int → Prop) (h0 : Hp) (a1 : Int) (a2 : Int)
    (c_X6_far : ∀ (b1 : Int) (b2 : Int) (h : Hp), p_X6_far b1 b2 h → Ct l yX6_far cX6_far 3 (some .int) 0 0 0 [vr 30, vi b1, vi b2] h [] (fun r _ => q_X6_far b1 b2 h r) (fun _ => False))
    (o_5 : ∀ (n_5 : Nat) (h : Hp) (x1 : Int) (x2 : Int) (x3 : Int) (x4 : Int), RH h → Fr [] h0 h → InR x1 → InR x2 → InR x3 → InR x4 → I_5 n_5 h x1 x2 x3 x4 → V_X6_neighbour_5 P p_X6_far q_X6_far I_5 n_5 h x1 x2 x3 x4)
    (o : RH h0 → InR a1 → InR a2 → V_X6_neighbour P p_X6_far q_X6_far I_5 h0 a1 a2) :
    Ct l yX6_neighbour cX6_neighbour 6 (some .int) 1 22 0 [vr 30, vi a1, vi a2] h0 [] P (fun _ => False) := by
  refine Ct.of (own := RX6) (by decide) rfl (Nat.le_of_ble_eq_true rfl) ?_
  intro X C hXl hXM hXh hXP hXX hXc hXr hav hR0
  have hmain : V_X6_neighbour P p_X6_far q_X6_far I_5 h0 a1 a2 := o hR0 (hav (vi a1) (by simp)) (hav (vi a2) (by simp))
  have B_5 : ∀ (n_5 : Nat) (h : Hp) (x1 : Int) (x2 : Int) (x3 : Int) (x4 : Int), I_5 n_5 h x1 x2 x3 x4 → Wh X 5 [(0, vr 30), (1, vi x1), (2, vi x2), (3, vi x3), (4, vi x4)] [] h 0 := by
    intro n_5
    induction n_5 using Nat.strongRecOn with
    | _ n_5 ih_5 =>
      intro h x1 x2 x3 x4 hI
      refine s_use fun hR hF hL => ?_
      have v := o_5 n_5 h x1 x2 x3 x4 hR (by rw [hXM, hXh] at hF; exact hF) (hL (1, vi x1) (by simp)) (hL (2, vi x2) (by simp)) (hL (3, vi x3) (by simp)) (hL (4, vi x4) (by simp)) hI
      unfold V_X6_neighbour_5 at v
      have B_56 : ∀ (h : Hp) (x1 : Int) (x2 : Int) (x3 : Int) (x4 : Int), V_X6_neighbour_56 P p_X6_far q_X6_far I_5 n_5 h x1 x2 x3 x4 → Wh X 56 [(0, vr 30), (1, vi x1), (2, vi x2), (3, vi x3), (4, vi x4)] [] h 0 := by
        intro h x1 x2 x3 x4 v
        unfold V_X6_neighbour_56 at v
        obtain ⟨o2, v⟩ := v
        refine s_iinc 4 C dX6_neighbour_56 rfl (by decide) o2 (fun z1 ez1 => ?_)
        have v := v z1 ez1
        show Wh X 59 [(4, vi z1), (0, vr 30), (1, vi x1), (2, vi x2), (3, vi x3)] [] h 0
        refine r_goto (tgt := 5) C dX6_neighbour_59 (by decide) ?_
        obtain ⟨n', hn', hI'⟩ := v
        exact s_sub [1, 2, 3, 4, 0] rfl (ih_5 n' hn' _ _ _ _ _ hI')
      refine r_iload 4 C dX6_neighbour_5 rfl ?_
      refine r_aload_n 0 C dX6_neighbour_7 rfl ?_
      refine gf_X6_23 C dX6_neighbour_8 ?_
      refine r_iload_n 1 C dX6_neighbour_11 rfl ?_
      obtain ⟨o3, v⟩ := v
      refine r_iaload (r := 35) (N := 30) C dX6_neighbour_12 rfl o3 ?_
      refine r_icmp_ge (tgt := 62) C dX6_neighbour_13 (by decide) (fun c4 => ?_) (fun c4 => ?_)
      · have v := v.1 c4
        refine r_iconst C dX6_neighbour_62 ⟨by decide, by decide⟩ ?_
        exact r_ireturn C dX6_neighbour_63 hXr (Nat.zero_le _) (by rw [hXP]; exact v)
      · have v := v.2 c4
        refine r_aload_n 0 C dX6_neighbour_16 rfl ?_
        refine r_aload_n 0 C dX6_neighbour_17 rfl ?_
        refine gf_X6_20 C dX6_neighbour_18 ?_
        refine r_bipush C dX6_neighbour_21 ⟨by decide, by decide⟩ (by decide) ?_
        refine r_iload_n 1 C dX6_neighbour_23 rfl ?_
        obtain ⟨o5, v⟩ := v
        refine r_imul C dX6_neighbour_24 o5 ?_
        refine r_iload 4 C dX6_neighbour_25 rfl ?_
        obtain ⟨o6, v⟩ := v
        refine r_iadd C dX6_neighbour_27 o6 ?_
        obtain ⟨o7, v⟩ := v
        refine r_iaload (r := 34) (N := 900) C dX6_neighbour_28 rfl o7 ?_
        refine r_iload_n 1 C dX6_neighbour_29 rfl ?_
        obtain ⟨o8, v⟩ := v
        refine s_calli0 [(h 34 ((30 * x1) + x4)), x1] [] C dX6_neighbour_30 ck_X6_69 (r := 30) (fY := 0) (nY := 0) rfl rfl (by decide) (by decide) (Nat.le_of_ble_eq_true rfl) rfl (by rw [hXl]; exact c_X6_far (h 34 ((30 * x1) + x4)) x1 h o8) (fun r9 gr9 qr9 => ?_)
        have v := v r9 gr9 qr9
        refine s_istore C dX6_neighbour_33 (by decide) (fun z10 ez10 => ?_)
        have v := v z10 ez10
        show Wh X 35 [(5, vi z10), (0, vr 30), (1, vi x1), (2, vi x2), (3, vi x3), (4, vi x4)] [] h 0
        refine r_aload_n 1 C dX6_neighbour_35 rfl ?_
        refine gf_X6_44 C dX6_neighbour_36 ?_
        refine r_iload 0 C dX6_neighbour_39 rfl ?_
        obtain ⟨o11, v⟩ := v
        refine r_baload (r := 42) (N := 30) C dX6_neighbour_41 rfl o11 ?_
        refine r_if_eq (tgt := 56) C dX6_neighbour_42 (by decide) (fun c12 => ?_) (fun c12 => ?_)
        · have v := v.1 c12
          exact s_sub [1, 2, 3, 4, 5] rfl (B_56 _ _ _ _ _ v)
        · have v := v.2 c12
          refine r_iload_n 4 C dX6_neighbour_45 rfl ?_
          refine r_iload_n 3 C dX6_neighbour_46 rfl ?_
          refine r_icmp_ne (tgt := 53) C dX6_neighbour_47 (by decide) (fun c13 => ?_) (fun c13 => ?_)
          · have v := v.1 c13
            obtain ⟨o15, v⟩ := v
            refine s_iinc 4 C dX6_neighbour_53 rfl (by decide) o15 (fun z14 ez14 => ?_)
            have v := v z14 ez14
            show Wh X 56 [(3, vi z14), (5, vi z10), (0, vr 30), (1, vi x1), (2, vi x2), (4, vi x4)] [] h 0
            exact s_sub [2, 3, 4, 0, 5] rfl (B_56 _ _ _ _ _ v)
          · have v := v.2 c13
            refine r_iload 0 C dX6_neighbour_50 rfl ?_
            exact r_ireturn C dX6_neighbour_52 hXr (Nat.zero_le _) (by rw [hXP]; exact v)
  show Wh X 0 [(0, vr 30), (1, vi a1), (2, vi a2)] [] h0 0
  have v := hmain
  unfold V_X6_neighbour at v
  refine r_iconst C dX6_neighbour_0 ⟨by decide, by decide⟩ ?_
  refine s_istore_n C dX6_neighbour_1 (by decide) (fun z16 ez16 => ?_)
  have v := v z16 ez16
  show Wh X 2 [(3, vi z16), (0, vr 30), (1, vi a1), (2, vi a2)] [] h0 0
  refine r_iconst C dX6_neighbour_2 ⟨by decide, by decide⟩ ?_
  refine s_istore C dX6_neighbour_3 (by decide) (fun z17 ez17 => ?_)
  have v := v z17 ez17
  show Wh X 5 [(4, vi z17), (3, vi z16), (0, vr 30), (1, vi a1), (2, vi a2)] [] h0 0
  obtain ⟨n', hI'⟩ := v
  exact s_sub [2, 3, 4, 1, 0] rfl (B_5 n' _ _ _ _ _ hI')

def V_X6_makeFree_71 (P : Int → Hp → Prop) (p_X6_neighbour : Int → Int → Hp → Prop) (q_X6_neighbour : Int → Int → Hp → Int → Prop) (p_X6_findChain : Int → Int → Int → Hp → Prop) (q_X6_findChain : Int → Int → Int → Hp → Hp → Prop) (p_X6_changeChain : Int → Int → Hp → Prop) (q_X6_changeChain : Int → Int → Hp → Hp → Prop) (h : Hp) (x2 : Int) (x3 : Int) : Prop :=
  ((0 : Int) ≤ x2 ∧ (x2 : Int) < 30) ∧ (∀ z2 : Int, z2 = (h 36 x2) → (((0 : Int) ≤ x3 ∧ (x3 : Int) < 30) ∧ (p_X6_changeChain z2 (h 36 x3) h ∧ (∀ h5 : Hp, Fr [36] h h5 → RH h5 → q_X6_changeChain z2 (h 36 x3) h h5 → (InR ((h5 30 10) + 1) ∧ (∀ h7 : Hp, h7 = hup h5 30 10 ((h5 30 10) + 1) → (P z2 h7)))))))
def V_X6_makeFree (P : Int → Hp → Prop) (p_X6_neighbour : Int → Int → Hp → Prop) (q_X6_neighbour : Int → Int → Hp → Int → Prop) (p_X6_findChain : Int → Int → Int → Hp → Prop) (q_X6_findChain : Int → Int → Int → Hp → Hp → Prop) (p_X6_changeChain : Int → Int → Hp → Prop) (q_X6_changeChain : Int → Int → Hp → Hp → Prop) (h0 : Hp) (a1 : Int) : Prop :=
  p_X6_neighbour a1 0 h0 ∧ (∀ r9 : Int, InR r9 → q_X6_neighbour a1 0 h0 r9 → (∀ z10 : Int, z10 = r9 → (p_X6_neighbour a1 2 h0 ∧ (∀ r12 : Int, InR r12 → q_X6_neighbour a1 2 h0 r12 → (∀ z13 : Int, z13 = r12 → (((0 : Int) ≤ z10 ∧ (z10 : Int) < 30) ∧ (((0 : Int) ≤ z13 ∧ (z13 : Int) < 30) ∧ (p_X6_findChain z10 (h0 36 z10) (h0 36 z13) h0 ∧ (∀ h17 : Hp, Fr [30, 40, 43] h0 h17 → RH h17 → q_X6_findChain z10 (h0 36 z10) (h0 36 z13) h0 h17 → (((0 : Int) ≤ z13 ∧ (z13 : Int) < 30) ∧ (((h17 43 z13) = 0 → V_X6_makeFree_71 P p_X6_neighbour q_X6_neighbour p_X6_findChain q_X6_findChain p_X6_changeChain q_X6_changeChain h17 z10 z13) ∧ (¬ (h17 43 z13) = 0 → p_X6_neighbour a1 1 h17 ∧ (∀ r21 : Int, InR r21 → q_X6_neighbour a1 1 h17 r21 → (∀ z22 : Int, z22 = r21 → (p_X6_neighbour a1 3 h17 ∧ (∀ r24 : Int, InR r24 → q_X6_neighbour a1 3 h17 r24 → (∀ z25 : Int, z25 = r24 → (((0 : Int) ≤ z22 ∧ (z22 : Int) < 30) ∧ (((0 : Int) ≤ z25 ∧ (z25 : Int) < 30) ∧ (p_X6_findChain z22 (h17 36 z22) (h17 36 z25) h17 ∧ (∀ h29 : Hp, Fr [30, 40, 43] h17 h29 → RH h29 → q_X6_findChain z22 (h17 36 z22) (h17 36 z25) h17 h29 → (V_X6_makeFree_71 P p_X6_neighbour q_X6_neighbour p_X6_findChain q_X6_findChain p_X6_changeChain q_X6_changeChain h29 z22 z25))))))))))))))))))))))
set_option maxHeartbeats 4000000 in
set_option maxRecDepth 100000 in
theorem w_X6_makeFree {l : Launch} (P : Int → Hp → Prop) (p_X6_neighbour : Int → Int → Hp → Prop) (q_X6_neighbour : Int → Int → Hp → Int → Prop) (p_X6_findChain : Int → Int → Int → Hp → Prop) (q_X6_findChain : Int → Int → Int → Hp → Hp → Prop) (p_X6_changeChain : Int → Int → Hp → Prop) (q_X6_changeChain : Int → Int → Hp → Hp → Prop) (h0 : Hp) (a1 : Int)
    (c_X6_neighbour : ∀ (b1 : Int) (b2 : Int) (h : Hp), p_X6_neighbour b1 b2 h → Ct l yX6_neighbour cX6_neighbour 6 (some .int) 1 22 0 [vr 30, vi b1, vi b2] h [] (fun r _ => q_X6_neighbour b1 b2 h r) (fun _ => False))
    (c_X6_findChain : ∀ (b1 : Int) (b2 : Int) (b3 : Int) (h : Hp), p_X6_findChain b1 b2 b3 h → Ct l yX6_findChain cX6_findChain 8 none 1 22 0 [vr 30, vi b1, vi b2, vi b3] h [30, 40, 43] (fun _ h1 => q_X6_findChain b1 b2 b3 h h1) (fun _ => False))
    (c_X6_changeChain : ∀ (b1 : Int) (b2 : Int) (h : Hp), p_X6_changeChain b1 b2 h → Ct l yX6_changeChain cX6_changeChain 4 none 0 0 0 [vr 30, vi b1, vi b2] h [36] (fun _ h1 => q_X6_changeChain b1 b2 h h1) (fun _ => False))
    (o : RH h0 → InR a1 → V_X6_makeFree P p_X6_neighbour q_X6_neighbour p_X6_findChain q_X6_findChain p_X6_changeChain q_X6_changeChain h0 a1) :
    Ct l yX6_makeFree cX6_makeFree 5 (some .int) 2 49 0 [vr 30, vi a1] h0 [30, 36, 40, 43] P (fun _ => False) := by
  refine Ct.of (own := RX6) (by decide) rfl (Nat.le_of_ble_eq_true rfl) ?_
  intro X C hXl hXM hXh hXP hXX hXc hXr hav hR0
  have hmain : V_X6_makeFree P p_X6_neighbour q_X6_neighbour p_X6_findChain q_X6_findChain p_X6_changeChain q_X6_changeChain h0 a1 := o hR0 (hav (vi a1) (by simp))
  have B_71 : ∀ (h : Hp) (x2 : Int) (x3 : Int), V_X6_makeFree_71 P p_X6_neighbour q_X6_neighbour p_X6_findChain q_X6_findChain p_X6_changeChain q_X6_changeChain h x2 x3 → Wh X 71 [(0, vr 30), (2, vi x2), (3, vi x3)] [] h 0 := by
    intro h x2 x3 v
    unfold V_X6_makeFree_71 at v
    refine r_aload_n 0 C dX6_makeFree_71 rfl ?_
    refine gf_X6_26 C dX6_makeFree_72 ?_
    refine r_iload_n 1 C dX6_makeFree_75 rfl ?_
    obtain ⟨o1, v⟩ := v
    refine r_iaload (r := 36) (N := 30) C dX6_makeFree_76 rfl o1 ?_
    refine s_istore C dX6_makeFree_77 (by decide) (fun z2 ez2 => ?_)
    have v := v z2 ez2
    show Wh X 79 [(4, vi z2), (0, vr 30), (2, vi x2), (3, vi x3)] [] h 0
    refine r_aload_n 1 C dX6_makeFree_79 rfl ?_
    refine r_iload 0 C dX6_makeFree_80 rfl ?_
    refine r_aload_n 1 C dX6_makeFree_82 rfl ?_
    refine gf_X6_26 C dX6_makeFree_83 ?_
    refine r_iload_n 3 C dX6_makeFree_86 rfl ?_
    obtain ⟨o3, v⟩ := v
    refine r_iaload (r := 36) (N := 30) C dX6_makeFree_87 rfl o3 ?_
    obtain ⟨o4, v⟩ := v
    refine s_callv [z2, (h 36 x3)] [] C dX6_makeFree_88 ck_X6_149 (r := 30) (fY := 0) (nY := 0) rfl rfl (by decide) (by decide) (Nat.le_of_ble_eq_true rfl) rfl (MY := [36]) hXM (by decide) (by rw [hXl]; exact c_X6_changeChain z2 (h 36 x3) h o4) (fun h5 fh5 kh5 qh5 => ?_)
    have v := v h5 fh5 kh5 qh5
    refine r_aload_n 1 C dX6_makeFree_91 rfl ?_
    refine r_dup C dX6_makeFree_92 trivial ?_
    refine gf_X6_73 C dX6_makeFree_93 ?_
    refine r_iconst C dX6_makeFree_96 ⟨by decide, by decide⟩ ?_
    obtain ⟨o6, v⟩ := v
    refine r_iadd C dX6_makeFree_97 o6 ?_
    refine pf_X6_73 C dX6_makeFree_98 hXM (by decide) (fun h7 eh7 => ?_)
    have v := v h7 eh7
    refine r_iload 0 C dX6_makeFree_101 rfl ?_
    exact r_ireturn C dX6_makeFree_103 hXr (Nat.zero_le _) (by rw [hXP]; exact v)
  show Wh X 0 [(0, vr 30), (1, vi a1)] [] h0 0
  have v := hmain
  unfold V_X6_makeFree at v
  refine r_aload_n 0 C dX6_makeFree_0 rfl ?_
  refine r_iload_n 1 C dX6_makeFree_1 rfl ?_
  refine r_iconst C dX6_makeFree_2 ⟨by decide, by decide⟩ ?_
  obtain ⟨o8, v⟩ := v
  refine s_calli0 [a1, 0] [] C dX6_makeFree_3 ck_X6_143 (r := 30) (fY := 1) (nY := 22) rfl rfl (by decide) (by decide) (Nat.le_of_ble_eq_true rfl) rfl (by rw [hXl]; exact c_X6_neighbour a1 0 h0 o8) (fun r9 gr9 qr9 => ?_)
  have v := v r9 gr9 qr9
  refine s_istore_n C dX6_makeFree_6 (by decide) (fun z10 ez10 => ?_)
  have v := v z10 ez10
  show Wh X 7 [(2, vi z10), (0, vr 30), (1, vi a1)] [] h0 0
  refine r_aload_n 1 C dX6_makeFree_7 rfl ?_
  refine r_iload_n 2 C dX6_makeFree_8 rfl ?_
  refine r_iconst C dX6_makeFree_9 ⟨by decide, by decide⟩ ?_
  obtain ⟨o11, v⟩ := v
  refine s_calli0 [a1, 2] [] C dX6_makeFree_10 ck_X6_143 (r := 30) (fY := 1) (nY := 22) rfl rfl (by decide) (by decide) (Nat.le_of_ble_eq_true rfl) rfl (by rw [hXl]; exact c_X6_neighbour a1 2 h0 o11) (fun r12 gr12 qr12 => ?_)
  have v := v r12 gr12 qr12
  refine s_istore_n C dX6_makeFree_13 (by decide) (fun z13 ez13 => ?_)
  have v := v z13 ez13
  show Wh X 14 [(3, vi z13), (2, vi z10), (0, vr 30), (1, vi a1)] [] h0 0
  refine r_aload_n 2 C dX6_makeFree_14 rfl ?_
  refine r_iload_n 1 C dX6_makeFree_15 rfl ?_
  refine r_aload_n 2 C dX6_makeFree_16 rfl ?_
  refine gf_X6_26 C dX6_makeFree_17 ?_
  refine r_iload_n 1 C dX6_makeFree_20 rfl ?_
  obtain ⟨o14, v⟩ := v
  refine r_iaload (r := 36) (N := 30) C dX6_makeFree_21 rfl o14 ?_
  refine r_aload_n 2 C dX6_makeFree_22 rfl ?_
  refine gf_X6_26 C dX6_makeFree_23 ?_
  refine r_iload_n 0 C dX6_makeFree_26 rfl ?_
  obtain ⟨o15, v⟩ := v
  refine r_iaload (r := 36) (N := 30) C dX6_makeFree_27 rfl o15 ?_
  obtain ⟨o16, v⟩ := v
  refine s_callv [z10, (h0 36 z10), (h0 36 z13)] [] C dX6_makeFree_28 ck_X6_146 (r := 30) (fY := 1) (nY := 22) rfl rfl (by decide) (by decide) (Nat.le_of_ble_eq_true rfl) rfl (MY := [30, 40, 43]) hXM (by decide) (by rw [hXl]; exact c_X6_findChain z10 (h0 36 z10) (h0 36 z13) h0 o16) (fun h17 fh17 kh17 qh17 => ?_)
  have v := v h17 fh17 kh17 qh17
  refine r_aload_n 2 C dX6_makeFree_31 rfl ?_
  refine gf_X6_47 C dX6_makeFree_32 ?_
  refine r_iload_n 0 C dX6_makeFree_35 rfl ?_
  obtain ⟨o18, v⟩ := v
  refine r_baload (r := 43) (N := 30) C dX6_makeFree_36 rfl o18 ?_
  refine r_if_eq (tgt := 71) C dX6_makeFree_37 (by decide) (fun c19 => ?_) (fun c19 => ?_)
  · have v := v.1 c19
    exact s_sub [2, 1, 0] rfl (B_71 _ _ _ v)
  · have v := v.2 c19
    refine r_aload_n 2 C dX6_makeFree_40 rfl ?_
    refine r_iload_n 3 C dX6_makeFree_41 rfl ?_
    refine r_iconst C dX6_makeFree_42 ⟨by decide, by decide⟩ ?_
    obtain ⟨o20, v⟩ := v
    refine s_calli0 [a1, 1] [] C dX6_makeFree_43 ck_X6_143 (r := 30) (fY := 1) (nY := 22) rfl rfl (by decide) (by decide) (Nat.le_of_ble_eq_true rfl) rfl (by rw [hXl]; exact c_X6_neighbour a1 1 h17 o20) (fun r21 gr21 qr21 => ?_)
    have v := v r21 gr21 qr21
    refine s_istore_n C dX6_makeFree_46 (by decide) (fun z22 ez22 => ?_)
    have v := v z22 ez22
    show Wh X 47 [(2, vi z22), (3, vi z13), (0, vr 30), (1, vi a1)] [] h17 0
    refine r_aload_n 2 C dX6_makeFree_47 rfl ?_
    refine r_iload_n 3 C dX6_makeFree_48 rfl ?_
    refine r_iconst C dX6_makeFree_49 ⟨by decide, by decide⟩ ?_
    obtain ⟨o23, v⟩ := v
    refine s_calli0 [a1, 3] [] C dX6_makeFree_50 ck_X6_143 (r := 30) (fY := 1) (nY := 22) rfl rfl (by decide) (by decide) (Nat.le_of_ble_eq_true rfl) rfl (by rw [hXl]; exact c_X6_neighbour a1 3 h17 o23) (fun r24 gr24 qr24 => ?_)
    have v := v r24 gr24 qr24
    refine s_istore_n C dX6_makeFree_53 (by decide) (fun z25 ez25 => ?_)
    have v := v z25 ez25
    show Wh X 54 [(3, vi z25), (2, vi z22), (0, vr 30), (1, vi a1)] [] h17 0
    refine r_aload_n 2 C dX6_makeFree_54 rfl ?_
    refine r_iload_n 1 C dX6_makeFree_55 rfl ?_
    refine r_aload_n 2 C dX6_makeFree_56 rfl ?_
    refine gf_X6_26 C dX6_makeFree_57 ?_
    refine r_iload_n 1 C dX6_makeFree_60 rfl ?_
    obtain ⟨o26, v⟩ := v
    refine r_iaload (r := 36) (N := 30) C dX6_makeFree_61 rfl o26 ?_
    refine r_aload_n 2 C dX6_makeFree_62 rfl ?_
    refine gf_X6_26 C dX6_makeFree_63 ?_
    refine r_iload_n 0 C dX6_makeFree_66 rfl ?_
    obtain ⟨o27, v⟩ := v
    refine r_iaload (r := 36) (N := 30) C dX6_makeFree_67 rfl o27 ?_
    obtain ⟨o28, v⟩ := v
    refine s_callv [z22, (h17 36 z22), (h17 36 z25)] [] C dX6_makeFree_68 ck_X6_146 (r := 30) (fY := 1) (nY := 22) rfl rfl (by decide) (by decide) (Nat.le_of_ble_eq_true rfl) rfl (MY := [30, 40, 43]) hXM (by decide) (by rw [hXl]; exact c_X6_findChain z22 (h17 36 z22) (h17 36 z25) h17 o28) (fun h29 fh29 kh29 qh29 => ?_)
    have v := v h29 fh29 kh29 qh29
    exact s_sub [2, 1, 0] rfl (B_71 _ _ _ v)


def V_X3_partBy (P : Int → Hp → Prop) (p_X3_markCycle : Int → Hp → Prop) (q_X3_markCycle : Int → Hp → Hp → Prop) (p_X3_markFacesInside : Int → Hp → Prop) (q_X3_markFacesInside : Int → Hp → Hp → Prop) (p_X3_countVertices : Int → Hp → Prop) (q_X3_countVertices : Int → Hp → Hp → Prop) (h0 : Hp) (a1 : Int) : Prop :=
  p_X3_markCycle a1 h0 ∧ (∀ h2 : Hp, Fr [5, 26, 27] h0 h2 → RH h2 → q_X3_markCycle a1 h0 h2 → (InR (2 * a1) ∧ (((0 : Int) ≤ (2 * a1) ∧ ((2 * a1) : Int) < 200) ∧ (p_X3_markFacesInside (h2 12 (2 * a1)) h2 ∧ (∀ h6 : Hp, Fr [5, 28, 29] h2 h6 → RH h6 → q_X3_markFacesInside (h2 12 (2 * a1)) h2 h6 → (InR (2 * a1) ∧ (((0 : Int) ≤ (2 * a1) ∧ ((2 * a1) : Int) < 200) ∧ (((0 : Int) ≤ (h6 6 (2 * a1)) ∧ ((h6 6 (2 * a1)) : Int) < 30) ∧ (p_X3_countVertices (h6 18 (h6 6 (2 * a1))) h6 ∧ (∀ h11 : Hp, Fr [5] h6 h11 → RH h11 → q_X3_countVertices (h6 18 (h6 6 (2 * a1))) h6 h11 → (P 0 h11)))))))))))
set_option maxHeartbeats 4000000 in
set_option maxRecDepth 100000 in
theorem w_X3_partBy {l : Launch} (P : Int → Hp → Prop) (p_X3_markCycle : Int → Hp → Prop) (q_X3_markCycle : Int → Hp → Hp → Prop) (p_X3_markFacesInside : Int → Hp → Prop) (q_X3_markFacesInside : Int → Hp → Hp → Prop) (p_X3_countVertices : Int → Hp → Prop) (q_X3_countVertices : Int → Hp → Hp → Prop) (h0 : Hp) (a1 : Int)
    (c_X3_markCycle : ∀ (b1 : Int) (h : Hp), p_X3_markCycle b1 h → Ct l yX3_markCycle cX3_markCycle 5 none 1 21 0 [vr 5, vi b1] h [5, 26, 27] (fun _ h1 => q_X3_markCycle b1 h h1) (fun _ => False))
    (c_X3_markFacesInside : ∀ (b1 : Int) (h : Hp), p_X3_markFacesInside b1 h → Ct l yX3_markFacesInside cX3_markFacesInside 3 none 2 45 0 [vr 5, vi b1] h [5, 28, 29] (fun _ h1 => q_X3_markFacesInside b1 h h1) (fun _ => False))
    (c_X3_countVertices : ∀ (b1 : Int) (h : Hp), p_X3_countVertices b1 h → Ct l yX3_countVertices cX3_countVertices 3 none 0 0 0 [vr 5, vi b1] h [5] (fun _ h1 => q_X3_countVertices b1 h h1) (fun _ => False))
    (o : RH h0 → InR a1 → V_X3_partBy P p_X3_markCycle q_X3_markCycle p_X3_markFacesInside q_X3_markFacesInside p_X3_countVertices q_X3_countVertices h0 a1) :
    Ct l yX3_partBy cX3_partBy 2 none 3 67 0 [vr 5, vi a1] h0 [5, 26, 27, 28, 29] P (fun _ => False) := by
  refine Ct.of (own := RX3) (by decide) rfl (Nat.le_of_ble_eq_true rfl) ?_
  intro X C hXl hXM hXh hXP hXX hXc hXr hav hR0
  have hmain : V_X3_partBy P p_X3_markCycle q_X3_markCycle p_X3_markFacesInside q_X3_markFacesInside p_X3_countVertices q_X3_countVertices h0 a1 := o hR0 (hav (vi a1) (by simp))
  show Wh X 0 [(0, vr 5), (1, vi a1)] [] h0 0
  have v := hmain
  unfold V_X3_partBy at v
  refine r_aload_n 0 C dX3_partBy_0 rfl ?_
  refine r_iload_n 1 C dX3_partBy_1 rfl ?_
  obtain ⟨o1, v⟩ := v
  refine s_callv [a1] [] C dX3_partBy_2 ck_X3_50 (r := 5) (fY := 1) (nY := 21) rfl rfl (by decide) (by decide) (Nat.le_of_ble_eq_true rfl) rfl (MY := [5, 26, 27]) hXM (by decide) (by rw [hXl]; exact c_X3_markCycle a1 h0 o1) (fun h2 fh2 kh2 qh2 => ?_)
  have v := v h2 fh2 kh2 qh2
  refine r_aload_n 0 C dX3_partBy_5 rfl ?_
  refine r_aload_n 0 C dX3_partBy_6 rfl ?_
  refine gf_X3_42 C dX3_partBy_7 ?_
  refine gf_X3_54 C dX3_partBy_10 ?_
  refine r_iconst C dX3_partBy_13 ⟨by decide, by decide⟩ ?_
  refine r_iload_n 1 C dX3_partBy_14 rfl ?_
  obtain ⟨o3, v⟩ := v
  refine r_imul C dX3_partBy_15 o3 ?_
  obtain ⟨o4, v⟩ := v
  refine r_iaload (r := 12) (N := 200) C dX3_partBy_16 rfl o4 ?_
  obtain ⟨o5, v⟩ := v
  refine s_callv [(h2 12 (2 * a1))] [] C dX3_partBy_17 ck_X3_59 (r := 5) (fY := 2) (nY := 45) rfl rfl (by decide) (by decide) (Nat.le_of_ble_eq_true rfl) rfl (MY := [5, 28, 29]) hXM (by decide) (by rw [hXl]; exact c_X3_markFacesInside (h2 12 (2 * a1)) h2 o5) (fun h6 fh6 kh6 qh6 => ?_)
  have v := v h6 fh6 kh6 qh6
  refine r_aload_n 0 C dX3_partBy_20 rfl ?_
  refine r_aload_n 0 C dX3_partBy_21 rfl ?_
  refine gf_X3_46 C dX3_partBy_22 ?_
  refine gf_X3_62 C dX3_partBy_25 ?_
  refine r_aload_n 0 C dX3_partBy_28 rfl ?_
  refine gf_X3_38 C dX3_partBy_29 ?_
  refine gf_X3_67 C dX3_partBy_32 ?_
  refine r_iconst C dX3_partBy_35 ⟨by decide, by decide⟩ ?_
  refine r_iload_n 1 C dX3_partBy_36 rfl ?_
  obtain ⟨o7, v⟩ := v
  refine r_imul C dX3_partBy_37 o7 ?_
  obtain ⟨o8, v⟩ := v
  refine r_iaload (r := 6) (N := 200) C dX3_partBy_38 rfl o8 ?_
  obtain ⟨o9, v⟩ := v
  refine r_iaload (r := 18) (N := 30) C dX3_partBy_39 rfl o9 ?_
  obtain ⟨o10, v⟩ := v
  refine s_callv [(h6 18 (h6 6 (2 * a1)))] [] C dX3_partBy_40 ck_X3_72 (r := 5) (fY := 0) (nY := 0) rfl rfl (by decide) (by decide) (Nat.le_of_ble_eq_true rfl) rfl (MY := [5]) hXM (by decide) (by rw [hXl]; exact c_X3_countVertices (h6 18 (h6 6 (2 * a1))) h6 o10) (fun h11 fh11 kh11 qh11 => ?_)
  have v := v h11 fh11 kh11 qh11
  exact r_return C dX3_partBy_43 hXr (Nat.zero_le _) (by rw [hXP]; exact v)

def V_X3_markCycle_94 (P : Int → Hp → Prop) (p_X3_unmarkCycle : Hp → Prop) (q_X3_unmarkCycle : Hp → Hp → Prop) (p_X3_climbFrom : Int → Hp → Prop) (q_X3_climbFrom : Int → Hp → Int → Hp → Prop) (I_40 : Nat → Hp → Int → Int → Int → Prop) (h : Hp) (x2 : Int) : Prop :=
  ((0 : Int) ≤ x2 ∧ (x2 : Int) < 30) ∧ (∀ h2 : Hp, h2 = hup h 26 x2 1 → (InR ((h2 5 8) + 1) ∧ (∀ h4 : Hp, h4 = hup h2 5 8 ((h2 5 8) + 1) → (P 0 h4))))
def V_X3_markCycle_88 (P : Int → Hp → Prop) (p_X3_unmarkCycle : Hp → Prop) (q_X3_unmarkCycle : Hp → Hp → Prop) (p_X3_climbFrom : Int → Hp → Prop) (q_X3_climbFrom : Int → Hp → Int → Hp → Prop) (I_40 : Nat → Hp → Int → Int → Int → Prop) (n_40 : Nat) (h : Hp) (x2 : Int) (x3 : Int) (x4 : Int) : Prop :=
  InR (x4 + 1) ∧ (∀ z5 : Int, z5 = x4 + 1 → (∃ n', n' < n_40 ∧ I_40 n' h x2 x3 z5))
def V_X3_markCycle_40 (P : Int → Hp → Prop) (p_X3_unmarkCycle : Hp → Prop) (q_X3_unmarkCycle : Hp → Hp → Prop) (p_X3_climbFrom : Int → Hp → Prop) (q_X3_climbFrom : Int → Hp → Int → Hp → Prop) (I_40 : Nat → Hp → Int → Int → Int → Prop) (n_40 : Nat) (h : Hp) (x2 : Int) (x3 : Int) (x4 : Int) : Prop :=
  (x2 = x3 → V_X3_markCycle_94 P p_X3_unmarkCycle q_X3_unmarkCycle p_X3_climbFrom q_X3_climbFrom I_40 h x2) ∧ (¬ x2 = x3 → (30 ≤ x4 → V_X3_markCycle_94 P p_X3_unmarkCycle q_X3_unmarkCycle p_X3_climbFrom q_X3_climbFrom I_40 h x2) ∧ (¬ 30 ≤ x4 → ((0 : Int) ≤ x2 ∧ (x2 : Int) < 30) ∧ (((0 : Int) ≤ x3 ∧ (x3 : Int) < 30) ∧ (((h 17 x2) < (h 17 x3) → p_X3_climbFrom x3 h ∧ (∀ (r13 : Int) (h14 : Hp), Fr [5, 26, 27] h h14 → RH h14 → InR r13 → q_X3_climbFrom x3 h r13 h14 → (∀ z15 : Int, z15 = r13 → (V_X3_markCycle_88 P p_X3_unmarkCycle q_X3_unmarkCycle p_X3_climbFrom q_X3_climbFrom I_40 n_40 h14 x2 z15 x4)))) ∧ (¬ (h 17 x2) < (h 17 x3) → p_X3_climbFrom x2 h ∧ (∀ (r17 : Int) (h18 : Hp), Fr [5, 26, 27] h h18 → RH h18 → InR r17 → q_X3_climbFrom x2 h r17 h18 → (∀ z19 : Int, z19 = r17 → (V_X3_markCycle_88 P p_X3_unmarkCycle q_X3_unmarkCycle p_X3_climbFrom q_X3_climbFrom I_40 n_40 h18 z19 x3 x4))))))))
def V_X3_markCycle (P : Int → Hp → Prop) (p_X3_unmarkCycle : Hp → Prop) (q_X3_unmarkCycle : Hp → Hp → Prop) (p_X3_climbFrom : Int → Hp → Prop) (q_X3_climbFrom : Int → Hp → Int → Hp → Prop) (I_40 : Nat → Hp → Int → Int → Int → Prop) (h0 : Hp) (a1 : Int) : Prop :=
  p_X3_unmarkCycle h0 ∧ (∀ h21 : Hp, Fr [5, 26, 27] h0 h21 → RH h21 → q_X3_unmarkCycle h0 h21 → (((0 : Int) ≤ a1 ∧ (a1 : Int) < 100) ∧ (∀ h23 : Hp, h23 = hup h21 27 a1 1 → (InR (2 * a1) ∧ (((0 : Int) ≤ (2 * a1) ∧ ((2 * a1) : Int) < 200) ∧ (∀ z26 : Int, z26 = (h23 6 (2 * a1)) → (InR (2 * a1) ∧ (InR ((2 * a1) + 1) ∧ (((0 : Int) ≤ ((2 * a1) + 1) ∧ (((2 * a1) + 1) : Int) < 200) ∧ (∀ z30 : Int, z30 = (h23 6 ((2 * a1) + 1)) → (∀ z31 : Int, z31 = 0 → (∃ n', I_40 n' h23 z26 z30 z31))))))))))))
set_option maxHeartbeats 4000000 in
set_option maxRecDepth 100000 in
theorem w_X3_markCycle {l : Launch} (P : Int → Hp → Prop) (p_X3_unmarkCycle : Hp → Prop) (q_X3_unmarkCycle : Hp → Hp → Prop) (p_X3_climbFrom : Int → Hp → Prop) (q_X3_climbFrom : Int → Hp → Int → Hp → Prop) (I_40 : Nat → Hp → Int → Int → Int → Prop) (h0 : Hp) (a1 : Int)
    (c_X3_unmarkCycle : ∀ (h : Hp), p_X3_unmarkCycle h → Ct l yX3_unmarkCycle cX3_unmarkCycle 2 none 0 0 0 [vr 5] h [5, 26, 27] (fun _ h1 => q_X3_unmarkCycle h h1) (fun _ => False))
    (c_X3_climbFrom : ∀ (b1 : Int) (h : Hp), p_X3_climbFrom b1 h → Ct l yX3_climbFrom cX3_climbFrom 2 (some .int) 0 0 0 [vr 5, vi b1] h [5, 26, 27] (fun r h1 => q_X3_climbFrom b1 h r h1) (fun _ => False))
    (o_40 : ∀ (n_40 : Nat) (h : Hp) (x2 : Int) (x3 : Int) (x4 : Int), RH h → Fr [5, 26, 27] h0 h → InR x2 → InR x3 → InR x4 → I_40 n_40 h x2 x3 x4 → V_X3_markCycle_40 P p_X3_unmarkCycle q_X3_unmarkCycle p_X3_climbFrom q_X3_climbFrom I_40 n_40 h x2 x3 x4)
    (o : RH h0 → InR a1 → V_X3_markCycle P p_X3_unmarkCycle q_X3_unmarkCycle p_X3_climbFrom q_X3_climbFrom I_40 h0 a1) :
    Ct l yX3_markCycle cX3_markCycle 5 none 1 21 0 [vr 5, vi a1] h0 [5, 26, 27] P (fun _ => False) := by
  refine Ct.of (own := RX3) (by decide) rfl (Nat.le_of_ble_eq_true rfl) ?_
  intro X C hXl hXM hXh hXP hXX hXc hXr hav hR0
  have hmain : V_X3_markCycle P p_X3_unmarkCycle q_X3_unmarkCycle p_X3_climbFrom q_X3_climbFrom I_40 h0 a1 := o hR0 (hav (vi a1) (by simp))
  have B_94 : ∀ (h : Hp) (x2 : Int), V_X3_markCycle_94 P p_X3_unmarkCycle q_X3_unmarkCycle p_X3_climbFrom q_X3_climbFrom I_40 h x2 → Wh X 94 [(0, vr 5), (2, vi x2)] [] h 0 := by
    intro h x2 v
    unfold V_X3_markCycle_94 at v
    refine r_aload_n 0 C dX3_markCycle_94 rfl ?_
    refine gf_X3_9 C dX3_markCycle_95 ?_
    refine r_iload_n 1 C dX3_markCycle_98 rfl ?_
    refine r_iconst C dX3_markCycle_99 ⟨by decide, by decide⟩ ?_
    obtain ⟨o1, v⟩ := v
    refine s_bastore (r := 26) (N := 30) C dX3_markCycle_100 rfl hXM (by decide) o1 (by decide) (fun h2 eh2 => ?_)
    have v := v h2 eh2
    refine r_aload_n 0 C dX3_markCycle_101 rfl ?_
    refine r_dup C dX3_markCycle_102 trivial ?_
    refine gf_X3_29 C dX3_markCycle_103 ?_
    refine r_iconst C dX3_markCycle_106 ⟨by decide, by decide⟩ ?_
    obtain ⟨o3, v⟩ := v
    refine r_iadd C dX3_markCycle_107 o3 ?_
    refine pf_X3_29 C dX3_markCycle_108 hXM (by decide) (fun h4 eh4 => ?_)
    have v := v h4 eh4
    exact r_return C dX3_markCycle_111 hXr (Nat.zero_le _) (by rw [hXP]; exact v)
  have B_40 : ∀ (n_40 : Nat) (h : Hp) (x2 : Int) (x3 : Int) (x4 : Int), I_40 n_40 h x2 x3 x4 → Wh X 40 [(0, vr 5), (2, vi x2), (3, vi x3), (4, vi x4)] [] h 0 := by
    intro n_40
    induction n_40 using Nat.strongRecOn with
    | _ n_40 ih_40 =>
      intro h x2 x3 x4 hI
      refine s_use fun hR hF hL => ?_
      have v := o_40 n_40 h x2 x3 x4 hR (by rw [hXM, hXh] at hF; exact hF) (hL (2, vi x2) (by simp)) (hL (3, vi x3) (by simp)) (hL (4, vi x4) (by simp)) hI
      unfold V_X3_markCycle_40 at v
      have B_88 : ∀ (h : Hp) (x2 : Int) (x3 : Int) (x4 : Int), V_X3_markCycle_88 P p_X3_unmarkCycle q_X3_unmarkCycle p_X3_climbFrom q_X3_climbFrom I_40 n_40 h x2 x3 x4 → Wh X 88 [(0, vr 5), (2, vi x2), (3, vi x3), (4, vi x4)] [] h 0 := by
        intro h x2 x3 x4 v
        unfold V_X3_markCycle_88 at v
        obtain ⟨o6, v⟩ := v
        refine s_iinc 3 C dX3_markCycle_88 rfl (by decide) o6 (fun z5 ez5 => ?_)
        have v := v z5 ez5
        show Wh X 91 [(4, vi z5), (0, vr 5), (2, vi x2), (3, vi x3)] [] h 0
        refine r_goto (tgt := 40) C dX3_markCycle_91 (by decide) ?_
        obtain ⟨n', hn', hI'⟩ := v
        exact s_sub [1, 2, 3, 0] rfl (ih_40 n' hn' _ _ _ _ hI')
      refine r_iload_n 1 C dX3_markCycle_40 rfl ?_
      refine r_iload_n 2 C dX3_markCycle_41 rfl ?_
      refine r_icmp_eq (tgt := 94) C dX3_markCycle_42 (by decide) (fun c7 => ?_) (fun c7 => ?_)
      · have v := v.1 c7
        exact s_sub [0, 1] rfl (B_94 _ _ v)
      · have v := v.2 c7
        refine r_iload 3 C dX3_markCycle_45 rfl ?_
        refine r_bipush C dX3_markCycle_47 ⟨by decide, by decide⟩ (by decide) ?_
        refine r_icmp_ge (tgt := 94) C dX3_markCycle_49 (by decide) (fun c8 => ?_) (fun c8 => ?_)
        · have v := v.1 c8
          exact s_sub [0, 1] rfl (B_94 _ _ v)
        · have v := v.2 c8
          refine r_aload_n 0 C dX3_markCycle_52 rfl ?_
          refine gf_X3_46 C dX3_markCycle_53 ?_
          refine gf_X3_78 C dX3_markCycle_56 ?_
          refine r_iload_n 1 C dX3_markCycle_59 rfl ?_
          obtain ⟨o9, v⟩ := v
          refine r_iaload (r := 17) (N := 30) C dX3_markCycle_60 rfl o9 ?_
          refine r_aload_n 0 C dX3_markCycle_61 rfl ?_
          refine gf_X3_46 C dX3_markCycle_62 ?_
          refine gf_X3_78 C dX3_markCycle_65 ?_
          refine r_iload_n 2 C dX3_markCycle_68 rfl ?_
          obtain ⟨o10, v⟩ := v
          refine r_iaload (r := 17) (N := 30) C dX3_markCycle_69 rfl o10 ?_
          refine r_icmp_lt (tgt := 82) C dX3_markCycle_70 (by decide) (fun c11 => ?_) (fun c11 => ?_)
          · have v := v.1 c11
            refine r_aload_n 0 C dX3_markCycle_82 rfl ?_
            refine r_iload_n 2 C dX3_markCycle_83 rfl ?_
            obtain ⟨o12, v⟩ := v
            refine s_calli [x3] [] C dX3_markCycle_84 ck_X3_81 (r := 5) (fY := 0) (nY := 0) rfl rfl (by decide) (by decide) (Nat.le_of_ble_eq_true rfl) rfl (MY := [5, 26, 27]) hXM (by decide) (by rw [hXl]; exact c_X3_climbFrom x3 h o12) (fun r13 h14 fr13 kr13 gr13 qr13 => ?_)
            have v := v r13 h14 fr13 kr13 gr13 qr13
            refine s_istore_n C dX3_markCycle_87 (by decide) (fun z15 ez15 => ?_)
            have v := v z15 ez15
            show Wh X 88 [(3, vi z15), (0, vr 5), (2, vi x2), (4, vi x4)] [] h14 0
            exact s_sub [1, 2, 0, 3] rfl (B_88 _ _ _ _ v)
          · have v := v.2 c11
            refine r_aload_n 0 C dX3_markCycle_73 rfl ?_
            refine r_iload_n 1 C dX3_markCycle_74 rfl ?_
            obtain ⟨o16, v⟩ := v
            refine s_calli [x2] [] C dX3_markCycle_75 ck_X3_81 (r := 5) (fY := 0) (nY := 0) rfl rfl (by decide) (by decide) (Nat.le_of_ble_eq_true rfl) rfl (MY := [5, 26, 27]) hXM (by decide) (by rw [hXl]; exact c_X3_climbFrom x2 h o16) (fun r17 h18 fr17 kr17 gr17 qr17 => ?_)
            have v := v r17 h18 fr17 kr17 gr17 qr17
            refine s_istore_n C dX3_markCycle_78 (by decide) (fun z19 ez19 => ?_)
            have v := v z19 ez19
            show Wh X 79 [(2, vi z19), (0, vr 5), (3, vi x3), (4, vi x4)] [] h18 0
            refine r_goto (tgt := 88) C dX3_markCycle_79 (by decide) ?_
            exact s_sub [1, 0, 2, 3] rfl (B_88 _ _ _ _ v)
  show Wh X 0 [(0, vr 5), (1, vi a1)] [] h0 0
  have v := hmain
  unfold V_X3_markCycle at v
  refine r_aload_n 0 C dX3_markCycle_0 rfl ?_
  obtain ⟨o20, v⟩ := v
  refine s_callv [] [] C dX3_markCycle_1 ck_X3_75 (r := 5) (fY := 0) (nY := 0) rfl rfl (by decide) (by decide) (Nat.le_of_ble_eq_true rfl) rfl (MY := [5, 26, 27]) hXM (by decide) (by rw [hXl]; exact c_X3_unmarkCycle h0 o20) (fun h21 fh21 kh21 qh21 => ?_)
  have v := v h21 fh21 kh21 qh21
  refine r_aload_n 0 C dX3_markCycle_4 rfl ?_
  refine gf_X3_15 C dX3_markCycle_5 ?_
  refine r_iload_n 1 C dX3_markCycle_8 rfl ?_
  refine r_iconst C dX3_markCycle_9 ⟨by decide, by decide⟩ ?_
  obtain ⟨o22, v⟩ := v
  refine s_bastore (r := 27) (N := 100) C dX3_markCycle_10 rfl hXM (by decide) o22 (by decide) (fun h23 eh23 => ?_)
  have v := v h23 eh23
  refine r_aload_n 0 C dX3_markCycle_11 rfl ?_
  refine gf_X3_38 C dX3_markCycle_12 ?_
  refine gf_X3_67 C dX3_markCycle_15 ?_
  refine r_iconst C dX3_markCycle_18 ⟨by decide, by decide⟩ ?_
  refine r_iload_n 1 C dX3_markCycle_19 rfl ?_
  obtain ⟨o24, v⟩ := v
  refine r_imul C dX3_markCycle_20 o24 ?_
  obtain ⟨o25, v⟩ := v
  refine r_iaload (r := 6) (N := 200) C dX3_markCycle_21 rfl o25 ?_
  refine s_istore_n C dX3_markCycle_22 (by decide) (fun z26 ez26 => ?_)
  have v := v z26 ez26
  show Wh X 23 [(2, vi z26), (0, vr 5), (1, vi a1)] [] h23 0
  refine r_aload_n 1 C dX3_markCycle_23 rfl ?_
  refine gf_X3_38 C dX3_markCycle_24 ?_
  refine gf_X3_67 C dX3_markCycle_27 ?_
  refine r_iconst C dX3_markCycle_30 ⟨by decide, by decide⟩ ?_
  refine r_iload_n 2 C dX3_markCycle_31 rfl ?_
  obtain ⟨o27, v⟩ := v
  refine r_imul C dX3_markCycle_32 o27 ?_
  refine r_iconst C dX3_markCycle_33 ⟨by decide, by decide⟩ ?_
  obtain ⟨o28, v⟩ := v
  refine r_iadd C dX3_markCycle_34 o28 ?_
  obtain ⟨o29, v⟩ := v
  refine r_iaload (r := 6) (N := 200) C dX3_markCycle_35 rfl o29 ?_
  refine s_istore_n C dX3_markCycle_36 (by decide) (fun z30 ez30 => ?_)
  have v := v z30 ez30
  show Wh X 37 [(3, vi z30), (2, vi z26), (0, vr 5), (1, vi a1)] [] h23 0
  refine r_iconst C dX3_markCycle_37 ⟨by decide, by decide⟩ ?_
  refine s_istore C dX3_markCycle_38 (by decide) (fun z31 ez31 => ?_)
  have v := v z31 ez31
  show Wh X 40 [(4, vi z31), (3, vi z30), (2, vi z26), (0, vr 5), (1, vi a1)] [] h23 0
  obtain ⟨n', hI'⟩ := v
  exact s_sub [3, 2, 1, 0] rfl (B_40 n' _ _ _ _ hI')

def V_X3_unmarkCycle_28 (P : Int → Hp → Prop) (I_2 : Nat → Hp → Int → Prop) (I_28 : Nat → Hp → Int → Prop) (n_28 : Nat) (h : Hp) (x1 : Int) : Prop :=
  ((h 1 7) ≤ x1 → ∀ h2 : Hp, h2 = hup h 5 8 0 → (P 0 h2)) ∧ (¬ (h 1 7) ≤ x1 → ((0 : Int) ≤ x1 ∧ (x1 : Int) < 100) ∧ (∀ h4 : Hp, h4 = hup h 27 x1 0 → (InR (x1 + 1) ∧ (∀ z5 : Int, z5 = x1 + 1 → (∃ n', n' < n_28 ∧ I_28 n' h4 z5)))))
def V_X3_unmarkCycle_2 (P : Int → Hp → Prop) (I_2 : Nat → Hp → Int → Prop) (I_28 : Nat → Hp → Int → Prop) (n_2 : Nat) (h : Hp) (x1 : Int) : Prop :=
  ((h 1 6) ≤ x1 → ∀ z8 : Int, z8 = 0 → (∃ n', I_28 n' h z8)) ∧ (¬ (h 1 6) ≤ x1 → ((0 : Int) ≤ x1 ∧ (x1 : Int) < 30) ∧ (∀ h10 : Hp, h10 = hup h 26 x1 0 → (InR (x1 + 1) ∧ (∀ z11 : Int, z11 = x1 + 1 → (∃ n', n' < n_2 ∧ I_2 n' h10 z11)))))
def V_X3_unmarkCycle (P : Int → Hp → Prop) (I_2 : Nat → Hp → Int → Prop) (I_28 : Nat → Hp → Int → Prop) (h0 : Hp) : Prop :=
  ∀ z13 : Int, z13 = 0 → (∃ n', I_2 n' h0 z13)
set_option maxHeartbeats 4000000 in
set_option maxRecDepth 100000 in
theorem w_X3_unmarkCycle {l : Launch} (P : Int → Hp → Prop) (I_2 : Nat → Hp → Int → Prop) (I_28 : Nat → Hp → Int → Prop) (h0 : Hp)
    (o_2 : ∀ (n_2 : Nat) (h : Hp) (x1 : Int), RH h → Fr [5, 26, 27] h0 h → InR x1 → I_2 n_2 h x1 → V_X3_unmarkCycle_2 P I_2 I_28 n_2 h x1)
    (o_28 : ∀ (n_28 : Nat) (h : Hp) (x1 : Int), RH h → Fr [5, 26, 27] h0 h → InR x1 → I_28 n_28 h x1 → V_X3_unmarkCycle_28 P I_2 I_28 n_28 h x1)
    (o : RH h0 → V_X3_unmarkCycle P I_2 I_28 h0) :
    Ct l yX3_unmarkCycle cX3_unmarkCycle 2 none 0 0 0 [vr 5] h0 [5, 26, 27] P (fun _ => False) := by
  refine Ct.of (own := RX3) (by decide) rfl (Nat.le_of_ble_eq_true rfl) ?_
  intro X C hXl hXM hXh hXP hXX hXc hXr hav hR0
  have hmain : V_X3_unmarkCycle P I_2 I_28 h0 := o hR0 
  have B_28 : ∀ (n_28 : Nat) (h : Hp) (x1 : Int), I_28 n_28 h x1 → Wh X 28 [(0, vr 5), (1, vi x1)] [] h 0 := by
    intro n_28
    induction n_28 using Nat.strongRecOn with
    | _ n_28 ih_28 =>
      intro h x1 hI
      refine s_use fun hR hF hL => ?_
      have v := o_28 n_28 h x1 hR (by rw [hXM, hXh] at hF; exact hF) (hL (1, vi x1) (by simp)) hI
      unfold V_X3_unmarkCycle_28 at v
      refine r_iload_n 1 C dX3_unmarkCycle_28 rfl ?_
      refine r_aload_n 0 C dX3_unmarkCycle_29 rfl ?_
      refine gf_X3_38 C dX3_unmarkCycle_30 ?_
      refine gf_X3_88 C dX3_unmarkCycle_33 ?_
      refine r_icmp_ge (tgt := 52) C dX3_unmarkCycle_36 (by decide) (fun c1 => ?_) (fun c1 => ?_)
      · have v := v.1 c1
        refine r_aload_n 0 C dX3_unmarkCycle_52 rfl ?_
        refine r_iconst C dX3_unmarkCycle_53 ⟨by decide, by decide⟩ ?_
        refine pf_X3_29 C dX3_unmarkCycle_54 hXM (by decide) (fun h2 eh2 => ?_)
        have v := v h2 eh2
        exact r_return C dX3_unmarkCycle_57 hXr (Nat.zero_le _) (by rw [hXP]; exact v)
      · have v := v.2 c1
        refine r_aload_n 0 C dX3_unmarkCycle_39 rfl ?_
        refine gf_X3_15 C dX3_unmarkCycle_40 ?_
        refine r_iload_n 1 C dX3_unmarkCycle_43 rfl ?_
        refine r_iconst C dX3_unmarkCycle_44 ⟨by decide, by decide⟩ ?_
        obtain ⟨o3, v⟩ := v
        refine s_bastore (r := 27) (N := 100) C dX3_unmarkCycle_45 rfl hXM (by decide) o3 (by decide) (fun h4 eh4 => ?_)
        have v := v h4 eh4
        obtain ⟨o6, v⟩ := v
        refine s_iinc 1 C dX3_unmarkCycle_46 rfl (by decide) o6 (fun z5 ez5 => ?_)
        have v := v z5 ez5
        show Wh X 49 [(1, vi z5), (0, vr 5)] [] h4 0
        refine r_goto (tgt := 28) C dX3_unmarkCycle_49 (by decide) ?_
        obtain ⟨n', hn', hI'⟩ := v
        exact s_sub [1, 0] rfl (ih_28 n' hn' _ _ hI')
  have B_2 : ∀ (n_2 : Nat) (h : Hp) (x1 : Int), I_2 n_2 h x1 → Wh X 2 [(0, vr 5), (1, vi x1)] [] h 0 := by
    intro n_2
    induction n_2 using Nat.strongRecOn with
    | _ n_2 ih_2 =>
      intro h x1 hI
      refine s_use fun hR hF hL => ?_
      have v := o_2 n_2 h x1 hR (by rw [hXM, hXh] at hF; exact hF) (hL (1, vi x1) (by simp)) hI
      unfold V_X3_unmarkCycle_2 at v
      refine r_iload_n 1 C dX3_unmarkCycle_2 rfl ?_
      refine r_aload_n 0 C dX3_unmarkCycle_3 rfl ?_
      refine gf_X3_38 C dX3_unmarkCycle_4 ?_
      refine gf_X3_85 C dX3_unmarkCycle_7 ?_
      refine r_icmp_ge (tgt := 26) C dX3_unmarkCycle_10 (by decide) (fun c7 => ?_) (fun c7 => ?_)
      · have v := v.1 c7
        refine r_iconst C dX3_unmarkCycle_26 ⟨by decide, by decide⟩ ?_
        refine s_istore_n C dX3_unmarkCycle_27 (by decide) (fun z8 ez8 => ?_)
        have v := v z8 ez8
        show Wh X 28 [(1, vi z8), (0, vr 5)] [] h 0
        obtain ⟨n', hI'⟩ := v
        exact s_sub [1, 0] rfl (B_28 n' _ _ hI')
      · have v := v.2 c7
        refine r_aload_n 0 C dX3_unmarkCycle_13 rfl ?_
        refine gf_X3_9 C dX3_unmarkCycle_14 ?_
        refine r_iload_n 1 C dX3_unmarkCycle_17 rfl ?_
        refine r_iconst C dX3_unmarkCycle_18 ⟨by decide, by decide⟩ ?_
        obtain ⟨o9, v⟩ := v
        refine s_bastore (r := 26) (N := 30) C dX3_unmarkCycle_19 rfl hXM (by decide) o9 (by decide) (fun h10 eh10 => ?_)
        have v := v h10 eh10
        obtain ⟨o12, v⟩ := v
        refine s_iinc 1 C dX3_unmarkCycle_20 rfl (by decide) o12 (fun z11 ez11 => ?_)
        have v := v z11 ez11
        show Wh X 23 [(1, vi z11), (0, vr 5)] [] h10 0
        refine r_goto (tgt := 2) C dX3_unmarkCycle_23 (by decide) ?_
        obtain ⟨n', hn', hI'⟩ := v
        exact s_sub [1, 0] rfl (ih_2 n' hn' _ _ hI')
  show Wh X 0 [(0, vr 5)] [] h0 0
  have v := hmain
  unfold V_X3_unmarkCycle at v
  refine r_iconst C dX3_unmarkCycle_0 ⟨by decide, by decide⟩ ?_
  refine s_istore_n C dX3_unmarkCycle_1 (by decide) (fun z13 ez13 => ?_)
  have v := v z13 ez13
  show Wh X 2 [(1, vi z13), (0, vr 5)] [] h0 0
  obtain ⟨n', hI'⟩ := v
  exact s_sub [1, 0] rfl (B_2 n' _ _ hI')

def V_X3_climbFrom (P : Int → Hp → Prop) (h0 : Hp) (a1 : Int) : Prop :=
  ((0 : Int) ≤ a1 ∧ (a1 : Int) < 30) ∧ (∀ h2 : Hp, h2 = hup h0 26 a1 1 → (((0 : Int) ≤ a1 ∧ (a1 : Int) < 30) ∧ (((0 : Int) ≤ (h2 16 a1) ∧ ((h2 16 a1) : Int) < 100) ∧ (∀ h5 : Hp, h5 = hup h2 27 (h2 16 a1) 1 → (InR ((h5 5 8) + 1) ∧ (∀ h7 : Hp, h7 = hup h5 5 8 ((h5 5 8) + 1) → (((0 : Int) ≤ a1 ∧ (a1 : Int) < 30) ∧ (P (h7 15 a1) h7))))))))
set_option maxHeartbeats 4000000 in
set_option maxRecDepth 100000 in
theorem w_X3_climbFrom {l : Launch} (P : Int → Hp → Prop) (h0 : Hp) (a1 : Int)
    (o : RH h0 → InR a1 → V_X3_climbFrom P h0 a1) :
    Ct l yX3_climbFrom cX3_climbFrom 2 (some .int) 0 0 0 [vr 5, vi a1] h0 [5, 26, 27] P (fun _ => False) := by
  refine Ct.of (own := RX3) (by decide) rfl (Nat.le_of_ble_eq_true rfl) ?_
  intro X C hXl hXM hXh hXP hXX hXc hXr hav hR0
  have hmain : V_X3_climbFrom P h0 a1 := o hR0 (hav (vi a1) (by simp))
  show Wh X 0 [(0, vr 5), (1, vi a1)] [] h0 0
  have v := hmain
  unfold V_X3_climbFrom at v
  refine r_aload_n 0 C dX3_climbFrom_0 rfl ?_
  refine gf_X3_9 C dX3_climbFrom_1 ?_
  refine r_iload_n 1 C dX3_climbFrom_4 rfl ?_
  refine r_iconst C dX3_climbFrom_5 ⟨by decide, by decide⟩ ?_
  obtain ⟨o1, v⟩ := v
  refine s_bastore (r := 26) (N := 30) C dX3_climbFrom_6 rfl hXM (by decide) o1 (by decide) (fun h2 eh2 => ?_)
  have v := v h2 eh2
  refine r_aload_n 0 C dX3_climbFrom_7 rfl ?_
  refine gf_X3_15 C dX3_climbFrom_8 ?_
  refine r_aload_n 0 C dX3_climbFrom_11 rfl ?_
  refine gf_X3_46 C dX3_climbFrom_12 ?_
  refine gf_X3_91 C dX3_climbFrom_15 ?_
  refine r_iload_n 1 C dX3_climbFrom_18 rfl ?_
  obtain ⟨o3, v⟩ := v
  refine r_iaload (r := 16) (N := 30) C dX3_climbFrom_19 rfl o3 ?_
  refine r_iconst C dX3_climbFrom_20 ⟨by decide, by decide⟩ ?_
  obtain ⟨o4, v⟩ := v
  refine s_bastore (r := 27) (N := 100) C dX3_climbFrom_21 rfl hXM (by decide) o4 (by decide) (fun h5 eh5 => ?_)
  have v := v h5 eh5
  refine r_aload_n 0 C dX3_climbFrom_22 rfl ?_
  refine r_dup C dX3_climbFrom_23 trivial ?_
  refine gf_X3_29 C dX3_climbFrom_24 ?_
  refine r_iconst C dX3_climbFrom_27 ⟨by decide, by decide⟩ ?_
  obtain ⟨o6, v⟩ := v
  refine r_iadd C dX3_climbFrom_28 o6 ?_
  refine pf_X3_29 C dX3_climbFrom_29 hXM (by decide) (fun h7 eh7 => ?_)
  have v := v h7 eh7
  refine r_aload_n 0 C dX3_climbFrom_32 rfl ?_
  refine gf_X3_46 C dX3_climbFrom_33 ?_
  refine gf_X3_94 C dX3_climbFrom_36 ?_
  refine r_iload_n 1 C dX3_climbFrom_39 rfl ?_
  obtain ⟨o8, v⟩ := v
  refine r_iaload (r := 15) (N := 30) C dX3_climbFrom_40 rfl o8 ?_
  exact r_ireturn C dX3_climbFrom_41 hXr (Nat.zero_le _) (by rw [hXP]; exact v)

def V_X3_markFacesInside_69 (P : Int → Hp → Prop) (p_X3_addInside : Int → Hp → Prop) (q_X3_addInside : Int → Hp → Hp → Prop) (p_X3_addFacesBeside : Int → Hp → Prop) (q_X3_addFacesBeside : Int → Hp → Hp → Prop) (I_2 : Nat → Hp → Int → Int → Prop) (I_38 : Nat → Hp → Int → Prop) (h : Hp) : Prop :=
  P 0 h
def V_X3_markFacesInside_38 (P : Int → Hp → Prop) (p_X3_addInside : Int → Hp → Prop) (q_X3_addInside : Int → Hp → Hp → Prop) (p_X3_addFacesBeside : Int → Hp → Prop) (q_X3_addFacesBeside : Int → Hp → Hp → Prop) (I_2 : Nat → Hp → Int → Int → Prop) (I_38 : Nat → Hp → Int → Prop) (n_38 : Nat) (h : Hp) (x2 : Int) : Prop :=
  ((h 5 7) ≤ x2 → V_X3_markFacesInside_69 P p_X3_addInside q_X3_addInside p_X3_addFacesBeside q_X3_addFacesBeside I_2 I_38 h) ∧ (¬ (h 5 7) ≤ x2 → (200 ≤ x2 → V_X3_markFacesInside_69 P p_X3_addInside q_X3_addInside p_X3_addFacesBeside q_X3_addFacesBeside I_2 I_38 h) ∧ (¬ 200 ≤ x2 → ((0 : Int) ≤ x2 ∧ (x2 : Int) < 200) ∧ (p_X3_addFacesBeside (h 29 x2) h ∧ (∀ h5 : Hp, Fr [5, 28, 29] h h5 → RH h5 → q_X3_addFacesBeside (h 29 x2) h h5 → (InR (x2 + 1) ∧ (∀ z6 : Int, z6 = x2 + 1 → (∃ n', n' < n_38 ∧ I_38 n' h5 z6)))))))
def V_X3_markFacesInside_2 (P : Int → Hp → Prop) (p_X3_addInside : Int → Hp → Prop) (q_X3_addInside : Int → Hp → Hp → Prop) (p_X3_addFacesBeside : Int → Hp → Prop) (q_X3_addFacesBeside : Int → Hp → Hp → Prop) (I_2 : Nat → Hp → Int → Int → Prop) (I_38 : Nat → Hp → Int → Prop) (n_2 : Nat) (h : Hp) (x1 : Int) (x2 : Int) : Prop :=
  ((h 2 4) ≤ x2 → ∀ h9 : Hp, h9 = hup h 5 7 0 → (p_X3_addInside x1 h9 ∧ (∀ h11 : Hp, Fr [5, 28, 29] h9 h11 → RH h11 → q_X3_addInside x1 h9 h11 → (∀ z12 : Int, z12 = 0 → (∃ n', I_38 n' h11 z12))))) ∧ (¬ (h 2 4) ≤ x2 → ((0 : Int) ≤ x2 ∧ (x2 : Int) < 200) ∧ (∀ h14 : Hp, h14 = hup h 28 x2 0 → (InR (x2 + 1) ∧ (∀ z15 : Int, z15 = x2 + 1 → (∃ n', n' < n_2 ∧ I_2 n' h14 x1 z15)))))
def V_X3_markFacesInside (P : Int → Hp → Prop) (p_X3_addInside : Int → Hp → Prop) (q_X3_addInside : Int → Hp → Hp → Prop) (p_X3_addFacesBeside : Int → Hp → Prop) (q_X3_addFacesBeside : Int → Hp → Hp → Prop) (I_2 : Nat → Hp → Int → Int → Prop) (I_38 : Nat → Hp → Int → Prop) (h0 : Hp) (a1 : Int) : Prop :=
  ∀ z17 : Int, z17 = 0 → (∃ n', I_2 n' h0 a1 z17)
set_option maxHeartbeats 4000000 in
set_option maxRecDepth 100000 in
theorem w_X3_markFacesInside {l : Launch} (P : Int → Hp → Prop) (p_X3_addInside : Int → Hp → Prop) (q_X3_addInside : Int → Hp → Hp → Prop) (p_X3_addFacesBeside : Int → Hp → Prop) (q_X3_addFacesBeside : Int → Hp → Hp → Prop) (I_2 : Nat → Hp → Int → Int → Prop) (I_38 : Nat → Hp → Int → Prop) (h0 : Hp) (a1 : Int)
    (c_X3_addInside : ∀ (b1 : Int) (h : Hp), p_X3_addInside b1 h → Ct l yX3_addInside cX3_addInside 2 none 0 0 0 [vr 5, vi b1] h [5, 28, 29] (fun _ h1 => q_X3_addInside b1 h h1) (fun _ => False))
    (c_X3_addFacesBeside : ∀ (b1 : Int) (h : Hp), p_X3_addFacesBeside b1 h → Ct l yX3_addFacesBeside cX3_addFacesBeside 5 none 1 21 0 [vr 5, vi b1] h [5, 28, 29] (fun _ h1 => q_X3_addFacesBeside b1 h h1) (fun _ => False))
    (o_2 : ∀ (n_2 : Nat) (h : Hp) (x1 : Int) (x2 : Int), RH h → Fr [5, 28, 29] h0 h → InR x1 → InR x2 → I_2 n_2 h x1 x2 → V_X3_markFacesInside_2 P p_X3_addInside q_X3_addInside p_X3_addFacesBeside q_X3_addFacesBeside I_2 I_38 n_2 h x1 x2)
    (o_38 : ∀ (n_38 : Nat) (h : Hp) (x2 : Int), RH h → Fr [5, 28, 29] h0 h → InR x2 → I_38 n_38 h x2 → V_X3_markFacesInside_38 P p_X3_addInside q_X3_addInside p_X3_addFacesBeside q_X3_addFacesBeside I_2 I_38 n_38 h x2)
    (o : RH h0 → InR a1 → V_X3_markFacesInside P p_X3_addInside q_X3_addInside p_X3_addFacesBeside q_X3_addFacesBeside I_2 I_38 h0 a1) :
    Ct l yX3_markFacesInside cX3_markFacesInside 3 none 2 45 0 [vr 5, vi a1] h0 [5, 28, 29] P (fun _ => False) := by
  refine Ct.of (own := RX3) (by decide) rfl (Nat.le_of_ble_eq_true rfl) ?_
  intro X C hXl hXM hXh hXP hXX hXc hXr hav hR0
  have hmain : V_X3_markFacesInside P p_X3_addInside q_X3_addInside p_X3_addFacesBeside q_X3_addFacesBeside I_2 I_38 h0 a1 := o hR0 (hav (vi a1) (by simp))
  have B_69 : ∀ (h : Hp), V_X3_markFacesInside_69 P p_X3_addInside q_X3_addInside p_X3_addFacesBeside q_X3_addFacesBeside I_2 I_38 h → Wh X 69 [(0, vr 5)] [] h 0 := by
    intro h v
    unfold V_X3_markFacesInside_69 at v
    exact r_return C dX3_markFacesInside_69 hXr (Nat.zero_le _) (by rw [hXP]; exact v)
  have B_38 : ∀ (n_38 : Nat) (h : Hp) (x2 : Int), I_38 n_38 h x2 → Wh X 38 [(0, vr 5), (2, vi x2)] [] h 0 := by
    intro n_38
    induction n_38 using Nat.strongRecOn with
    | _ n_38 ih_38 =>
      intro h x2 hI
      refine s_use fun hR hF hL => ?_
      have v := o_38 n_38 h x2 hR (by rw [hXM, hXh] at hF; exact hF) (hL (2, vi x2) (by simp)) hI
      unfold V_X3_markFacesInside_38 at v
      refine r_iload_n 1 C dX3_markFacesInside_38 rfl ?_
      refine r_aload_n 0 C dX3_markFacesInside_39 rfl ?_
      refine gf_X3_25 C dX3_markFacesInside_40 ?_
      refine r_icmp_ge (tgt := 69) C dX3_markFacesInside_43 (by decide) (fun c1 => ?_) (fun c1 => ?_)
      · have v := v.1 c1
        exact s_sub [0] rfl (B_69 _ v)
      · have v := v.2 c1
        refine r_iload_n 1 C dX3_markFacesInside_46 rfl ?_
        refine r_sipush C dX3_markFacesInside_47 ⟨by decide, by decide⟩ (by decide) ?_
        refine r_icmp_ge (tgt := 69) C dX3_markFacesInside_50 (by decide) (fun c2 => ?_) (fun c2 => ?_)
        · have v := v.1 c2
          exact s_sub [0] rfl (B_69 _ v)
        · have v := v.2 c2
          refine r_aload_n 0 C dX3_markFacesInside_53 rfl ?_
          refine r_aload_n 0 C dX3_markFacesInside_54 rfl ?_
          refine gf_X3_21 C dX3_markFacesInside_55 ?_
          refine r_iload_n 1 C dX3_markFacesInside_58 rfl ?_
          obtain ⟨o3, v⟩ := v
          refine r_iaload (r := 29) (N := 200) C dX3_markFacesInside_59 rfl o3 ?_
          obtain ⟨o4, v⟩ := v
          refine s_callv [(h 29 x2)] [] C dX3_markFacesInside_60 ck_X3_103 (r := 5) (fY := 1) (nY := 21) rfl rfl (by decide) (by decide) (Nat.le_of_ble_eq_true rfl) rfl (MY := [5, 28, 29]) hXM (by decide) (by rw [hXl]; exact c_X3_addFacesBeside (h 29 x2) h o4) (fun h5 fh5 kh5 qh5 => ?_)
          have v := v h5 fh5 kh5 qh5
          obtain ⟨o7, v⟩ := v
          refine s_iinc 1 C dX3_markFacesInside_63 rfl (by decide) o7 (fun z6 ez6 => ?_)
          have v := v z6 ez6
          show Wh X 66 [(2, vi z6), (0, vr 5)] [] h5 0
          refine r_goto (tgt := 38) C dX3_markFacesInside_66 (by decide) ?_
          obtain ⟨n', hn', hI'⟩ := v
          exact s_sub [1, 0] rfl (ih_38 n' hn' _ _ hI')
  have B_2 : ∀ (n_2 : Nat) (h : Hp) (x1 : Int) (x2 : Int), I_2 n_2 h x1 x2 → Wh X 2 [(0, vr 5), (1, vi x1), (2, vi x2)] [] h 0 := by
    intro n_2
    induction n_2 using Nat.strongRecOn with
    | _ n_2 ih_2 =>
      intro h x1 x2 hI
      refine s_use fun hR hF hL => ?_
      have v := o_2 n_2 h x1 x2 hR (by rw [hXM, hXh] at hF; exact hF) (hL (1, vi x1) (by simp)) (hL (2, vi x2) (by simp)) hI
      unfold V_X3_markFacesInside_2 at v
      refine r_iload_n 2 C dX3_markFacesInside_2 rfl ?_
      refine r_aload_n 0 C dX3_markFacesInside_3 rfl ?_
      refine gf_X3_42 C dX3_markFacesInside_4 ?_
      refine gf_X3_97 C dX3_markFacesInside_7 ?_
      refine r_icmp_ge (tgt := 26) C dX3_markFacesInside_10 (by decide) (fun c8 => ?_) (fun c8 => ?_)
      · have v := v.1 c8
        refine r_aload_n 0 C dX3_markFacesInside_26 rfl ?_
        refine r_iconst C dX3_markFacesInside_27 ⟨by decide, by decide⟩ ?_
        refine pf_X3_25 C dX3_markFacesInside_28 hXM (by decide) (fun h9 eh9 => ?_)
        have v := v h9 eh9
        refine r_aload_n 0 C dX3_markFacesInside_31 rfl ?_
        refine r_iload_n 1 C dX3_markFacesInside_32 rfl ?_
        obtain ⟨o10, v⟩ := v
        refine s_callv [x1] [] C dX3_markFacesInside_33 ck_X3_100 (r := 5) (fY := 0) (nY := 0) rfl rfl (by decide) (by decide) (Nat.le_of_ble_eq_true rfl) rfl (MY := [5, 28, 29]) hXM (by decide) (by rw [hXl]; exact c_X3_addInside x1 h9 o10) (fun h11 fh11 kh11 qh11 => ?_)
        have v := v h11 fh11 kh11 qh11
        refine r_iconst C dX3_markFacesInside_36 ⟨by decide, by decide⟩ ?_
        refine s_istore_n C dX3_markFacesInside_37 (by decide) (fun z12 ez12 => ?_)
        have v := v z12 ez12
        show Wh X 38 [(2, vi z12), (0, vr 5), (1, vi x1)] [] h11 0
        obtain ⟨n', hI'⟩ := v
        exact s_sub [1, 0] rfl (B_38 n' _ _ hI')
      · have v := v.2 c8
        refine r_aload_n 0 C dX3_markFacesInside_13 rfl ?_
        refine gf_X3_18 C dX3_markFacesInside_14 ?_
        refine r_iload_n 2 C dX3_markFacesInside_17 rfl ?_
        refine r_iconst C dX3_markFacesInside_18 ⟨by decide, by decide⟩ ?_
        obtain ⟨o13, v⟩ := v
        refine s_bastore (r := 28) (N := 200) C dX3_markFacesInside_19 rfl hXM (by decide) o13 (by decide) (fun h14 eh14 => ?_)
        have v := v h14 eh14
        obtain ⟨o16, v⟩ := v
        refine s_iinc 2 C dX3_markFacesInside_20 rfl (by decide) o16 (fun z15 ez15 => ?_)
        have v := v z15 ez15
        show Wh X 23 [(2, vi z15), (0, vr 5), (1, vi x1)] [] h14 0
        refine r_goto (tgt := 2) C dX3_markFacesInside_23 (by decide) ?_
        obtain ⟨n', hn', hI'⟩ := v
        exact s_sub [1, 2, 0] rfl (ih_2 n' hn' _ _ _ hI')
  show Wh X 0 [(0, vr 5), (1, vi a1)] [] h0 0
  have v := hmain
  unfold V_X3_markFacesInside at v
  refine r_iconst C dX3_markFacesInside_0 ⟨by decide, by decide⟩ ?_
  refine s_istore_n C dX3_markFacesInside_1 (by decide) (fun z17 ez17 => ?_)
  have v := v z17 ez17
  show Wh X 2 [(2, vi z17), (0, vr 5), (1, vi a1)] [] h0 0
  obtain ⟨n', hI'⟩ := v
  exact s_sub [1, 2, 0] rfl (B_2 n' _ _ _ hI')

def V_X3_addFacesBeside_65 (P : Int → Hp → Prop) (p_X3_addInside : Int → Hp → Prop) (q_X3_addInside : Int → Hp → Hp → Prop) (p_X2_sideBehind : Int → Hp → Prop) (q_X2_sideBehind : Int → Hp → Int → Prop) (I_12 : Nat → Hp → Int → Int → Int → Prop) (n_12 : Nat) (h : Hp) (x1 : Int) (x2 : Int) (x3 : Int) : Prop :=
  p_X2_sideBehind x2 h ∧ (∀ r2 : Int, InR r2 → q_X2_sideBehind x2 h r2 → (∀ z3 : Int, z3 = r2 → (InR (x3 + 1) ∧ (∀ z4 : Int, z4 = x3 + 1 → (∃ n', n' < n_12 ∧ I_12 n' h x1 z3 z4)))))
def V_X3_addFacesBeside_12 (P : Int → Hp → Prop) (p_X3_addInside : Int → Hp → Prop) (q_X3_addInside : Int → Hp → Hp → Prop) (p_X2_sideBehind : Int → Hp → Prop) (q_X2_sideBehind : Int → Hp → Int → Prop) (I_12 : Nat → Hp → Int → Int → Int → Prop) (n_12 : Nat) (h : Hp) (x1 : Int) (x2 : Int) (x3 : Int) : Prop :=
  ((0 : Int) ≤ x1 ∧ (x1 : Int) < 200) ∧ (((h 14 x1) ≤ x3 → P 0 h) ∧ (¬ (h 14 x1) ≤ x3 → ((0 : Int) ≤ (jxor x2 1) ∧ ((jxor x2 1) : Int) < 200) ∧ (∀ z9 : Int, z9 = (h 12 (jxor x2 1)) → (((0 : Int) < 2 ∧ InR (x2.tdiv 2)) ∧ (((0 : Int) ≤ (x2.tdiv 2) ∧ ((x2.tdiv 2) : Int) < 100) ∧ ((¬ (h 27 (x2.tdiv 2)) = 0 → V_X3_addFacesBeside_65 P p_X3_addInside q_X3_addInside p_X2_sideBehind q_X2_sideBehind I_12 n_12 h x1 x2 x3) ∧ ((h 27 (x2.tdiv 2)) = 0 → ((0 : Int) ≤ z9 ∧ (z9 : Int) < 200) ∧ ((¬ (h 28 z9) = 0 → V_X3_addFacesBeside_65 P p_X3_addInside q_X3_addInside p_X2_sideBehind q_X2_sideBehind I_12 n_12 h x1 x2 x3) ∧ ((h 28 z9) = 0 → p_X3_addInside z9 h ∧ (∀ h16 : Hp, Fr [5, 28, 29] h h16 → RH h16 → q_X3_addInside z9 h h16 → (V_X3_addFacesBeside_65 P p_X3_addInside q_X3_addInside p_X2_sideBehind q_X2_sideBehind I_12 n_12 h16 x1 x2 x3)))))))))))
def V_X3_addFacesBeside (P : Int → Hp → Prop) (p_X3_addInside : Int → Hp → Prop) (q_X3_addInside : Int → Hp → Hp → Prop) (p_X2_sideBehind : Int → Hp → Prop) (q_X2_sideBehind : Int → Hp → Int → Prop) (I_12 : Nat → Hp → Int → Int → Int → Prop) (h0 : Hp) (a1 : Int) : Prop :=
  ((0 : Int) ≤ a1 ∧ (a1 : Int) < 200) ∧ (∀ z18 : Int, z18 = (h0 13 a1) → (∀ z19 : Int, z19 = 0 → (∃ n', I_12 n' h0 a1 z18 z19)))
set_option maxHeartbeats 4000000 in
set_option maxRecDepth 100000 in
theorem w_X3_addFacesBeside {l : Launch} (P : Int → Hp → Prop) (p_X3_addInside : Int → Hp → Prop) (q_X3_addInside : Int → Hp → Hp → Prop) (p_X2_sideBehind : Int → Hp → Prop) (q_X2_sideBehind : Int → Hp → Int → Prop) (I_12 : Nat → Hp → Int → Int → Int → Prop) (h0 : Hp) (a1 : Int)
    (c_X3_addInside : ∀ (b1 : Int) (h : Hp), p_X3_addInside b1 h → Ct l yX3_addInside cX3_addInside 2 none 0 0 0 [vr 5, vi b1] h [5, 28, 29] (fun _ h1 => q_X3_addInside b1 h h1) (fun _ => False))
    (c_X2_sideBehind : ∀ (b1 : Int) (h : Hp), p_X2_sideBehind b1 h → Ct l yX2_sideBehind cX2_sideBehind 2 (some .int) 0 0 0 [vr 1, vi b1] h [] (fun r _ => q_X2_sideBehind b1 h r) (fun _ => False))
    (o_12 : ∀ (n_12 : Nat) (h : Hp) (x1 : Int) (x2 : Int) (x3 : Int), RH h → Fr [5, 28, 29] h0 h → InR x1 → InR x2 → InR x3 → I_12 n_12 h x1 x2 x3 → V_X3_addFacesBeside_12 P p_X3_addInside q_X3_addInside p_X2_sideBehind q_X2_sideBehind I_12 n_12 h x1 x2 x3)
    (o : RH h0 → InR a1 → V_X3_addFacesBeside P p_X3_addInside q_X3_addInside p_X2_sideBehind q_X2_sideBehind I_12 h0 a1) :
    Ct l yX3_addFacesBeside cX3_addFacesBeside 5 none 1 21 0 [vr 5, vi a1] h0 [5, 28, 29] P (fun _ => False) := by
  refine Ct.of (own := RX3) (by decide) rfl (Nat.le_of_ble_eq_true rfl) ?_
  intro X C hXl hXM hXh hXP hXX hXc hXr hav hR0
  have hmain : V_X3_addFacesBeside P p_X3_addInside q_X3_addInside p_X2_sideBehind q_X2_sideBehind I_12 h0 a1 := o hR0 (hav (vi a1) (by simp))
  have B_12 : ∀ (n_12 : Nat) (h : Hp) (x1 : Int) (x2 : Int) (x3 : Int), I_12 n_12 h x1 x2 x3 → Wh X 12 [(0, vr 5), (1, vi x1), (2, vi x2), (3, vi x3)] [] h 0 := by
    intro n_12
    induction n_12 using Nat.strongRecOn with
    | _ n_12 ih_12 =>
      intro h x1 x2 x3 hI
      refine s_use fun hR hF hL => ?_
      have v := o_12 n_12 h x1 x2 x3 hR (by rw [hXM, hXh] at hF; exact hF) (hL (1, vi x1) (by simp)) (hL (2, vi x2) (by simp)) (hL (3, vi x3) (by simp)) hI
      unfold V_X3_addFacesBeside_12 at v
      have B_65 : ∀ (h : Hp) (x1 : Int) (x2 : Int) (x3 : Int), V_X3_addFacesBeside_65 P p_X3_addInside q_X3_addInside p_X2_sideBehind q_X2_sideBehind I_12 n_12 h x1 x2 x3 → Wh X 65 [(0, vr 5), (1, vi x1), (2, vi x2), (3, vi x3)] [] h 0 := by
        intro h x1 x2 x3 v
        unfold V_X3_addFacesBeside_65 at v
        refine r_aload_n 0 C dX3_addFacesBeside_65 rfl ?_
        refine gf_X3_38 C dX3_addFacesBeside_66 ?_
        refine r_iload_n 2 C dX3_addFacesBeside_69 rfl ?_
        obtain ⟨o1, v⟩ := v
        refine s_calli0 [x2] [] C dX3_addFacesBeside_70 ck_X3_112 (r := 1) (fY := 0) (nY := 0) rfl rfl (by decide) (by decide) (Nat.le_of_ble_eq_true rfl) rfl (by rw [hXl]; exact c_X2_sideBehind x2 h o1) (fun r2 gr2 qr2 => ?_)
        have v := v r2 gr2 qr2
        refine s_istore_n C dX3_addFacesBeside_73 (by decide) (fun z3 ez3 => ?_)
        have v := v z3 ez3
        show Wh X 74 [(2, vi z3), (0, vr 5), (1, vi x1), (3, vi x3)] [] h 0
        obtain ⟨o5, v⟩ := v
        refine s_iinc 3 C dX3_addFacesBeside_74 rfl (by decide) o5 (fun z4 ez4 => ?_)
        have v := v z4 ez4
        show Wh X 77 [(3, vi z4), (2, vi z3), (0, vr 5), (1, vi x1)] [] h 0
        refine r_goto (tgt := 12) C dX3_addFacesBeside_77 (by decide) ?_
        obtain ⟨n', hn', hI'⟩ := v
        exact s_sub [2, 3, 1, 0] rfl (ih_12 n' hn' _ _ _ _ hI')
      refine r_iload_n 3 C dX3_addFacesBeside_12 rfl ?_
      refine r_aload_n 0 C dX3_addFacesBeside_13 rfl ?_
      refine gf_X3_42 C dX3_addFacesBeside_14 ?_
      refine gf_X3_109 C dX3_addFacesBeside_17 ?_
      refine r_iload_n 1 C dX3_addFacesBeside_20 rfl ?_
      obtain ⟨o6, v⟩ := v
      refine r_iaload (r := 14) (N := 200) C dX3_addFacesBeside_21 rfl o6 ?_
      refine r_icmp_ge (tgt := 80) C dX3_addFacesBeside_22 (by decide) (fun c7 => ?_) (fun c7 => ?_)
      · have v := v.1 c7
        exact r_return C dX3_addFacesBeside_80 hXr (Nat.zero_le _) (by rw [hXP]; exact v)
      · have v := v.2 c7
        refine r_aload_n 0 C dX3_addFacesBeside_25 rfl ?_
        refine gf_X3_42 C dX3_addFacesBeside_26 ?_
        refine gf_X3_54 C dX3_addFacesBeside_29 ?_
        refine r_iload_n 2 C dX3_addFacesBeside_32 rfl ?_
        refine r_iconst C dX3_addFacesBeside_33 ⟨by decide, by decide⟩ ?_
        refine r_ixor C dX3_addFacesBeside_34 ?_
        obtain ⟨o8, v⟩ := v
        refine r_iaload (r := 12) (N := 200) C dX3_addFacesBeside_35 rfl o8 ?_
        refine s_istore C dX3_addFacesBeside_36 (by decide) (fun z9 ez9 => ?_)
        have v := v z9 ez9
        show Wh X 38 [(4, vi z9), (0, vr 5), (1, vi x1), (2, vi x2), (3, vi x3)] [] h 0
        refine r_aload_n 1 C dX3_addFacesBeside_38 rfl ?_
        refine gf_X3_15 C dX3_addFacesBeside_39 ?_
        refine r_iload_n 3 C dX3_addFacesBeside_42 rfl ?_
        refine r_iconst C dX3_addFacesBeside_43 ⟨by decide, by decide⟩ ?_
        obtain ⟨o10, v⟩ := v
        refine r_idiv C dX3_addFacesBeside_44 o10 ?_
        obtain ⟨o11, v⟩ := v
        refine r_baload (r := 27) (N := 100) C dX3_addFacesBeside_45 rfl o11 ?_
        refine r_if_ne (tgt := 65) C dX3_addFacesBeside_46 (by decide) (fun c12 => ?_) (fun c12 => ?_)
        · have v := v.1 c12
          exact s_sub [1, 2, 3, 4] rfl (B_65 _ _ _ _ v)
        · have v := v.2 c12
          refine r_aload_n 1 C dX3_addFacesBeside_49 rfl ?_
          refine gf_X3_18 C dX3_addFacesBeside_50 ?_
          refine r_iload 0 C dX3_addFacesBeside_53 rfl ?_
          obtain ⟨o13, v⟩ := v
          refine r_baload (r := 28) (N := 200) C dX3_addFacesBeside_55 rfl o13 ?_
          refine r_if_ne (tgt := 65) C dX3_addFacesBeside_56 (by decide) (fun c14 => ?_) (fun c14 => ?_)
          · have v := v.1 c14
            exact s_sub [1, 2, 3, 4] rfl (B_65 _ _ _ _ v)
          · have v := v.2 c14
            refine r_aload_n 1 C dX3_addFacesBeside_59 rfl ?_
            refine r_iload 0 C dX3_addFacesBeside_60 rfl ?_
            obtain ⟨o15, v⟩ := v
            refine s_callv [z9] [] C dX3_addFacesBeside_62 ck_X3_100 (r := 5) (fY := 0) (nY := 0) rfl rfl (by decide) (by decide) (Nat.le_of_ble_eq_true rfl) rfl (MY := [5, 28, 29]) hXM (by decide) (by rw [hXl]; exact c_X3_addInside z9 h o15) (fun h16 fh16 kh16 qh16 => ?_)
            have v := v h16 fh16 kh16 qh16
            exact s_sub [1, 2, 3, 4] rfl (B_65 _ _ _ _ v)
  show Wh X 0 [(0, vr 5), (1, vi a1)] [] h0 0
  have v := hmain
  unfold V_X3_addFacesBeside at v
  refine r_aload_n 0 C dX3_addFacesBeside_0 rfl ?_
  refine gf_X3_42 C dX3_addFacesBeside_1 ?_
  refine gf_X3_106 C dX3_addFacesBeside_4 ?_
  refine r_iload_n 1 C dX3_addFacesBeside_7 rfl ?_
  obtain ⟨o17, v⟩ := v
  refine r_iaload (r := 13) (N := 200) C dX3_addFacesBeside_8 rfl o17 ?_
  refine s_istore_n C dX3_addFacesBeside_9 (by decide) (fun z18 ez18 => ?_)
  have v := v z18 ez18
  show Wh X 10 [(2, vi z18), (0, vr 5), (1, vi a1)] [] h0 0
  refine r_iconst C dX3_addFacesBeside_10 ⟨by decide, by decide⟩ ?_
  refine s_istore_n C dX3_addFacesBeside_11 (by decide) (fun z19 ez19 => ?_)
  have v := v z19 ez19
  show Wh X 12 [(3, vi z19), (2, vi z18), (0, vr 5), (1, vi a1)] [] h0 0
  obtain ⟨n', hI'⟩ := v
  exact s_sub [2, 3, 1, 0] rfl (B_12 n' _ _ _ _ hI')

def V_X3_addInside (P : Int → Hp → Prop) (h0 : Hp) (a1 : Int) : Prop :=
  ((0 : Int) ≤ a1 ∧ (a1 : Int) < 200) ∧ (∀ h2 : Hp, h2 = hup h0 28 a1 1 → (((0 : Int) ≤ (h2 5 7) ∧ ((h2 5 7) : Int) < 200) ∧ (∀ h4 : Hp, h4 = hup h2 29 (h2 5 7) a1 → (InR ((h4 5 7) + 1) ∧ (∀ h6 : Hp, h6 = hup h4 5 7 ((h4 5 7) + 1) → (P 0 h6))))))
set_option maxHeartbeats 4000000 in
set_option maxRecDepth 100000 in
theorem w_X3_addInside {l : Launch} (P : Int → Hp → Prop) (h0 : Hp) (a1 : Int)
    (o : RH h0 → InR a1 → V_X3_addInside P h0 a1) :
    Ct l yX3_addInside cX3_addInside 2 none 0 0 0 [vr 5, vi a1] h0 [5, 28, 29] P (fun _ => False) := by
  refine Ct.of (own := RX3) (by decide) rfl (Nat.le_of_ble_eq_true rfl) ?_
  intro X C hXl hXM hXh hXP hXX hXc hXr hav hR0
  have hmain : V_X3_addInside P h0 a1 := o hR0 (hav (vi a1) (by simp))
  show Wh X 0 [(0, vr 5), (1, vi a1)] [] h0 0
  have v := hmain
  unfold V_X3_addInside at v
  refine r_aload_n 0 C dX3_addInside_0 rfl ?_
  refine gf_X3_18 C dX3_addInside_1 ?_
  refine r_iload_n 1 C dX3_addInside_4 rfl ?_
  refine r_iconst C dX3_addInside_5 ⟨by decide, by decide⟩ ?_
  obtain ⟨o1, v⟩ := v
  refine s_bastore (r := 28) (N := 200) C dX3_addInside_6 rfl hXM (by decide) o1 (by decide) (fun h2 eh2 => ?_)
  have v := v h2 eh2
  refine r_aload_n 0 C dX3_addInside_7 rfl ?_
  refine gf_X3_21 C dX3_addInside_8 ?_
  refine r_aload_n 0 C dX3_addInside_11 rfl ?_
  refine gf_X3_25 C dX3_addInside_12 ?_
  refine r_iload_n 1 C dX3_addInside_15 rfl ?_
  obtain ⟨o3, v⟩ := v
  refine s_iastore (r := 29) (N := 200) C dX3_addInside_16 rfl hXM (by decide) o3 (fun h4 eh4 => ?_)
  have v := v h4 eh4
  refine r_aload_n 0 C dX3_addInside_17 rfl ?_
  refine r_dup C dX3_addInside_18 trivial ?_
  refine gf_X3_25 C dX3_addInside_19 ?_
  refine r_iconst C dX3_addInside_22 ⟨by decide, by decide⟩ ?_
  obtain ⟨o5, v⟩ := v
  refine r_iadd C dX3_addInside_23 o5 ?_
  refine pf_X3_25 C dX3_addInside_24 hXM (by decide) (fun h6 eh6 => ?_)
  have v := v h6 eh6
  exact r_return C dX3_addInside_27 hXr (Nat.zero_le _) (by rw [hXP]; exact v)

def V_X3_countVertices_96 (P : Int → Hp → Prop) (I_12 : Nat → Hp → Int → Int → Prop) (n_12 : Nat) (h : Hp) (x1 : Int) (x2 : Int) : Prop :=
  InR (x2 + 1) ∧ (∀ z1 : Int, z1 = x2 + 1 → (∃ n', n' < n_12 ∧ I_12 n' h x1 z1))
def V_X3_countVertices_12 (P : Int → Hp → Prop) (I_12 : Nat → Hp → Int → Int → Prop) (n_12 : Nat) (h : Hp) (x1 : Int) (x2 : Int) : Prop :=
  ((h 1 6) ≤ x2 → P 0 h) ∧ (¬ (h 1 6) ≤ x2 → ((0 : Int) ≤ x2 ∧ (x2 : Int) < 30) ∧ ((¬ (h 18 x2) = x1 → V_X3_countVertices_96 P I_12 n_12 h x1 x2) ∧ ((h 18 x2) = x1 → ((0 : Int) ≤ x2 ∧ (x2 : Int) < 30) ∧ (((h 26 x2) = 0 → ((0 : Int) ≤ x2 ∧ (x2 : Int) < 30) ∧ (((0 : Int) ≤ (h 10 x2) ∧ ((h 10 x2) : Int) < 200) ∧ (((0 : Int) ≤ (h 12 (h 10 x2)) ∧ ((h 12 (h 10 x2)) : Int) < 200) ∧ (((h 28 (h 12 (h 10 x2))) = 0 → InR ((h 5 10) + 1) ∧ (∀ h13 : Hp, h13 = hup h 5 10 ((h 5 10) + 1) → (V_X3_countVertices_96 P I_12 n_12 h13 x1 x2))) ∧ (¬ (h 28 (h 12 (h 10 x2))) = 0 → InR ((h 5 9) + 1) ∧ (∀ h15 : Hp, h15 = hup h 5 9 ((h 5 9) + 1) → (V_X3_countVertices_96 P I_12 n_12 h15 x1 x2))))))) ∧ (¬ (h 26 x2) = 0 → V_X3_countVertices_96 P I_12 n_12 h x1 x2)))))
def V_X3_countVertices (P : Int → Hp → Prop) (I_12 : Nat → Hp → Int → Int → Prop) (h0 : Hp) (a1 : Int) : Prop :=
  ∀ h16 : Hp, h16 = hup h0 5 9 0 → (∀ h17 : Hp, h17 = hup h16 5 10 0 → (∀ z18 : Int, z18 = 0 → (∃ n', I_12 n' h17 a1 z18)))
set_option maxHeartbeats 4000000 in
set_option maxRecDepth 100000 in
theorem w_X3_countVertices {l : Launch} (P : Int → Hp → Prop) (I_12 : Nat → Hp → Int → Int → Prop) (h0 : Hp) (a1 : Int)
    (o_12 : ∀ (n_12 : Nat) (h : Hp) (x1 : Int) (x2 : Int), RH h → Fr [5] h0 h → InR x1 → InR x2 → I_12 n_12 h x1 x2 → V_X3_countVertices_12 P I_12 n_12 h x1 x2)
    (o : RH h0 → InR a1 → V_X3_countVertices P I_12 h0 a1) :
    Ct l yX3_countVertices cX3_countVertices 3 none 0 0 0 [vr 5, vi a1] h0 [5] P (fun _ => False) := by
  refine Ct.of (own := RX3) (by decide) rfl (Nat.le_of_ble_eq_true rfl) ?_
  intro X C hXl hXM hXh hXP hXX hXc hXr hav hR0
  have hmain : V_X3_countVertices P I_12 h0 a1 := o hR0 (hav (vi a1) (by simp))
  have B_12 : ∀ (n_12 : Nat) (h : Hp) (x1 : Int) (x2 : Int), I_12 n_12 h x1 x2 → Wh X 12 [(0, vr 5), (1, vi x1), (2, vi x2)] [] h 0 := by
    intro n_12
    induction n_12 using Nat.strongRecOn with
    | _ n_12 ih_12 =>
      intro h x1 x2 hI
      refine s_use fun hR hF hL => ?_
      have v := o_12 n_12 h x1 x2 hR (by rw [hXM, hXh] at hF; exact hF) (hL (1, vi x1) (by simp)) (hL (2, vi x2) (by simp)) hI
      unfold V_X3_countVertices_12 at v
      have B_96 : ∀ (h : Hp) (x1 : Int) (x2 : Int), V_X3_countVertices_96 P I_12 n_12 h x1 x2 → Wh X 96 [(0, vr 5), (1, vi x1), (2, vi x2)] [] h 0 := by
        intro h x1 x2 v
        unfold V_X3_countVertices_96 at v
        obtain ⟨o2, v⟩ := v
        refine s_iinc 2 C dX3_countVertices_96 rfl (by decide) o2 (fun z1 ez1 => ?_)
        have v := v z1 ez1
        show Wh X 99 [(2, vi z1), (0, vr 5), (1, vi x1)] [] h 0
        refine r_goto (tgt := 12) C dX3_countVertices_99 (by decide) ?_
        obtain ⟨n', hn', hI'⟩ := v
        exact s_sub [1, 2, 0] rfl (ih_12 n' hn' _ _ _ hI')
      refine r_iload_n 2 C dX3_countVertices_12 rfl ?_
      refine r_aload_n 0 C dX3_countVertices_13 rfl ?_
      refine gf_X3_38 C dX3_countVertices_14 ?_
      refine gf_X3_85 C dX3_countVertices_17 ?_
      refine r_icmp_ge (tgt := 102) C dX3_countVertices_20 (by decide) (fun c3 => ?_) (fun c3 => ?_)
      · have v := v.1 c3
        exact r_return C dX3_countVertices_102 hXr (Nat.zero_le _) (by rw [hXP]; exact v)
      · have v := v.2 c3
        refine r_aload_n 0 C dX3_countVertices_23 rfl ?_
        refine gf_X3_46 C dX3_countVertices_24 ?_
        refine gf_X3_62 C dX3_countVertices_27 ?_
        refine r_iload_n 2 C dX3_countVertices_30 rfl ?_
        obtain ⟨o4, v⟩ := v
        refine r_iaload (r := 18) (N := 30) C dX3_countVertices_31 rfl o4 ?_
        refine r_iload_n 1 C dX3_countVertices_32 rfl ?_
        refine r_icmp_ne (tgt := 96) C dX3_countVertices_33 (by decide) (fun c5 => ?_) (fun c5 => ?_)
        · have v := v.1 c5
          exact s_sub [0, 1, 2] rfl (B_96 _ _ _ v)
        · have v := v.2 c5
          refine r_aload_n 0 C dX3_countVertices_36 rfl ?_
          refine gf_X3_9 C dX3_countVertices_37 ?_
          refine r_iload_n 2 C dX3_countVertices_40 rfl ?_
          obtain ⟨o6, v⟩ := v
          refine r_baload (r := 26) (N := 30) C dX3_countVertices_41 rfl o6 ?_
          refine r_if_eq (tgt := 48) C dX3_countVertices_42 (by decide) (fun c7 => ?_) (fun c7 => ?_)
          · have v := v.1 c7
            refine r_aload_n 0 C dX3_countVertices_48 rfl ?_
            refine gf_X3_18 C dX3_countVertices_49 ?_
            refine r_aload_n 0 C dX3_countVertices_52 rfl ?_
            refine gf_X3_42 C dX3_countVertices_53 ?_
            refine gf_X3_54 C dX3_countVertices_56 ?_
            refine r_aload_n 0 C dX3_countVertices_59 rfl ?_
            refine gf_X3_38 C dX3_countVertices_60 ?_
            refine gf_X3_115 C dX3_countVertices_63 ?_
            refine r_iload_n 2 C dX3_countVertices_66 rfl ?_
            obtain ⟨o8, v⟩ := v
            refine r_iaload (r := 10) (N := 30) C dX3_countVertices_67 rfl o8 ?_
            obtain ⟨o9, v⟩ := v
            refine r_iaload (r := 12) (N := 200) C dX3_countVertices_68 rfl o9 ?_
            obtain ⟨o10, v⟩ := v
            refine r_baload (r := 28) (N := 200) C dX3_countVertices_69 rfl o10 ?_
            refine r_if_eq (tgt := 86) C dX3_countVertices_70 (by decide) (fun c11 => ?_) (fun c11 => ?_)
            · have v := v.1 c11
              refine r_aload_n 0 C dX3_countVertices_86 rfl ?_
              refine r_dup C dX3_countVertices_87 trivial ?_
              refine gf_X3_35 C dX3_countVertices_88 ?_
              refine r_iconst C dX3_countVertices_91 ⟨by decide, by decide⟩ ?_
              obtain ⟨o12, v⟩ := v
              refine r_iadd C dX3_countVertices_92 o12 ?_
              refine pf_X3_35 C dX3_countVertices_93 hXM (by decide) (fun h13 eh13 => ?_)
              have v := v h13 eh13
              exact s_sub [0, 1, 2] rfl (B_96 _ _ _ v)
            · have v := v.2 c11
              refine r_aload_n 0 C dX3_countVertices_73 rfl ?_
              refine r_dup C dX3_countVertices_74 trivial ?_
              refine gf_X3_32 C dX3_countVertices_75 ?_
              refine r_iconst C dX3_countVertices_78 ⟨by decide, by decide⟩ ?_
              obtain ⟨o14, v⟩ := v
              refine r_iadd C dX3_countVertices_79 o14 ?_
              refine pf_X3_32 C dX3_countVertices_80 hXM (by decide) (fun h15 eh15 => ?_)
              have v := v h15 eh15
              refine r_goto (tgt := 96) C dX3_countVertices_83 (by decide) ?_
              exact s_sub [0, 1, 2] rfl (B_96 _ _ _ v)
          · have v := v.2 c7
            refine r_goto (tgt := 96) C dX3_countVertices_45 (by decide) ?_
            exact s_sub [0, 1, 2] rfl (B_96 _ _ _ v)
  show Wh X 0 [(0, vr 5), (1, vi a1)] [] h0 0
  have v := hmain
  unfold V_X3_countVertices at v
  refine r_aload_n 0 C dX3_countVertices_0 rfl ?_
  refine r_iconst C dX3_countVertices_1 ⟨by decide, by decide⟩ ?_
  refine pf_X3_32 C dX3_countVertices_2 hXM (by decide) (fun h16 eh16 => ?_)
  have v := v h16 eh16
  refine r_aload_n 0 C dX3_countVertices_5 rfl ?_
  refine r_iconst C dX3_countVertices_6 ⟨by decide, by decide⟩ ?_
  refine pf_X3_35 C dX3_countVertices_7 hXM (by decide) (fun h17 eh17 => ?_)
  have v := v h17 eh17
  refine r_iconst C dX3_countVertices_10 ⟨by decide, by decide⟩ ?_
  refine s_istore_n C dX3_countVertices_11 (by decide) (fun z18 ez18 => ?_)
  have v := v z18 ez18
  show Wh X 12 [(2, vi z18), (0, vr 5), (1, vi a1)] [] h17 0
  obtain ⟨n', hI'⟩ := v
  exact s_sub [1, 2, 0] rfl (B_12 n' _ _ _ hI')


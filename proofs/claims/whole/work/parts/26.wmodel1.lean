def V_X6_thrown (P : Int → Hp → Prop) (h0 : Hp) : Prop :=
  P (h0 30 0) h0
set_option maxHeartbeats 4000000 in
set_option maxRecDepth 100000 in
theorem w_X6_thrown {l : Launch} (P : Int → Hp → Prop) (h0 : Hp)
    (o : RH h0 → V_X6_thrown P h0) :
    Ct l yX6_thrown cX6_thrown 1 (some .int) 0 0 0 [vr 30] h0 [] P (fun _ => False) := by
  refine Ct.of (own := RX6) (by decide) rfl (Nat.le_of_ble_eq_true rfl) ?_
  intro X C hXl hXM hXh hXP hXX hXc hXr hav hR0
  have hmain : V_X6_thrown P h0 := o hR0 
  show Wh X 0 [(0, vr 30)] [] h0 0
  have v := hmain
  unfold V_X6_thrown at v
  refine r_aload_n 0 C dX6_thrown_0 rfl ?_
  refine gf_X6_59 C dX6_thrown_1 ?_
  exact r_ireturn C dX6_thrown_4 hXr (Nat.zero_le _) (by rw [hXP]; exact v)

def V_X6_isVertex_17 (P : Int → Hp → Prop) (h : Hp) (y0 : Int) : Prop :=
  (y0 = 0 ∨ y0 = 1) ∧ P y0 h
def V_X6_isVertex_16 (P : Int → Hp → Prop) (h : Hp) : Prop :=
  V_X6_isVertex_17 P h 0
def V_X6_isVertex (P : Int → Hp → Prop) (h0 : Hp) (a1 : Int) : Prop :=
  (a1 < 0 → V_X6_isVertex_16 P h0) ∧ (¬ a1 < 0 → ((h0 30 1) ≤ a1 → V_X6_isVertex_16 P h0) ∧ (¬ (h0 30 1) ≤ a1 → V_X6_isVertex_17 P h0 1))
set_option maxHeartbeats 4000000 in
set_option maxRecDepth 100000 in
theorem w_X6_isVertex {l : Launch} (P : Int → Hp → Prop) (h0 : Hp) (a1 : Int)
    (o : RH h0 → InR a1 → V_X6_isVertex P h0 a1) :
    Ct l yX6_isVertex cX6_isVertex 2 (some .boolean) 0 0 0 [vr 30, vi a1] h0 [] P (fun _ => False) := by
  refine Ct.of (own := RX6) (by decide) rfl (Nat.le_of_ble_eq_true rfl) ?_
  intro X C hXl hXM hXh hXP hXX hXc hXr hav hR0
  have hmain : V_X6_isVertex P h0 a1 := o hR0 (hav (vi a1) (by simp))
  have B_17 : ∀ (h : Hp) (y0 : Int), V_X6_isVertex_17 P h y0 → Wh X 17 [(0, vr 30)] [vi y0] h 0 := by
    intro h y0 v
    unfold V_X6_isVertex_17 at v
    exact r_zreturn C dX6_isVertex_17 hXr (Nat.zero_le _) v.1 (by rw [hXP]; exact v.2)
  have B_16 : ∀ (h : Hp), V_X6_isVertex_16 P h → Wh X 16 [(0, vr 30)] [] h 0 := by
    intro h v
    unfold V_X6_isVertex_16 at v
    refine r_iconst C dX6_isVertex_16 ⟨by decide, by decide⟩ ?_
    exact s_sub [0] rfl (B_17 _ _ v)
  show Wh X 0 [(0, vr 30), (1, vi a1)] [] h0 0
  have v := hmain
  unfold V_X6_isVertex at v
  refine r_iload_n 1 C dX6_isVertex_0 rfl ?_
  refine r_if_lt (tgt := 16) C dX6_isVertex_1 (by decide) (fun c1 => ?_) (fun c1 => ?_)
  · have v := v.1 c1
    exact s_sub [0] rfl (B_16 _ v)
  · have v := v.2 c1
    refine r_iload_n 1 C dX6_isVertex_4 rfl ?_
    refine r_aload_n 0 C dX6_isVertex_5 rfl ?_
    refine gf_X6_63 C dX6_isVertex_6 ?_
    refine r_icmp_ge (tgt := 16) C dX6_isVertex_9 (by decide) (fun c2 => ?_) (fun c2 => ?_)
    · have v := v.1 c2
      exact s_sub [0] rfl (B_16 _ v)
    · have v := v.2 c2
      refine r_iconst C dX6_isVertex_12 ⟨by decide, by decide⟩ ?_
      refine r_goto (tgt := 17) C dX6_isVertex_13 (by decide) ?_
      exact s_sub [0] rfl (B_17 _ _ v)

def V_X6_isEdge_26 (P : Int → Hp → Prop) (h : Hp) (y0 : Int) : Prop :=
  (y0 = 0 ∨ y0 = 1) ∧ P y0 h
def V_X6_isEdge_25 (P : Int → Hp → Prop) (h : Hp) : Prop :=
  V_X6_isEdge_26 P h 0
def V_X6_isEdge (P : Int → Hp → Prop) (h0 : Hp) (a1 : Int) : Prop :=
  (a1 < 0 → V_X6_isEdge_25 P h0) ∧ (¬ a1 < 0 → ((h0 30 2) ≤ a1 → V_X6_isEdge_25 P h0) ∧ (¬ (h0 30 2) ≤ a1 → ((0 : Int) ≤ a1 ∧ (a1 : Int) < 100) ∧ ((¬ (h0 33 a1) = 0 → V_X6_isEdge_25 P h0) ∧ ((h0 33 a1) = 0 → V_X6_isEdge_26 P h0 1))))
set_option maxHeartbeats 4000000 in
set_option maxRecDepth 100000 in
theorem w_X6_isEdge {l : Launch} (P : Int → Hp → Prop) (h0 : Hp) (a1 : Int)
    (o : RH h0 → InR a1 → V_X6_isEdge P h0 a1) :
    Ct l yX6_isEdge cX6_isEdge 2 (some .boolean) 0 0 0 [vr 30, vi a1] h0 [] P (fun _ => False) := by
  refine Ct.of (own := RX6) (by decide) rfl (Nat.le_of_ble_eq_true rfl) ?_
  intro X C hXl hXM hXh hXP hXX hXc hXr hav hR0
  have hmain : V_X6_isEdge P h0 a1 := o hR0 (hav (vi a1) (by simp))
  have B_26 : ∀ (h : Hp) (y0 : Int), V_X6_isEdge_26 P h y0 → Wh X 26 [(0, vr 30)] [vi y0] h 0 := by
    intro h y0 v
    unfold V_X6_isEdge_26 at v
    exact r_zreturn C dX6_isEdge_26 hXr (Nat.zero_le _) v.1 (by rw [hXP]; exact v.2)
  have B_25 : ∀ (h : Hp), V_X6_isEdge_25 P h → Wh X 25 [(0, vr 30)] [] h 0 := by
    intro h v
    unfold V_X6_isEdge_25 at v
    refine r_iconst C dX6_isEdge_25 ⟨by decide, by decide⟩ ?_
    exact s_sub [0] rfl (B_26 _ _ v)
  show Wh X 0 [(0, vr 30), (1, vi a1)] [] h0 0
  have v := hmain
  unfold V_X6_isEdge at v
  refine r_iload_n 1 C dX6_isEdge_0 rfl ?_
  refine r_if_lt (tgt := 25) C dX6_isEdge_1 (by decide) (fun c1 => ?_) (fun c1 => ?_)
  · have v := v.1 c1
    exact s_sub [0] rfl (B_25 _ v)
  · have v := v.2 c1
    refine r_iload_n 1 C dX6_isEdge_4 rfl ?_
    refine r_aload_n 0 C dX6_isEdge_5 rfl ?_
    refine gf_X6_66 C dX6_isEdge_6 ?_
    refine r_icmp_ge (tgt := 25) C dX6_isEdge_9 (by decide) (fun c2 => ?_) (fun c2 => ?_)
    · have v := v.1 c2
      exact s_sub [0] rfl (B_25 _ v)
    · have v := v.2 c2
      refine r_aload_n 0 C dX6_isEdge_12 rfl ?_
      refine gf_X6_16 C dX6_isEdge_13 ?_
      refine r_iload_n 1 C dX6_isEdge_16 rfl ?_
      obtain ⟨o3, v⟩ := v
      refine r_baload (r := 33) (N := 100) C dX6_isEdge_17 rfl o3 ?_
      refine r_if_ne (tgt := 25) C dX6_isEdge_18 (by decide) (fun c4 => ?_) (fun c4 => ?_)
      · have v := v.1 c4
        exact s_sub [0] rfl (B_25 _ v)
      · have v := v.2 c4
        refine r_iconst C dX6_isEdge_21 ⟨by decide, by decide⟩ ?_
        refine r_goto (tgt := 26) C dX6_isEdge_22 (by decide) ?_
        exact s_sub [0] rfl (B_26 _ _ v)

def V_X6_far_25 (P : Int → Hp → Prop) (h : Hp) (y0 : Int) : Prop :=
  P y0 h
def V_X6_far (P : Int → Hp → Prop) (h0 : Hp) (a1 : Int) (a2 : Int) : Prop :=
  ((0 : Int) ≤ a1 ∧ (a1 : Int) < 100) ∧ ((¬ (h0 31 a1) = a2 → ((0 : Int) ≤ a1 ∧ (a1 : Int) < 100) ∧ (V_X6_far_25 P h0 (h0 31 a1))) ∧ ((h0 31 a1) = a2 → ((0 : Int) ≤ a1 ∧ (a1 : Int) < 100) ∧ (V_X6_far_25 P h0 (h0 32 a1))))
set_option maxHeartbeats 4000000 in
set_option maxRecDepth 100000 in
theorem w_X6_far {l : Launch} (P : Int → Hp → Prop) (h0 : Hp) (a1 : Int) (a2 : Int)
    (o : RH h0 → InR a1 → InR a2 → V_X6_far P h0 a1 a2) :
    Ct l yX6_far cX6_far 3 (some .int) 0 0 0 [vr 30, vi a1, vi a2] h0 [] P (fun _ => False) := by
  refine Ct.of (own := RX6) (by decide) rfl (Nat.le_of_ble_eq_true rfl) ?_
  intro X C hXl hXM hXh hXP hXX hXc hXr hav hR0
  have hmain : V_X6_far P h0 a1 a2 := o hR0 (hav (vi a1) (by simp)) (hav (vi a2) (by simp))
  have B_25 : ∀ (h : Hp) (y0 : Int), V_X6_far_25 P h y0 → Wh X 25 [(0, vr 30)] [vi y0] h 0 := by
    intro h y0 v
    unfold V_X6_far_25 at v
    exact r_ireturn C dX6_far_25 hXr (Nat.zero_le _) (by rw [hXP]; exact v)
  show Wh X 0 [(0, vr 30), (1, vi a1), (2, vi a2)] [] h0 0
  have v := hmain
  unfold V_X6_far at v
  refine r_aload_n 0 C dX6_far_0 rfl ?_
  refine gf_X6_7 C dX6_far_1 ?_
  refine r_iload_n 1 C dX6_far_4 rfl ?_
  obtain ⟨o1, v⟩ := v
  refine r_iaload (r := 31) (N := 100) C dX6_far_5 rfl o1 ?_
  refine r_iload_n 2 C dX6_far_6 rfl ?_
  refine r_icmp_ne (tgt := 19) C dX6_far_7 (by decide) (fun c2 => ?_) (fun c2 => ?_)
  · have v := v.1 c2
    refine r_aload_n 0 C dX6_far_19 rfl ?_
    refine gf_X6_7 C dX6_far_20 ?_
    refine r_iload_n 1 C dX6_far_23 rfl ?_
    obtain ⟨o3, v⟩ := v
    refine r_iaload (r := 31) (N := 100) C dX6_far_24 rfl o3 ?_
    exact s_sub [0] rfl (B_25 _ _ v)
  · have v := v.2 c2
    refine r_aload_n 0 C dX6_far_10 rfl ?_
    refine gf_X6_13 C dX6_far_11 ?_
    refine r_iload_n 1 C dX6_far_14 rfl ?_
    obtain ⟨o4, v⟩ := v
    refine r_iaload (r := 32) (N := 100) C dX6_far_15 rfl o4 ?_
    refine r_goto (tgt := 25) C dX6_far_16 (by decide) ?_
    exact s_sub [0] rfl (B_25 _ _ v)

def V_X6_placeOf_2 (P : Int → Hp → Prop) (I_2 : Nat → Hp → Int → Int → Int → Prop) (n_2 : Nat) (h : Hp) (x1 : Int) (x2 : Int) (x3 : Int) : Prop :=
  ((0 : Int) ≤ x1 ∧ (x1 : Int) < 30) ∧ (((h 35 x1) ≤ x3 → P (-1) h) ∧ (¬ (h 35 x1) ≤ x3 → InR (30 * x1) ∧ (InR ((30 * x1) + x3) ∧ (((0 : Int) ≤ ((30 * x1) + x3) ∧ (((30 * x1) + x3) : Int) < 900) ∧ ((¬ (h 34 ((30 * x1) + x3)) = x2 → InR (x3 + 1) ∧ (∀ z7 : Int, z7 = x3 + 1 → (∃ n', n' < n_2 ∧ I_2 n' h x1 x2 z7))) ∧ ((h 34 ((30 * x1) + x3)) = x2 → P x3 h))))))
def V_X6_placeOf (P : Int → Hp → Prop) (I_2 : Nat → Hp → Int → Int → Int → Prop) (h0 : Hp) (a1 : Int) (a2 : Int) : Prop :=
  ∀ z9 : Int, z9 = 0 → (∃ n', I_2 n' h0 a1 a2 z9)
set_option maxHeartbeats 4000000 in
set_option maxRecDepth 100000 in
theorem w_X6_placeOf {l : Launch} (P : Int → Hp → Prop) (I_2 : Nat → Hp → Int → Int → Int → Prop) (h0 : Hp) (a1 : Int) (a2 : Int)
    (o_2 : ∀ (n_2 : Nat) (h : Hp) (x1 : Int) (x2 : Int) (x3 : Int), RH h → Fr [] h0 h → InR x1 → InR x2 → InR x3 → I_2 n_2 h x1 x2 x3 → V_X6_placeOf_2 P I_2 n_2 h x1 x2 x3)
    (o : RH h0 → InR a1 → InR a2 → V_X6_placeOf P I_2 h0 a1 a2) :
    Ct l yX6_placeOf cX6_placeOf 4 (some .int) 0 0 0 [vr 30, vi a1, vi a2] h0 [] P (fun _ => False) := by
  refine Ct.of (own := RX6) (by decide) rfl (Nat.le_of_ble_eq_true rfl) ?_
  intro X C hXl hXM hXh hXP hXX hXc hXr hav hR0
  have hmain : V_X6_placeOf P I_2 h0 a1 a2 := o hR0 (hav (vi a1) (by simp)) (hav (vi a2) (by simp))
  have B_2 : ∀ (n_2 : Nat) (h : Hp) (x1 : Int) (x2 : Int) (x3 : Int), I_2 n_2 h x1 x2 x3 → Wh X 2 [(0, vr 30), (1, vi x1), (2, vi x2), (3, vi x3)] [] h 0 := by
    intro n_2
    induction n_2 using Nat.strongRecOn with
    | _ n_2 ih_2 =>
      intro h x1 x2 x3 hI
      refine s_use fun hR hF hL => ?_
      have v := o_2 n_2 h x1 x2 x3 hR (by rw [hXM, hXh] at hF; exact hF) (hL (1, vi x1) (by simp)) (hL (2, vi x2) (by simp)) (hL (3, vi x3) (by simp)) hI
      unfold V_X6_placeOf_2 at v
      refine r_iload_n 3 C dX6_placeOf_2 rfl ?_
      refine r_aload_n 0 C dX6_placeOf_3 rfl ?_
      refine gf_X6_23 C dX6_placeOf_4 ?_
      refine r_iload_n 1 C dX6_placeOf_7 rfl ?_
      obtain ⟨o1, v⟩ := v
      refine r_iaload (r := 35) (N := 30) C dX6_placeOf_8 rfl o1 ?_
      refine r_icmp_ge (tgt := 35) C dX6_placeOf_9 (by decide) (fun c2 => ?_) (fun c2 => ?_)
      · have v := v.1 c2
        refine r_iconst C dX6_placeOf_35 ⟨by decide, by decide⟩ ?_
        exact r_ireturn C dX6_placeOf_36 hXr (Nat.zero_le _) (by rw [hXP]; exact v)
      · have v := v.2 c2
        refine r_aload_n 0 C dX6_placeOf_12 rfl ?_
        refine gf_X6_20 C dX6_placeOf_13 ?_
        refine r_bipush C dX6_placeOf_16 ⟨by decide, by decide⟩ (by decide) ?_
        refine r_iload_n 1 C dX6_placeOf_18 rfl ?_
        obtain ⟨o3, v⟩ := v
        refine r_imul C dX6_placeOf_19 o3 ?_
        refine r_iload_n 3 C dX6_placeOf_20 rfl ?_
        obtain ⟨o4, v⟩ := v
        refine r_iadd C dX6_placeOf_21 o4 ?_
        obtain ⟨o5, v⟩ := v
        refine r_iaload (r := 34) (N := 900) C dX6_placeOf_22 rfl o5 ?_
        refine r_iload_n 2 C dX6_placeOf_23 rfl ?_
        refine r_icmp_ne (tgt := 29) C dX6_placeOf_24 (by decide) (fun c6 => ?_) (fun c6 => ?_)
        · have v := v.1 c6
          obtain ⟨o8, v⟩ := v
          refine s_iinc 3 C dX6_placeOf_29 rfl (by decide) o8 (fun z7 ez7 => ?_)
          have v := v z7 ez7
          show Wh X 32 [(3, vi z7), (0, vr 30), (1, vi x1), (2, vi x2)] [] h 0
          refine r_goto (tgt := 2) C dX6_placeOf_32 (by decide) ?_
          obtain ⟨n', hn', hI'⟩ := v
          exact s_sub [1, 2, 3, 0] rfl (ih_2 n' hn' _ _ _ _ hI')
        · have v := v.2 c6
          refine r_iload_n 3 C dX6_placeOf_27 rfl ?_
          exact r_ireturn C dX6_placeOf_28 hXr (Nat.zero_le _) (by rw [hXP]; exact v)
  show Wh X 0 [(0, vr 30), (1, vi a1), (2, vi a2)] [] h0 0
  have v := hmain
  unfold V_X6_placeOf at v
  refine r_iconst C dX6_placeOf_0 ⟨by decide, by decide⟩ ?_
  refine s_istore_n C dX6_placeOf_1 (by decide) (fun z9 ez9 => ?_)
  have v := v z9 ez9
  show Wh X 2 [(3, vi z9), (0, vr 30), (1, vi a1), (2, vi a2)] [] h0 0
  obtain ⟨n', hI'⟩ := v
  exact s_sub [1, 2, 3, 0] rfl (B_2 n' _ _ _ _ hI')

def V_X6_between_2 (P : Int → Hp → Prop) (p_X6_far : Int → Int → Hp → Prop) (q_X6_far : Int → Int → Hp → Int → Prop) (I_2 : Nat → Hp → Int → Int → Int → Prop) (n_2 : Nat) (h : Hp) (x1 : Int) (x2 : Int) (x3 : Int) : Prop :=
  ((0 : Int) ≤ x1 ∧ (x1 : Int) < 30) ∧ (((h 35 x1) ≤ x3 → P (-1) h) ∧ (¬ (h 35 x1) ≤ x3 → InR (30 * x1) ∧ (InR ((30 * x1) + x3) ∧ (((0 : Int) ≤ ((30 * x1) + x3) ∧ (((30 * x1) + x3) : Int) < 900) ∧ (p_X6_far (h 34 ((30 * x1) + x3)) x1 h ∧ (∀ r7 : Int, InR r7 → q_X6_far (h 34 ((30 * x1) + x3)) x1 h r7 → ((¬ r7 = x2 → InR (x3 + 1) ∧ (∀ z9 : Int, z9 = x3 + 1 → (∃ n', n' < n_2 ∧ I_2 n' h x1 x2 z9))) ∧ (r7 = x2 → InR (30 * x1) ∧ (InR ((30 * x1) + x3) ∧ (((0 : Int) ≤ ((30 * x1) + x3) ∧ (((30 * x1) + x3) : Int) < 900) ∧ (P (h 34 ((30 * x1) + x3)) h)))))))))))
def V_X6_between (P : Int → Hp → Prop) (p_X6_far : Int → Int → Hp → Prop) (q_X6_far : Int → Int → Hp → Int → Prop) (I_2 : Nat → Hp → Int → Int → Int → Prop) (h0 : Hp) (a1 : Int) (a2 : Int) : Prop :=
  ∀ z14 : Int, z14 = 0 → (∃ n', I_2 n' h0 a1 a2 z14)
set_option maxHeartbeats 4000000 in
set_option maxRecDepth 100000 in
theorem w_X6_between {l : Launch} (P : Int → Hp → Prop) (p_X6_far : Int → Int → Hp → Prop) (q_X6_far : Int → Int → Hp → Int → Prop) (I_2 : Nat → Hp → Int → Int → Int → Prop) (h0 : Hp) (a1 : Int) (a2 : Int)
    (c_X6_far : ∀ (b1 : Int) (b2 : Int) (h : Hp), p_X6_far b1 b2 h → Ct l yX6_far cX6_far 3 (some .int) 0 0 0 [vr 30, vi b1, vi b2] h [] (fun r _ => q_X6_far b1 b2 h r) (fun _ => False))
    (o_2 : ∀ (n_2 : Nat) (h : Hp) (x1 : Int) (x2 : Int) (x3 : Int), RH h → Fr [] h0 h → InR x1 → InR x2 → InR x3 → I_2 n_2 h x1 x2 x3 → V_X6_between_2 P p_X6_far q_X6_far I_2 n_2 h x1 x2 x3)
    (o : RH h0 → InR a1 → InR a2 → V_X6_between P p_X6_far q_X6_far I_2 h0 a1 a2) :
    Ct l yX6_between cX6_between 4 (some .int) 1 22 0 [vr 30, vi a1, vi a2] h0 [] P (fun _ => False) := by
  refine Ct.of (own := RX6) (by decide) rfl (Nat.le_of_ble_eq_true rfl) ?_
  intro X C hXl hXM hXh hXP hXX hXc hXr hav hR0
  have hmain : V_X6_between P p_X6_far q_X6_far I_2 h0 a1 a2 := o hR0 (hav (vi a1) (by simp)) (hav (vi a2) (by simp))
  have B_2 : ∀ (n_2 : Nat) (h : Hp) (x1 : Int) (x2 : Int) (x3 : Int), I_2 n_2 h x1 x2 x3 → Wh X 2 [(0, vr 30), (1, vi x1), (2, vi x2), (3, vi x3)] [] h 0 := by
    intro n_2
    induction n_2 using Nat.strongRecOn with
    | _ n_2 ih_2 =>
      intro h x1 x2 x3 hI
      refine s_use fun hR hF hL => ?_
      have v := o_2 n_2 h x1 x2 x3 hR (by rw [hXM, hXh] at hF; exact hF) (hL (1, vi x1) (by simp)) (hL (2, vi x2) (by simp)) (hL (3, vi x3) (by simp)) hI
      unfold V_X6_between_2 at v
      refine r_iload_n 3 C dX6_between_2 rfl ?_
      refine r_aload_n 0 C dX6_between_3 rfl ?_
      refine gf_X6_23 C dX6_between_4 ?_
      refine r_iload_n 1 C dX6_between_7 rfl ?_
      obtain ⟨o1, v⟩ := v
      refine r_iaload (r := 35) (N := 30) C dX6_between_8 rfl o1 ?_
      refine r_icmp_ge (tgt := 50) C dX6_between_9 (by decide) (fun c2 => ?_) (fun c2 => ?_)
      · have v := v.1 c2
        refine r_iconst C dX6_between_50 ⟨by decide, by decide⟩ ?_
        exact r_ireturn C dX6_between_51 hXr (Nat.zero_le _) (by rw [hXP]; exact v)
      · have v := v.2 c2
        refine r_aload_n 0 C dX6_between_12 rfl ?_
        refine r_aload_n 0 C dX6_between_13 rfl ?_
        refine gf_X6_20 C dX6_between_14 ?_
        refine r_bipush C dX6_between_17 ⟨by decide, by decide⟩ (by decide) ?_
        refine r_iload_n 1 C dX6_between_19 rfl ?_
        obtain ⟨o3, v⟩ := v
        refine r_imul C dX6_between_20 o3 ?_
        refine r_iload_n 3 C dX6_between_21 rfl ?_
        obtain ⟨o4, v⟩ := v
        refine r_iadd C dX6_between_22 o4 ?_
        obtain ⟨o5, v⟩ := v
        refine r_iaload (r := 34) (N := 900) C dX6_between_23 rfl o5 ?_
        refine r_iload_n 1 C dX6_between_24 rfl ?_
        obtain ⟨o6, v⟩ := v
        refine s_calli0 [(h 34 ((30 * x1) + x3)), x1] [] C dX6_between_25 ck_X6_69 (r := 30) (fY := 0) (nY := 0) rfl rfl (by decide) (by decide) (Nat.le_of_ble_eq_true rfl) rfl (by rw [hXl]; exact c_X6_far (h 34 ((30 * x1) + x3)) x1 h o6) (fun r7 gr7 qr7 => ?_)
        have v := v r7 gr7 qr7
        refine r_iload_n 2 C dX6_between_28 rfl ?_
        refine r_icmp_ne (tgt := 44) C dX6_between_29 (by decide) (fun c8 => ?_) (fun c8 => ?_)
        · have v := v.1 c8
          obtain ⟨o10, v⟩ := v
          refine s_iinc 3 C dX6_between_44 rfl (by decide) o10 (fun z9 ez9 => ?_)
          have v := v z9 ez9
          show Wh X 47 [(3, vi z9), (0, vr 30), (1, vi x1), (2, vi x2)] [] h 0
          refine r_goto (tgt := 2) C dX6_between_47 (by decide) ?_
          obtain ⟨n', hn', hI'⟩ := v
          exact s_sub [1, 2, 3, 0] rfl (ih_2 n' hn' _ _ _ _ hI')
        · have v := v.2 c8
          refine r_aload_n 0 C dX6_between_32 rfl ?_
          refine gf_X6_20 C dX6_between_33 ?_
          refine r_bipush C dX6_between_36 ⟨by decide, by decide⟩ (by decide) ?_
          refine r_iload_n 1 C dX6_between_38 rfl ?_
          obtain ⟨o11, v⟩ := v
          refine r_imul C dX6_between_39 o11 ?_
          refine r_iload_n 3 C dX6_between_40 rfl ?_
          obtain ⟨o12, v⟩ := v
          refine r_iadd C dX6_between_41 o12 ?_
          obtain ⟨o13, v⟩ := v
          refine r_iaload (r := 34) (N := 900) C dX6_between_42 rfl o13 ?_
          exact r_ireturn C dX6_between_43 hXr (Nat.zero_le _) (by rw [hXP]; exact v)
  show Wh X 0 [(0, vr 30), (1, vi a1), (2, vi a2)] [] h0 0
  have v := hmain
  unfold V_X6_between at v
  refine r_iconst C dX6_between_0 ⟨by decide, by decide⟩ ?_
  refine s_istore_n C dX6_between_1 (by decide) (fun z14 ez14 => ?_)
  have v := v z14 ez14
  show Wh X 2 [(3, vi z14), (0, vr 30), (1, vi a1), (2, vi a2)] [] h0 0
  obtain ⟨n', hI'⟩ := v
  exact s_sub [1, 2, 3, 0] rfl (B_2 n' _ _ _ _ hI')

def V_X6_forget_7 (P : Int → Hp → Prop) (I_7 : Nat → Hp → Int → Prop) (n_7 : Nat) (h : Hp) (x1 : Int) : Prop :=
  (30 ≤ x1 → P 0 h) ∧ (¬ 30 ≤ x1 → ((0 : Int) ≤ x1 ∧ (x1 : Int) < 30) ∧ (∀ h3 : Hp, h3 = hup h 36 x1 0 → (InR (x1 + 1) ∧ (∀ z4 : Int, z4 = x1 + 1 → (∃ n', n' < n_7 ∧ I_7 n' h3 z4)))))
def V_X6_forget (P : Int → Hp → Prop) (I_7 : Nat → Hp → Int → Prop) (h0 : Hp) : Prop :=
  ∀ h6 : Hp, h6 = hup h0 30 10 0 → (∀ z7 : Int, z7 = 0 → (∃ n', I_7 n' h6 z7))
set_option maxHeartbeats 4000000 in
set_option maxRecDepth 100000 in
theorem w_X6_forget {l : Launch} (P : Int → Hp → Prop) (I_7 : Nat → Hp → Int → Prop) (h0 : Hp)
    (o_7 : ∀ (n_7 : Nat) (h : Hp) (x1 : Int), RH h → Fr [30, 36] h0 h → InR x1 → I_7 n_7 h x1 → V_X6_forget_7 P I_7 n_7 h x1)
    (o : RH h0 → V_X6_forget P I_7 h0) :
    Ct l yX6_forget cX6_forget 2 none 0 0 0 [vr 30] h0 [30, 36] P (fun _ => False) := by
  refine Ct.of (own := RX6) (by decide) rfl (Nat.le_of_ble_eq_true rfl) ?_
  intro X C hXl hXM hXh hXP hXX hXc hXr hav hR0
  have hmain : V_X6_forget P I_7 h0 := o hR0 
  have B_7 : ∀ (n_7 : Nat) (h : Hp) (x1 : Int), I_7 n_7 h x1 → Wh X 7 [(0, vr 30), (1, vi x1)] [] h 0 := by
    intro n_7
    induction n_7 using Nat.strongRecOn with
    | _ n_7 ih_7 =>
      intro h x1 hI
      refine s_use fun hR hF hL => ?_
      have v := o_7 n_7 h x1 hR (by rw [hXM, hXh] at hF; exact hF) (hL (1, vi x1) (by simp)) hI
      unfold V_X6_forget_7 at v
      refine r_iload_n 1 C dX6_forget_7 rfl ?_
      refine r_bipush C dX6_forget_8 ⟨by decide, by decide⟩ (by decide) ?_
      refine r_icmp_ge (tgt := 26) C dX6_forget_10 (by decide) (fun c1 => ?_) (fun c1 => ?_)
      · have v := v.1 c1
        exact r_return C dX6_forget_26 hXr (Nat.zero_le _) (by rw [hXP]; exact v)
      · have v := v.2 c1
        refine r_aload_n 0 C dX6_forget_13 rfl ?_
        refine gf_X6_26 C dX6_forget_14 ?_
        refine r_iload_n 1 C dX6_forget_17 rfl ?_
        refine r_iconst C dX6_forget_18 ⟨by decide, by decide⟩ ?_
        obtain ⟨o2, v⟩ := v
        refine s_iastore (r := 36) (N := 30) C dX6_forget_19 rfl hXM (by decide) o2 (fun h3 eh3 => ?_)
        have v := v h3 eh3
        obtain ⟨o5, v⟩ := v
        refine s_iinc 1 C dX6_forget_20 rfl (by decide) o5 (fun z4 ez4 => ?_)
        have v := v z4 ez4
        show Wh X 23 [(1, vi z4), (0, vr 30)] [] h3 0
        refine r_goto (tgt := 7) C dX6_forget_23 (by decide) ?_
        obtain ⟨n', hn', hI'⟩ := v
        exact s_sub [1, 0] rfl (ih_7 n' hn' _ _ hI')
  show Wh X 0 [(0, vr 30)] [] h0 0
  have v := hmain
  unfold V_X6_forget at v
  refine r_aload_n 0 C dX6_forget_0 rfl ?_
  refine r_iconst C dX6_forget_1 ⟨by decide, by decide⟩ ?_
  refine pf_X6_73 C dX6_forget_2 hXM (by decide) (fun h6 eh6 => ?_)
  have v := v h6 eh6
  refine r_iconst C dX6_forget_5 ⟨by decide, by decide⟩ ?_
  refine s_istore_n C dX6_forget_6 (by decide) (fun z7 ez7 => ?_)
  have v := v z7 ez7
  show Wh X 7 [(1, vi z7), (0, vr 30)] [] h6 0
  obtain ⟨n', hI'⟩ := v
  exact s_sub [1, 0] rfl (B_7 n' _ _ hI')

def V_X6_vertex_15 (P : Int → Hp → Prop) (h : Hp) (y1 : Int) : Prop :=
  ∀ h1 : Hp, h1 = hup h 30 0 y1 → (((h1 30 0) ≤ 0 → ((0 : Int) ≤ (h1 30 1) ∧ ((h1 30 1) : Int) < 30) ∧ (∀ h4 : Hp, h4 = hup h1 35 (h1 30 1) 0 → (((0 : Int) ≤ (h4 30 1) ∧ ((h4 30 1) : Int) < 30) ∧ (∀ h6 : Hp, h6 = hup h4 36 (h4 30 1) 0 → (InR ((h6 30 1) + 1) ∧ (∀ h8 : Hp, h8 = hup h6 30 1 ((h6 30 1) + 1) → (InR ((h8 30 1) - 1) ∧ (P ((h8 30 1) - 1) h8)))))))) ∧ (¬ (h1 30 0) ≤ 0 → P 0 h1))
def V_X6_vertex (P : Int → Hp → Prop) (h0 : Hp) : Prop :=
  (¬ (h0 30 1) = 30 → V_X6_vertex_15 P h0 0) ∧ ((h0 30 1) = 30 → V_X6_vertex_15 P h0 1)
set_option maxHeartbeats 4000000 in
set_option maxRecDepth 100000 in
theorem w_X6_vertex {l : Launch} (P : Int → Hp → Prop) (h0 : Hp)
    (o : RH h0 → V_X6_vertex P h0) :
    Ct l yX6_vertex cX6_vertex 1 (some .int) 0 0 0 [vr 30] h0 [30, 35, 36] P (fun _ => False) := by
  refine Ct.of (own := RX6) (by decide) rfl (Nat.le_of_ble_eq_true rfl) ?_
  intro X C hXl hXM hXh hXP hXX hXc hXr hav hR0
  have hmain : V_X6_vertex P h0 := o hR0 
  have B_15 : ∀ (h : Hp) (y1 : Int), V_X6_vertex_15 P h y1 → Wh X 15 [(0, vr 30)] [vi y1, vr 30] h 0 := by
    intro h y1 v
    unfold V_X6_vertex_15 at v
    refine pf_X6_59 C dX6_vertex_15 hXM (by decide) (fun h1 eh1 => ?_)
    have v := v h1 eh1
    refine r_aload_n 0 C dX6_vertex_18 rfl ?_
    refine gf_X6_59 C dX6_vertex_19 ?_
    refine r_if_le (tgt := 27) C dX6_vertex_22 (by decide) (fun c2 => ?_) (fun c2 => ?_)
    · have v := v.1 c2
      refine r_aload_n 0 C dX6_vertex_27 rfl ?_
      refine gf_X6_23 C dX6_vertex_28 ?_
      refine r_aload_n 0 C dX6_vertex_31 rfl ?_
      refine gf_X6_63 C dX6_vertex_32 ?_
      refine r_iconst C dX6_vertex_35 ⟨by decide, by decide⟩ ?_
      obtain ⟨o3, v⟩ := v
      refine s_iastore (r := 35) (N := 30) C dX6_vertex_36 rfl hXM (by decide) o3 (fun h4 eh4 => ?_)
      have v := v h4 eh4
      refine r_aload_n 0 C dX6_vertex_37 rfl ?_
      refine gf_X6_26 C dX6_vertex_38 ?_
      refine r_aload_n 0 C dX6_vertex_41 rfl ?_
      refine gf_X6_63 C dX6_vertex_42 ?_
      refine r_iconst C dX6_vertex_45 ⟨by decide, by decide⟩ ?_
      obtain ⟨o5, v⟩ := v
      refine s_iastore (r := 36) (N := 30) C dX6_vertex_46 rfl hXM (by decide) o5 (fun h6 eh6 => ?_)
      have v := v h6 eh6
      refine r_aload_n 0 C dX6_vertex_47 rfl ?_
      refine r_dup C dX6_vertex_48 trivial ?_
      refine gf_X6_63 C dX6_vertex_49 ?_
      refine r_iconst C dX6_vertex_52 ⟨by decide, by decide⟩ ?_
      obtain ⟨o7, v⟩ := v
      refine r_iadd C dX6_vertex_53 o7 ?_
      refine pf_X6_63 C dX6_vertex_54 hXM (by decide) (fun h8 eh8 => ?_)
      have v := v h8 eh8
      refine r_aload_n 0 C dX6_vertex_57 rfl ?_
      refine gf_X6_63 C dX6_vertex_58 ?_
      refine r_iconst C dX6_vertex_61 ⟨by decide, by decide⟩ ?_
      obtain ⟨o9, v⟩ := v
      refine r_isub C dX6_vertex_62 o9 ?_
      exact r_ireturn C dX6_vertex_63 hXr (Nat.zero_le _) (by rw [hXP]; exact v)
    · have v := v.2 c2
      refine r_iconst C dX6_vertex_25 ⟨by decide, by decide⟩ ?_
      exact r_ireturn C dX6_vertex_26 hXr (Nat.zero_le _) (by rw [hXP]; exact v)
  show Wh X 0 [(0, vr 30)] [] h0 0
  have v := hmain
  unfold V_X6_vertex at v
  refine r_aload_n 0 C dX6_vertex_0 rfl ?_
  refine r_aload_n 0 C dX6_vertex_1 rfl ?_
  refine gf_X6_63 C dX6_vertex_2 ?_
  refine r_bipush C dX6_vertex_5 ⟨by decide, by decide⟩ (by decide) ?_
  refine r_icmp_ne (tgt := 14) C dX6_vertex_7 (by decide) (fun c10 => ?_) (fun c10 => ?_)
  · have v := v.1 c10
    refine r_iconst C dX6_vertex_14 ⟨by decide, by decide⟩ ?_
    exact s_sub [0] rfl (B_15 _ _ v)
  · have v := v.2 c10
    refine r_iconst C dX6_vertex_10 ⟨by decide, by decide⟩ ?_
    refine r_goto (tgt := 15) C dX6_vertex_11 (by decide) ?_
    exact s_sub [0] rfl (B_15 _ _ v)

def V_X6_isRound_19 (P : Int → Hp → Prop) (p_X6_placeOf : Int → Int → Hp → Prop) (q_X6_placeOf : Int → Int → Hp → Int → Prop) (h : Hp) (y0 : Int) : Prop :=
  (y0 = 0 ∨ y0 = 1) ∧ P y0 h
def V_X6_isRound_14 (P : Int → Hp → Prop) (p_X6_placeOf : Int → Int → Hp → Prop) (q_X6_placeOf : Int → Int → Hp → Int → Prop) (h : Hp) : Prop :=
  V_X6_isRound_19 P p_X6_placeOf q_X6_placeOf h 1
def V_X6_isRound (P : Int → Hp → Prop) (p_X6_placeOf : Int → Int → Hp → Prop) (q_X6_placeOf : Int → Int → Hp → Int → Prop) (h0 : Hp) (a1 : Int) (a2 : Int) : Prop :=
  (a2 = (-1) → V_X6_isRound_14 P p_X6_placeOf q_X6_placeOf h0) ∧ (¬ a2 = (-1) → p_X6_placeOf a1 a2 h0 ∧ (∀ r3 : Int, InR r3 → q_X6_placeOf a1 a2 h0 r3 → ((r3 < 0 → V_X6_isRound_19 P p_X6_placeOf q_X6_placeOf h0 0) ∧ (¬ r3 < 0 → V_X6_isRound_14 P p_X6_placeOf q_X6_placeOf h0))))
set_option maxHeartbeats 4000000 in
set_option maxRecDepth 100000 in
theorem w_X6_isRound {l : Launch} (P : Int → Hp → Prop) (p_X6_placeOf : Int → Int → Hp → Prop) (q_X6_placeOf : Int → Int → Hp → Int → Prop) (h0 : Hp) (a1 : Int) (a2 : Int)
    (c_X6_placeOf : ∀ (b1 : Int) (b2 : Int) (h : Hp), p_X6_placeOf b1 b2 h → Ct l yX6_placeOf cX6_placeOf 4 (some .int) 0 0 0 [vr 30, vi b1, vi b2] h [] (fun r _ => q_X6_placeOf b1 b2 h r) (fun _ => False))
    (o : RH h0 → InR a1 → InR a2 → V_X6_isRound P p_X6_placeOf q_X6_placeOf h0 a1 a2) :
    Ct l yX6_isRound cX6_isRound 3 (some .boolean) 1 23 0 [vr 30, vi a1, vi a2] h0 [] P (fun _ => False) := by
  refine Ct.of (own := RX6) (by decide) rfl (Nat.le_of_ble_eq_true rfl) ?_
  intro X C hXl hXM hXh hXP hXX hXc hXr hav hR0
  have hmain : V_X6_isRound P p_X6_placeOf q_X6_placeOf h0 a1 a2 := o hR0 (hav (vi a1) (by simp)) (hav (vi a2) (by simp))
  have B_19 : ∀ (h : Hp) (y0 : Int), V_X6_isRound_19 P p_X6_placeOf q_X6_placeOf h y0 → Wh X 19 [(0, vr 30)] [vi y0] h 0 := by
    intro h y0 v
    unfold V_X6_isRound_19 at v
    exact r_zreturn C dX6_isRound_19 hXr (Nat.zero_le _) v.1 (by rw [hXP]; exact v.2)
  have B_14 : ∀ (h : Hp), V_X6_isRound_14 P p_X6_placeOf q_X6_placeOf h → Wh X 14 [(0, vr 30)] [] h 0 := by
    intro h v
    unfold V_X6_isRound_14 at v
    refine r_iconst C dX6_isRound_14 ⟨by decide, by decide⟩ ?_
    refine r_goto (tgt := 19) C dX6_isRound_15 (by decide) ?_
    exact s_sub [0] rfl (B_19 _ _ v)
  show Wh X 0 [(0, vr 30), (1, vi a1), (2, vi a2)] [] h0 0
  have v := hmain
  unfold V_X6_isRound at v
  refine r_iload_n 2 C dX6_isRound_0 rfl ?_
  refine r_iconst C dX6_isRound_1 ⟨by decide, by decide⟩ ?_
  refine r_icmp_eq (tgt := 14) C dX6_isRound_2 (by decide) (fun c1 => ?_) (fun c1 => ?_)
  · have v := v.1 c1
    exact s_sub [0] rfl (B_14 _ v)
  · have v := v.2 c1
    refine r_aload_n 0 C dX6_isRound_5 rfl ?_
    refine r_iload_n 1 C dX6_isRound_6 rfl ?_
    refine r_iload_n 2 C dX6_isRound_7 rfl ?_
    obtain ⟨o2, v⟩ := v
    refine s_calli0 [a1, a2] [] C dX6_isRound_8 ck_X6_76 (r := 30) (fY := 0) (nY := 0) rfl rfl (by decide) (by decide) (Nat.le_of_ble_eq_true rfl) rfl (by rw [hXl]; exact c_X6_placeOf a1 a2 h0 o2) (fun r3 gr3 qr3 => ?_)
    have v := v r3 gr3 qr3
    refine r_if_lt (tgt := 18) C dX6_isRound_11 (by decide) (fun c4 => ?_) (fun c4 => ?_)
    · have v := v.1 c4
      refine r_iconst C dX6_isRound_18 ⟨by decide, by decide⟩ ?_
      exact s_sub [0] rfl (B_19 _ _ v)
    · have v := v.2 c4
      exact s_sub [0] rfl (B_14 _ v)

def V_X6_insert_32 (P : Int → Hp → Prop) (p_X6_placeOf : Int → Int → Hp → Prop) (q_X6_placeOf : Int → Int → Hp → Int → Prop) (I_32 : Nat → Hp → Int → Int → Int → Int → Prop) (n_32 : Nat) (h : Hp) (x1 : Int) (x2 : Int) (x4 : Int) (x5 : Int) : Prop :=
  (x5 ≤ x4 → InR (30 * x1) ∧ (InR ((30 * x1) + x4) ∧ (((0 : Int) ≤ ((30 * x1) + x4) ∧ (((30 * x1) + x4) : Int) < 900) ∧ (∀ h5 : Hp, h5 = hup h 34 ((30 * x1) + x4) x2 → (((0 : Int) ≤ x1 ∧ (x1 : Int) < 30) ∧ (InR ((h5 35 x1) + 1) ∧ (((0 : Int) ≤ x1 ∧ (x1 : Int) < 30) ∧ (∀ h9 : Hp, h9 = hup h5 35 x1 ((h5 35 x1) + 1) → (P 0 h9))))))))) ∧ (¬ x5 ≤ x4 → InR (30 * x1) ∧ (InR ((30 * x1) + x5) ∧ (InR (30 * x1) ∧ (InR ((30 * x1) + x5) ∧ (InR (((30 * x1) + x5) - 1) ∧ (((0 : Int) ≤ (((30 * x1) + x5) - 1) ∧ ((((30 * x1) + x5) - 1) : Int) < 900) ∧ (((0 : Int) ≤ ((30 * x1) + x5) ∧ (((30 * x1) + x5) : Int) < 900) ∧ (∀ h17 : Hp, h17 = hup h 34 ((30 * x1) + x5) (h 34 (((30 * x1) + x5) - 1)) → (InR (x5 + (-1)) ∧ (∀ z18 : Int, z18 = x5 + (-1) → (∃ n', n' < n_32 ∧ I_32 n' h17 x1 x2 x4 z18)))))))))))
def V_X6_insert_22 (P : Int → Hp → Prop) (p_X6_placeOf : Int → Int → Hp → Prop) (q_X6_placeOf : Int → Int → Hp → Int → Prop) (I_32 : Nat → Hp → Int → Int → Int → Int → Prop) (h : Hp) (x1 : Int) (x2 : Int) (y0 : Int) : Prop :=
  ∀ z20 : Int, z20 = y0 → (((0 : Int) ≤ x1 ∧ (x1 : Int) < 30) ∧ (∀ z22 : Int, z22 = (h 35 x1) → (∃ n', I_32 n' h x1 x2 z20 z22)))
def V_X6_insert (P : Int → Hp → Prop) (p_X6_placeOf : Int → Int → Hp → Prop) (q_X6_placeOf : Int → Int → Hp → Int → Prop) (I_32 : Nat → Hp → Int → Int → Int → Int → Prop) (h0 : Hp) (a1 : Int) (a2 : Int) (a3 : Int) : Prop :=
  (¬ a3 = (-1) → p_X6_placeOf a1 a3 h0 ∧ (∀ r25 : Int, InR r25 → q_X6_placeOf a1 a3 h0 r25 → (InR (r25 + 1) ∧ (V_X6_insert_22 P p_X6_placeOf q_X6_placeOf I_32 h0 a1 a2 (r25 + 1))))) ∧ (a3 = (-1) → ((0 : Int) ≤ a1 ∧ (a1 : Int) < 30) ∧ (V_X6_insert_22 P p_X6_placeOf q_X6_placeOf I_32 h0 a1 a2 (h0 35 a1)))
set_option maxHeartbeats 4000000 in
set_option maxRecDepth 100000 in
theorem w_X6_insert {l : Launch} (P : Int → Hp → Prop) (p_X6_placeOf : Int → Int → Hp → Prop) (q_X6_placeOf : Int → Int → Hp → Int → Prop) (I_32 : Nat → Hp → Int → Int → Int → Int → Prop) (h0 : Hp) (a1 : Int) (a2 : Int) (a3 : Int)
    (c_X6_placeOf : ∀ (b1 : Int) (b2 : Int) (h : Hp), p_X6_placeOf b1 b2 h → Ct l yX6_placeOf cX6_placeOf 4 (some .int) 0 0 0 [vr 30, vi b1, vi b2] h [] (fun r _ => q_X6_placeOf b1 b2 h r) (fun _ => False))
    (o_32 : ∀ (n_32 : Nat) (h : Hp) (x1 : Int) (x2 : Int) (x4 : Int) (x5 : Int), RH h → Fr [34, 35] h0 h → InR x1 → InR x2 → InR x4 → InR x5 → I_32 n_32 h x1 x2 x4 x5 → V_X6_insert_32 P p_X6_placeOf q_X6_placeOf I_32 n_32 h x1 x2 x4 x5)
    (o : RH h0 → InR a1 → InR a2 → InR a3 → V_X6_insert P p_X6_placeOf q_X6_placeOf I_32 h0 a1 a2 a3) :
    Ct l yX6_insert cX6_insert 6 none 1 23 0 [vr 30, vi a1, vi a2, vi a3] h0 [34, 35] P (fun _ => False) := by
  refine Ct.of (own := RX6) (by decide) rfl (Nat.le_of_ble_eq_true rfl) ?_
  intro X C hXl hXM hXh hXP hXX hXc hXr hav hR0
  have hmain : V_X6_insert P p_X6_placeOf q_X6_placeOf I_32 h0 a1 a2 a3 := o hR0 (hav (vi a1) (by simp)) (hav (vi a2) (by simp)) (hav (vi a3) (by simp))
  have B_32 : ∀ (n_32 : Nat) (h : Hp) (x1 : Int) (x2 : Int) (x4 : Int) (x5 : Int), I_32 n_32 h x1 x2 x4 x5 → Wh X 32 [(0, vr 30), (1, vi x1), (2, vi x2), (4, vi x4), (5, vi x5)] [] h 0 := by
    intro n_32
    induction n_32 using Nat.strongRecOn with
    | _ n_32 ih_32 =>
      intro h x1 x2 x4 x5 hI
      refine s_use fun hR hF hL => ?_
      have v := o_32 n_32 h x1 x2 x4 x5 hR (by rw [hXM, hXh] at hF; exact hF) (hL (1, vi x1) (by simp)) (hL (2, vi x2) (by simp)) (hL (4, vi x4) (by simp)) (hL (5, vi x5) (by simp)) hI
      unfold V_X6_insert_32 at v
      refine r_iload 4 C dX6_insert_32 rfl ?_
      refine r_iload 3 C dX6_insert_34 rfl ?_
      refine r_icmp_le (tgt := 71) C dX6_insert_36 (by decide) (fun c1 => ?_) (fun c1 => ?_)
      · have v := v.1 c1
        refine r_aload_n 0 C dX6_insert_71 rfl ?_
        refine gf_X6_20 C dX6_insert_72 ?_
        refine r_bipush C dX6_insert_75 ⟨by decide, by decide⟩ (by decide) ?_
        refine r_iload_n 1 C dX6_insert_77 rfl ?_
        obtain ⟨o2, v⟩ := v
        refine r_imul C dX6_insert_78 o2 ?_
        refine r_iload 3 C dX6_insert_79 rfl ?_
        obtain ⟨o3, v⟩ := v
        refine r_iadd C dX6_insert_81 o3 ?_
        refine r_iload_n 2 C dX6_insert_82 rfl ?_
        obtain ⟨o4, v⟩ := v
        refine s_iastore (r := 34) (N := 900) C dX6_insert_83 rfl hXM (by decide) o4 (fun h5 eh5 => ?_)
        have v := v h5 eh5
        refine r_aload_n 0 C dX6_insert_84 rfl ?_
        refine gf_X6_23 C dX6_insert_85 ?_
        refine r_iload_n 1 C dX6_insert_88 rfl ?_
        refine r_dup2 C dX6_insert_89 trivial trivial ?_
        obtain ⟨o6, v⟩ := v
        refine r_iaload (r := 35) (N := 30) C dX6_insert_90 rfl o6 ?_
        refine r_iconst C dX6_insert_91 ⟨by decide, by decide⟩ ?_
        obtain ⟨o7, v⟩ := v
        refine r_iadd C dX6_insert_92 o7 ?_
        obtain ⟨o8, v⟩ := v
        refine s_iastore (r := 35) (N := 30) C dX6_insert_93 rfl hXM (by decide) o8 (fun h9 eh9 => ?_)
        have v := v h9 eh9
        exact r_return C dX6_insert_94 hXr (Nat.zero_le _) (by rw [hXP]; exact v)
      · have v := v.2 c1
        refine r_aload_n 0 C dX6_insert_39 rfl ?_
        refine gf_X6_20 C dX6_insert_40 ?_
        refine r_bipush C dX6_insert_43 ⟨by decide, by decide⟩ (by decide) ?_
        refine r_iload_n 1 C dX6_insert_45 rfl ?_
        obtain ⟨o10, v⟩ := v
        refine r_imul C dX6_insert_46 o10 ?_
        refine r_iload 4 C dX6_insert_47 rfl ?_
        obtain ⟨o11, v⟩ := v
        refine r_iadd C dX6_insert_49 o11 ?_
        refine r_aload_n 0 C dX6_insert_50 rfl ?_
        refine gf_X6_20 C dX6_insert_51 ?_
        refine r_bipush C dX6_insert_54 ⟨by decide, by decide⟩ (by decide) ?_
        refine r_iload_n 1 C dX6_insert_56 rfl ?_
        obtain ⟨o12, v⟩ := v
        refine r_imul C dX6_insert_57 o12 ?_
        refine r_iload 4 C dX6_insert_58 rfl ?_
        obtain ⟨o13, v⟩ := v
        refine r_iadd C dX6_insert_60 o13 ?_
        refine r_iconst C dX6_insert_61 ⟨by decide, by decide⟩ ?_
        obtain ⟨o14, v⟩ := v
        refine r_isub C dX6_insert_62 o14 ?_
        obtain ⟨o15, v⟩ := v
        refine r_iaload (r := 34) (N := 900) C dX6_insert_63 rfl o15 ?_
        obtain ⟨o16, v⟩ := v
        refine s_iastore (r := 34) (N := 900) C dX6_insert_64 rfl hXM (by decide) o16 (fun h17 eh17 => ?_)
        have v := v h17 eh17
        obtain ⟨o19, v⟩ := v
        refine s_iinc 4 C dX6_insert_65 rfl (by decide) o19 (fun z18 ez18 => ?_)
        have v := v z18 ez18
        show Wh X 68 [(5, vi z18), (0, vr 30), (1, vi x1), (2, vi x2), (4, vi x4)] [] h17 0
        refine r_goto (tgt := 32) C dX6_insert_68 (by decide) ?_
        obtain ⟨n', hn', hI'⟩ := v
        exact s_sub [1, 2, 3, 4, 0] rfl (ih_32 n' hn' _ _ _ _ _ hI')
  have B_22 : ∀ (h : Hp) (x1 : Int) (x2 : Int) (y0 : Int), V_X6_insert_22 P p_X6_placeOf q_X6_placeOf I_32 h x1 x2 y0 → Wh X 22 [(0, vr 30), (1, vi x1), (2, vi x2)] [vi y0] h 0 := by
    intro h x1 x2 y0 v
    unfold V_X6_insert_22 at v
    refine s_istore C dX6_insert_22 (by decide) (fun z20 ez20 => ?_)
    have v := v z20 ez20
    show Wh X 24 [(4, vi z20), (0, vr 30), (1, vi x1), (2, vi x2)] [] h 0
    refine r_aload_n 1 C dX6_insert_24 rfl ?_
    refine gf_X6_23 C dX6_insert_25 ?_
    refine r_iload_n 2 C dX6_insert_28 rfl ?_
    obtain ⟨o21, v⟩ := v
    refine r_iaload (r := 35) (N := 30) C dX6_insert_29 rfl o21 ?_
    refine s_istore C dX6_insert_30 (by decide) (fun z22 ez22 => ?_)
    have v := v z22 ez22
    show Wh X 32 [(5, vi z22), (4, vi z20), (0, vr 30), (1, vi x1), (2, vi x2)] [] h 0
    obtain ⟨n', hI'⟩ := v
    exact s_sub [2, 3, 4, 1, 0] rfl (B_32 n' _ _ _ _ _ hI')
  show Wh X 0 [(0, vr 30), (1, vi a1), (2, vi a2), (3, vi a3)] [] h0 0
  have v := hmain
  unfold V_X6_insert at v
  refine r_iload_n 3 C dX6_insert_0 rfl ?_
  refine r_iconst C dX6_insert_1 ⟨by decide, by decide⟩ ?_
  refine r_icmp_ne (tgt := 14) C dX6_insert_2 (by decide) (fun c23 => ?_) (fun c23 => ?_)
  · have v := v.1 c23
    refine r_aload_n 0 C dX6_insert_14 rfl ?_
    refine r_iload_n 1 C dX6_insert_15 rfl ?_
    refine r_iload_n 3 C dX6_insert_16 rfl ?_
    obtain ⟨o24, v⟩ := v
    refine s_calli0 [a1, a3] [] C dX6_insert_17 ck_X6_76 (r := 30) (fY := 0) (nY := 0) rfl rfl (by decide) (by decide) (Nat.le_of_ble_eq_true rfl) rfl (by rw [hXl]; exact c_X6_placeOf a1 a3 h0 o24) (fun r25 gr25 qr25 => ?_)
    have v := v r25 gr25 qr25
    refine r_iconst C dX6_insert_20 ⟨by decide, by decide⟩ ?_
    obtain ⟨o26, v⟩ := v
    refine r_iadd C dX6_insert_21 o26 ?_
    exact s_sub [0, 1, 2] rfl (B_22 _ _ _ _ v)
  · have v := v.2 c23
    refine r_aload_n 0 C dX6_insert_5 rfl ?_
    refine gf_X6_23 C dX6_insert_6 ?_
    refine r_iload_n 1 C dX6_insert_9 rfl ?_
    obtain ⟨o27, v⟩ := v
    refine r_iaload (r := 35) (N := 30) C dX6_insert_10 rfl o27 ?_
    refine r_goto (tgt := 22) C dX6_insert_11 (by decide) ?_
    exact s_sub [0, 1, 2] rfl (B_22 _ _ _ _ v)

def V_X6_edge_112 (P : Int → Hp → Prop) (p_X6_isVertex : Int → Hp → Prop) (q_X6_isVertex : Int → Hp → Int → Prop) (p_X6_isEdge : Int → Hp → Prop) (q_X6_isEdge : Int → Hp → Int → Prop) (p_X6_insert : Int → Int → Int → Hp → Prop) (q_X6_insert : Int → Int → Int → Hp → Hp → Prop) (p_X6_forget : Hp → Prop) (q_X6_forget : Hp → Hp → Prop) (p_X6_between : Int → Int → Hp → Prop) (q_X6_between : Int → Int → Hp → Int → Prop) (p_X6_isRound : Int → Int → Hp → Prop) (q_X6_isRound : Int → Int → Hp → Int → Prop) (h : Hp) (x1 : Int) (x2 : Int) (x3 : Int) (x4 : Int) (y1 : Int) : Prop :=
  ∀ h1 : Hp, h1 = hup h 30 0 y1 → (((h1 30 0) ≤ 0 → ((0 : Int) ≤ (h1 30 2) ∧ ((h1 30 2) : Int) < 100) ∧ (∀ h4 : Hp, h4 = hup h1 31 (h1 30 2) x1 → (((0 : Int) ≤ (h4 30 2) ∧ ((h4 30 2) : Int) < 100) ∧ (∀ h6 : Hp, h6 = hup h4 32 (h4 30 2) x2 → (((0 : Int) ≤ (h6 30 2) ∧ ((h6 30 2) : Int) < 100) ∧ (∀ h8 : Hp, h8 = hup h6 33 (h6 30 2) 0 → (p_X6_insert x1 (h8 30 2) x3 h8 ∧ (∀ h10 : Hp, Fr [34, 35] h8 h10 → RH h10 → q_X6_insert x1 (h8 30 2) x3 h8 h10 → (p_X6_insert x2 (h10 30 2) x4 h10 ∧ (∀ h12 : Hp, Fr [34, 35] h10 h12 → RH h12 → q_X6_insert x2 (h10 30 2) x4 h10 h12 → (InR ((h12 30 2) + 1) ∧ (∀ h14 : Hp, h14 = hup h12 30 2 ((h12 30 2) + 1) → (InR ((h14 30 3) + 1) ∧ (∀ h16 : Hp, h16 = hup h14 30 3 ((h14 30 3) + 1) → (p_X6_forget h16 ∧ (∀ h18 : Hp, Fr [30, 36] h16 h18 → RH h18 → q_X6_forget h16 h18 → (InR ((h18 30 2) - 1) ∧ (P ((h18 30 2) - 1) h18)))))))))))))))))) ∧ (¬ (h1 30 0) ≤ 0 → P 0 h1))
def V_X6_edge_94 (P : Int → Hp → Prop) (p_X6_isVertex : Int → Hp → Prop) (q_X6_isVertex : Int → Hp → Int → Prop) (p_X6_isEdge : Int → Hp → Prop) (q_X6_isEdge : Int → Hp → Int → Prop) (p_X6_insert : Int → Int → Int → Hp → Prop) (q_X6_insert : Int → Int → Int → Hp → Hp → Prop) (p_X6_forget : Hp → Prop) (q_X6_forget : Hp → Hp → Prop) (p_X6_between : Int → Int → Hp → Prop) (q_X6_between : Int → Int → Hp → Int → Prop) (p_X6_isRound : Int → Int → Hp → Prop) (q_X6_isRound : Int → Int → Hp → Int → Prop) (h : Hp) (x1 : Int) (x2 : Int) (x3 : Int) (x4 : Int) : Prop :=
  V_X6_edge_112 P p_X6_isVertex q_X6_isVertex p_X6_isEdge q_X6_isEdge p_X6_insert q_X6_insert p_X6_forget q_X6_forget p_X6_between q_X6_between p_X6_isRound q_X6_isRound h x1 x2 x3 x4 2
def V_X6_edge_49 (P : Int → Hp → Prop) (p_X6_isVertex : Int → Hp → Prop) (q_X6_isVertex : Int → Hp → Int → Prop) (p_X6_isEdge : Int → Hp → Prop) (q_X6_isEdge : Int → Hp → Int → Prop) (p_X6_insert : Int → Int → Int → Hp → Prop) (q_X6_insert : Int → Int → Int → Hp → Hp → Prop) (p_X6_forget : Hp → Prop) (q_X6_forget : Hp → Hp → Prop) (p_X6_between : Int → Int → Hp → Prop) (q_X6_between : Int → Int → Hp → Int → Prop) (p_X6_isRound : Int → Int → Hp → Prop) (q_X6_isRound : Int → Int → Hp → Int → Prop) (h : Hp) (x1 : Int) (x2 : Int) (x3 : Int) (x4 : Int) (y0 : Int) : Prop :=
  ∀ z20 : Int, z20 = y0 → ((¬ z20 = 0 → (x1 = x2 → V_X6_edge_94 P p_X6_isVertex q_X6_isVertex p_X6_isEdge q_X6_isEdge p_X6_insert q_X6_insert p_X6_forget q_X6_forget p_X6_between q_X6_between p_X6_isRound q_X6_isRound h x1 x2 x3 x4) ∧ (¬ x1 = x2 → p_X6_between x1 x2 h ∧ (∀ r24 : Int, InR r24 → q_X6_between x1 x2 h r24 → ((0 ≤ r24 → V_X6_edge_94 P p_X6_isVertex q_X6_isVertex p_X6_isEdge q_X6_isEdge p_X6_insert q_X6_insert p_X6_forget q_X6_forget p_X6_between q_X6_between p_X6_isRound q_X6_isRound h x1 x2 x3 x4) ∧ (¬ 0 ≤ r24 → p_X6_isRound x1 x3 h ∧ (∀ r27 : Int, InR r27 → q_X6_isRound x1 x3 h r27 → ((r27 = 0 → V_X6_edge_94 P p_X6_isVertex q_X6_isVertex p_X6_isEdge q_X6_isEdge p_X6_insert q_X6_insert p_X6_forget q_X6_forget p_X6_between q_X6_between p_X6_isRound q_X6_isRound h x1 x2 x3 x4) ∧ (¬ r27 = 0 → p_X6_isRound x2 x4 h ∧ (∀ r30 : Int, InR r30 → q_X6_isRound x2 x4 h r30 → ((¬ r30 = 0 → (¬ (h 30 2) = 100 → V_X6_edge_112 P p_X6_isVertex q_X6_isVertex p_X6_isEdge q_X6_isEdge p_X6_insert q_X6_insert p_X6_forget q_X6_forget p_X6_between q_X6_between p_X6_isRound q_X6_isRound h x1 x2 x3 x4 0) ∧ ((h 30 2) = 100 → V_X6_edge_112 P p_X6_isVertex q_X6_isVertex p_X6_isEdge q_X6_isEdge p_X6_insert q_X6_insert p_X6_forget q_X6_forget p_X6_between q_X6_between p_X6_isRound q_X6_isRound h x1 x2 x3 x4 3)) ∧ (r30 = 0 → V_X6_edge_94 P p_X6_isVertex q_X6_isVertex p_X6_isEdge q_X6_isEdge p_X6_insert q_X6_insert p_X6_forget q_X6_forget p_X6_between q_X6_between p_X6_isRound q_X6_isRound h x1 x2 x3 x4))))))))))) ∧ (z20 = 0 → V_X6_edge_112 P p_X6_isVertex q_X6_isVertex p_X6_isEdge q_X6_isEdge p_X6_insert q_X6_insert p_X6_forget q_X6_forget p_X6_between q_X6_between p_X6_isRound q_X6_isRound h x1 x2 x3 x4 1))
def V_X6_edge_48 (P : Int → Hp → Prop) (p_X6_isVertex : Int → Hp → Prop) (q_X6_isVertex : Int → Hp → Int → Prop) (p_X6_isEdge : Int → Hp → Prop) (q_X6_isEdge : Int → Hp → Int → Prop) (p_X6_insert : Int → Int → Int → Hp → Prop) (q_X6_insert : Int → Int → Int → Hp → Hp → Prop) (p_X6_forget : Hp → Prop) (q_X6_forget : Hp → Hp → Prop) (p_X6_between : Int → Int → Hp → Prop) (q_X6_between : Int → Int → Hp → Int → Prop) (p_X6_isRound : Int → Int → Hp → Prop) (q_X6_isRound : Int → Int → Hp → Int → Prop) (h : Hp) (x1 : Int) (x2 : Int) (x3 : Int) (x4 : Int) : Prop :=
  V_X6_edge_49 P p_X6_isVertex q_X6_isVertex p_X6_isEdge q_X6_isEdge p_X6_insert q_X6_insert p_X6_forget q_X6_forget p_X6_between q_X6_between p_X6_isRound q_X6_isRound h x1 x2 x3 x4 0
def V_X6_edge_44 (P : Int → Hp → Prop) (p_X6_isVertex : Int → Hp → Prop) (q_X6_isVertex : Int → Hp → Int → Prop) (p_X6_isEdge : Int → Hp → Prop) (q_X6_isEdge : Int → Hp → Int → Prop) (p_X6_insert : Int → Int → Int → Hp → Prop) (q_X6_insert : Int → Int → Int → Hp → Hp → Prop) (p_X6_forget : Hp → Prop) (q_X6_forget : Hp → Hp → Prop) (p_X6_between : Int → Int → Hp → Prop) (q_X6_between : Int → Int → Hp → Int → Prop) (p_X6_isRound : Int → Int → Hp → Prop) (q_X6_isRound : Int → Int → Hp → Int → Prop) (h : Hp) (x1 : Int) (x2 : Int) (x3 : Int) (x4 : Int) : Prop :=
  V_X6_edge_49 P p_X6_isVertex q_X6_isVertex p_X6_isEdge q_X6_isEdge p_X6_insert q_X6_insert p_X6_forget q_X6_forget p_X6_between q_X6_between p_X6_isRound q_X6_isRound h x1 x2 x3 x4 1
def V_X6_edge_29 (P : Int → Hp → Prop) (p_X6_isVertex : Int → Hp → Prop) (q_X6_isVertex : Int → Hp → Int → Prop) (p_X6_isEdge : Int → Hp → Prop) (q_X6_isEdge : Int → Hp → Int → Prop) (p_X6_insert : Int → Int → Int → Hp → Prop) (q_X6_insert : Int → Int → Int → Hp → Hp → Prop) (p_X6_forget : Hp → Prop) (q_X6_forget : Hp → Hp → Prop) (p_X6_between : Int → Int → Hp → Prop) (q_X6_between : Int → Int → Hp → Int → Prop) (p_X6_isRound : Int → Int → Hp → Prop) (q_X6_isRound : Int → Int → Hp → Int → Prop) (h : Hp) (x1 : Int) (x2 : Int) (x3 : Int) (x4 : Int) : Prop :=
  (x4 = (-1) → V_X6_edge_44 P p_X6_isVertex q_X6_isVertex p_X6_isEdge q_X6_isEdge p_X6_insert q_X6_insert p_X6_forget q_X6_forget p_X6_between q_X6_between p_X6_isRound q_X6_isRound h x1 x2 x3 x4) ∧ (¬ x4 = (-1) → p_X6_isEdge x4 h ∧ (∀ r35 : Int, InR r35 → q_X6_isEdge x4 h r35 → ((r35 = 0 → V_X6_edge_48 P p_X6_isVertex q_X6_isVertex p_X6_isEdge q_X6_isEdge p_X6_insert q_X6_insert p_X6_forget q_X6_forget p_X6_between q_X6_between p_X6_isRound q_X6_isRound h x1 x2 x3 x4) ∧ (¬ r35 = 0 → V_X6_edge_44 P p_X6_isVertex q_X6_isVertex p_X6_isEdge q_X6_isEdge p_X6_insert q_X6_insert p_X6_forget q_X6_forget p_X6_between q_X6_between p_X6_isRound q_X6_isRound h x1 x2 x3 x4))))
def V_X6_edge (P : Int → Hp → Prop) (p_X6_isVertex : Int → Hp → Prop) (q_X6_isVertex : Int → Hp → Int → Prop) (p_X6_isEdge : Int → Hp → Prop) (q_X6_isEdge : Int → Hp → Int → Prop) (p_X6_insert : Int → Int → Int → Hp → Prop) (q_X6_insert : Int → Int → Int → Hp → Hp → Prop) (p_X6_forget : Hp → Prop) (q_X6_forget : Hp → Hp → Prop) (p_X6_between : Int → Int → Hp → Prop) (q_X6_between : Int → Int → Hp → Int → Prop) (p_X6_isRound : Int → Int → Hp → Prop) (q_X6_isRound : Int → Int → Hp → Int → Prop) (h0 : Hp) (a1 : Int) (a2 : Int) (a3 : Int) (a4 : Int) : Prop :=
  p_X6_isVertex a1 h0 ∧ (∀ r38 : Int, InR r38 → q_X6_isVertex a1 h0 r38 → ((r38 = 0 → V_X6_edge_48 P p_X6_isVertex q_X6_isVertex p_X6_isEdge q_X6_isEdge p_X6_insert q_X6_insert p_X6_forget q_X6_forget p_X6_between q_X6_between p_X6_isRound q_X6_isRound h0 a1 a2 a3 a4) ∧ (¬ r38 = 0 → p_X6_isVertex a2 h0 ∧ (∀ r41 : Int, InR r41 → q_X6_isVertex a2 h0 r41 → ((r41 = 0 → V_X6_edge_48 P p_X6_isVertex q_X6_isVertex p_X6_isEdge q_X6_isEdge p_X6_insert q_X6_insert p_X6_forget q_X6_forget p_X6_between q_X6_between p_X6_isRound q_X6_isRound h0 a1 a2 a3 a4) ∧ (¬ r41 = 0 → (a3 = (-1) → V_X6_edge_29 P p_X6_isVertex q_X6_isVertex p_X6_isEdge q_X6_isEdge p_X6_insert q_X6_insert p_X6_forget q_X6_forget p_X6_between q_X6_between p_X6_isRound q_X6_isRound h0 a1 a2 a3 a4) ∧ (¬ a3 = (-1) → p_X6_isEdge a3 h0 ∧ (∀ r45 : Int, InR r45 → q_X6_isEdge a3 h0 r45 → ((r45 = 0 → V_X6_edge_48 P p_X6_isVertex q_X6_isVertex p_X6_isEdge q_X6_isEdge p_X6_insert q_X6_insert p_X6_forget q_X6_forget p_X6_between q_X6_between p_X6_isRound q_X6_isRound h0 a1 a2 a3 a4) ∧ (¬ r45 = 0 → V_X6_edge_29 P p_X6_isVertex q_X6_isVertex p_X6_isEdge q_X6_isEdge p_X6_insert q_X6_insert p_X6_forget q_X6_forget p_X6_between q_X6_between p_X6_isRound q_X6_isRound h0 a1 a2 a3 a4))))))))))
set_option maxHeartbeats 4000000 in
set_option maxRecDepth 100000 in
theorem w_X6_edge {l : Launch} (P : Int → Hp → Prop) (p_X6_isVertex : Int → Hp → Prop) (q_X6_isVertex : Int → Hp → Int → Prop) (p_X6_isEdge : Int → Hp → Prop) (q_X6_isEdge : Int → Hp → Int → Prop) (p_X6_insert : Int → Int → Int → Hp → Prop) (q_X6_insert : Int → Int → Int → Hp → Hp → Prop) (p_X6_forget : Hp → Prop) (q_X6_forget : Hp → Hp → Prop) (p_X6_between : Int → Int → Hp → Prop) (q_X6_between : Int → Int → Hp → Int → Prop) (p_X6_isRound : Int → Int → Hp → Prop) (q_X6_isRound : Int → Int → Hp → Int → Prop) (h0 : Hp) (a1 : Int) (a2 : Int) (a3 : Int) (a4 : Int)
    (c_X6_isVertex : ∀ (b1 : Int) (h : Hp), p_X6_isVertex b1 h → Ct l yX6_isVertex cX6_isVertex 2 (some .boolean) 0 0 0 [vr 30, vi b1] h [] (fun r _ => q_X6_isVertex b1 h r) (fun _ => False))
    (c_X6_isEdge : ∀ (b1 : Int) (h : Hp), p_X6_isEdge b1 h → Ct l yX6_isEdge cX6_isEdge 2 (some .boolean) 0 0 0 [vr 30, vi b1] h [] (fun r _ => q_X6_isEdge b1 h r) (fun _ => False))
    (c_X6_insert : ∀ (b1 : Int) (b2 : Int) (b3 : Int) (h : Hp), p_X6_insert b1 b2 b3 h → Ct l yX6_insert cX6_insert 6 none 1 23 0 [vr 30, vi b1, vi b2, vi b3] h [34, 35] (fun _ h1 => q_X6_insert b1 b2 b3 h h1) (fun _ => False))
    (c_X6_forget : ∀ (h : Hp), p_X6_forget h → Ct l yX6_forget cX6_forget 2 none 0 0 0 [vr 30] h [30, 36] (fun _ h1 => q_X6_forget h h1) (fun _ => False))
    (c_X6_between : ∀ (b1 : Int) (b2 : Int) (h : Hp), p_X6_between b1 b2 h → Ct l yX6_between cX6_between 4 (some .int) 1 22 0 [vr 30, vi b1, vi b2] h [] (fun r _ => q_X6_between b1 b2 h r) (fun _ => False))
    (c_X6_isRound : ∀ (b1 : Int) (b2 : Int) (h : Hp), p_X6_isRound b1 b2 h → Ct l yX6_isRound cX6_isRound 3 (some .boolean) 1 23 0 [vr 30, vi b1, vi b2] h [] (fun r _ => q_X6_isRound b1 b2 h r) (fun _ => False))
    (o : RH h0 → InR a1 → InR a2 → InR a3 → InR a4 → V_X6_edge P p_X6_isVertex q_X6_isVertex p_X6_isEdge q_X6_isEdge p_X6_insert q_X6_insert p_X6_forget q_X6_forget p_X6_between q_X6_between p_X6_isRound q_X6_isRound h0 a1 a2 a3 a4) :
    Ct l yX6_edge cX6_edge 6 (some .int) 2 48 0 [vr 30, vi a1, vi a2, vi a3, vi a4] h0 [30, 31, 32, 33, 34, 35, 36] P (fun _ => False) := by
  refine Ct.of (own := RX6) (by decide) rfl (Nat.le_of_ble_eq_true rfl) ?_
  intro X C hXl hXM hXh hXP hXX hXc hXr hav hR0
  have hmain : V_X6_edge P p_X6_isVertex q_X6_isVertex p_X6_isEdge q_X6_isEdge p_X6_insert q_X6_insert p_X6_forget q_X6_forget p_X6_between q_X6_between p_X6_isRound q_X6_isRound h0 a1 a2 a3 a4 := o hR0 (hav (vi a1) (by simp)) (hav (vi a2) (by simp)) (hav (vi a3) (by simp)) (hav (vi a4) (by simp))
  have B_112 : ∀ (h : Hp) (x1 : Int) (x2 : Int) (x3 : Int) (x4 : Int) (y1 : Int), V_X6_edge_112 P p_X6_isVertex q_X6_isVertex p_X6_isEdge q_X6_isEdge p_X6_insert q_X6_insert p_X6_forget q_X6_forget p_X6_between q_X6_between p_X6_isRound q_X6_isRound h x1 x2 x3 x4 y1 → Wh X 112 [(0, vr 30), (1, vi x1), (2, vi x2), (3, vi x3), (4, vi x4)] [vi y1, vr 30] h 0 := by
    intro h x1 x2 x3 x4 y1 v
    unfold V_X6_edge_112 at v
    refine pf_X6_59 C dX6_edge_112 hXM (by decide) (fun h1 eh1 => ?_)
    have v := v h1 eh1
    refine r_aload_n 0 C dX6_edge_115 rfl ?_
    refine gf_X6_59 C dX6_edge_116 ?_
    refine r_if_le (tgt := 124) C dX6_edge_119 (by decide) (fun c2 => ?_) (fun c2 => ?_)
    · have v := v.1 c2
      refine r_aload_n 0 C dX6_edge_124 rfl ?_
      refine gf_X6_7 C dX6_edge_125 ?_
      refine r_aload_n 0 C dX6_edge_128 rfl ?_
      refine gf_X6_66 C dX6_edge_129 ?_
      refine r_iload_n 1 C dX6_edge_132 rfl ?_
      obtain ⟨o3, v⟩ := v
      refine s_iastore (r := 31) (N := 100) C dX6_edge_133 rfl hXM (by decide) o3 (fun h4 eh4 => ?_)
      have v := v h4 eh4
      refine r_aload_n 0 C dX6_edge_134 rfl ?_
      refine gf_X6_13 C dX6_edge_135 ?_
      refine r_aload_n 0 C dX6_edge_138 rfl ?_
      refine gf_X6_66 C dX6_edge_139 ?_
      refine r_iload_n 2 C dX6_edge_142 rfl ?_
      obtain ⟨o5, v⟩ := v
      refine s_iastore (r := 32) (N := 100) C dX6_edge_143 rfl hXM (by decide) o5 (fun h6 eh6 => ?_)
      have v := v h6 eh6
      refine r_aload_n 0 C dX6_edge_144 rfl ?_
      refine gf_X6_16 C dX6_edge_145 ?_
      refine r_aload_n 0 C dX6_edge_148 rfl ?_
      refine gf_X6_66 C dX6_edge_149 ?_
      refine r_iconst C dX6_edge_152 ⟨by decide, by decide⟩ ?_
      obtain ⟨o7, v⟩ := v
      refine s_bastore (r := 33) (N := 100) C dX6_edge_153 rfl hXM (by decide) o7 (by decide) (fun h8 eh8 => ?_)
      have v := v h8 eh8
      refine r_aload_n 0 C dX6_edge_154 rfl ?_
      refine r_iload_n 1 C dX6_edge_155 rfl ?_
      refine r_aload_n 0 C dX6_edge_156 rfl ?_
      refine gf_X6_66 C dX6_edge_157 ?_
      refine r_iload_n 3 C dX6_edge_160 rfl ?_
      obtain ⟨o9, v⟩ := v
      refine s_callv [x1, (h8 30 2), x3] [] C dX6_edge_161 ck_X6_93 (r := 30) (fY := 1) (nY := 23) rfl rfl (by decide) (by decide) (Nat.le_of_ble_eq_true rfl) rfl (MY := [34, 35]) hXM (by decide) (by rw [hXl]; exact c_X6_insert x1 (h8 30 2) x3 h8 o9) (fun h10 fh10 kh10 qh10 => ?_)
      have v := v h10 fh10 kh10 qh10
      refine r_aload_n 0 C dX6_edge_164 rfl ?_
      refine r_iload_n 2 C dX6_edge_165 rfl ?_
      refine r_aload_n 0 C dX6_edge_166 rfl ?_
      refine gf_X6_66 C dX6_edge_167 ?_
      refine r_iload 4 C dX6_edge_170 rfl ?_
      obtain ⟨o11, v⟩ := v
      refine s_callv [x2, (h10 30 2), x4] [] C dX6_edge_172 ck_X6_93 (r := 30) (fY := 1) (nY := 23) rfl rfl (by decide) (by decide) (Nat.le_of_ble_eq_true rfl) rfl (MY := [34, 35]) hXM (by decide) (by rw [hXl]; exact c_X6_insert x2 (h10 30 2) x4 h10 o11) (fun h12 fh12 kh12 qh12 => ?_)
      have v := v h12 fh12 kh12 qh12
      refine r_aload_n 0 C dX6_edge_175 rfl ?_
      refine r_dup C dX6_edge_176 trivial ?_
      refine gf_X6_66 C dX6_edge_177 ?_
      refine r_iconst C dX6_edge_180 ⟨by decide, by decide⟩ ?_
      obtain ⟨o13, v⟩ := v
      refine r_iadd C dX6_edge_181 o13 ?_
      refine pf_X6_66 C dX6_edge_182 hXM (by decide) (fun h14 eh14 => ?_)
      have v := v h14 eh14
      refine r_aload_n 0 C dX6_edge_185 rfl ?_
      refine r_dup C dX6_edge_186 trivial ?_
      refine gf_X6_97 C dX6_edge_187 ?_
      refine r_iconst C dX6_edge_190 ⟨by decide, by decide⟩ ?_
      obtain ⟨o15, v⟩ := v
      refine r_iadd C dX6_edge_191 o15 ?_
      refine pf_X6_97 C dX6_edge_192 hXM (by decide) (fun h16 eh16 => ?_)
      have v := v h16 eh16
      refine r_aload_n 0 C dX6_edge_195 rfl ?_
      obtain ⟨o17, v⟩ := v
      refine s_callv [] [] C dX6_edge_196 ck_X6_100 (r := 30) (fY := 0) (nY := 0) rfl rfl (by decide) (by decide) (Nat.le_of_ble_eq_true rfl) rfl (MY := [30, 36]) hXM (by decide) (by rw [hXl]; exact c_X6_forget h16 o17) (fun h18 fh18 kh18 qh18 => ?_)
      have v := v h18 fh18 kh18 qh18
      refine r_aload_n 0 C dX6_edge_199 rfl ?_
      refine gf_X6_66 C dX6_edge_200 ?_
      refine r_iconst C dX6_edge_203 ⟨by decide, by decide⟩ ?_
      obtain ⟨o19, v⟩ := v
      refine r_isub C dX6_edge_204 o19 ?_
      exact r_ireturn C dX6_edge_205 hXr (Nat.zero_le _) (by rw [hXP]; exact v)
    · have v := v.2 c2
      refine r_iconst C dX6_edge_122 ⟨by decide, by decide⟩ ?_
      exact r_ireturn C dX6_edge_123 hXr (Nat.zero_le _) (by rw [hXP]; exact v)
  have B_94 : ∀ (h : Hp) (x1 : Int) (x2 : Int) (x3 : Int) (x4 : Int), V_X6_edge_94 P p_X6_isVertex q_X6_isVertex p_X6_isEdge q_X6_isEdge p_X6_insert q_X6_insert p_X6_forget q_X6_forget p_X6_between q_X6_between p_X6_isRound q_X6_isRound h x1 x2 x3 x4 → Wh X 94 [(0, vr 30), (1, vi x1), (2, vi x2), (3, vi x3), (4, vi x4)] [vr 30] h 0 := by
    intro h x1 x2 x3 x4 v
    unfold V_X6_edge_94 at v
    refine r_iconst C dX6_edge_94 ⟨by decide, by decide⟩ ?_
    refine r_goto (tgt := 112) C dX6_edge_95 (by decide) ?_
    exact s_sub [0, 1, 2, 3, 4] rfl (B_112 _ _ _ _ _ _ v)
  have B_49 : ∀ (h : Hp) (x1 : Int) (x2 : Int) (x3 : Int) (x4 : Int) (y0 : Int), V_X6_edge_49 P p_X6_isVertex q_X6_isVertex p_X6_isEdge q_X6_isEdge p_X6_insert q_X6_insert p_X6_forget q_X6_forget p_X6_between q_X6_between p_X6_isRound q_X6_isRound h x1 x2 x3 x4 y0 → Wh X 49 [(0, vr 30), (1, vi x1), (2, vi x2), (3, vi x3), (4, vi x4)] [vi y0] h 0 := by
    intro h x1 x2 x3 x4 y0 v
    unfold V_X6_edge_49 at v
    refine s_istore C dX6_edge_49 (by decide) (fun z20 ez20 => ?_)
    have v := v z20 ez20
    show Wh X 51 [(5, vi z20), (0, vr 30), (1, vi x1), (2, vi x2), (3, vi x3), (4, vi x4)] [] h 0
    refine r_aload_n 1 C dX6_edge_51 rfl ?_
    refine r_iload 0 C dX6_edge_52 rfl ?_
    refine r_if_ne (tgt := 61) C dX6_edge_54 (by decide) (fun c21 => ?_) (fun c21 => ?_)
    · have v := v.1 c21
      refine r_iload_n 2 C dX6_edge_61 rfl ?_
      refine r_iload_n 3 C dX6_edge_62 rfl ?_
      refine r_icmp_eq (tgt := 94) C dX6_edge_63 (by decide) (fun c22 => ?_) (fun c22 => ?_)
      · have v := v.1 c22
        exact s_sub [1, 2, 3, 4, 5] rfl (B_94 _ _ _ _ _ v)
      · have v := v.2 c22
        refine r_aload_n 1 C dX6_edge_66 rfl ?_
        refine r_iload_n 2 C dX6_edge_67 rfl ?_
        refine r_iload_n 3 C dX6_edge_68 rfl ?_
        obtain ⟨o23, v⟩ := v
        refine s_calli0 [x1, x2] [vr 30] C dX6_edge_69 ck_X6_86 (r := 30) (fY := 1) (nY := 22) rfl rfl (by decide) (by decide) (Nat.le_of_ble_eq_true rfl) rfl (by rw [hXl]; exact c_X6_between x1 x2 h o23) (fun r24 gr24 qr24 => ?_)
        have v := v r24 gr24 qr24
        refine r_if_ge (tgt := 94) C dX6_edge_72 (by decide) (fun c25 => ?_) (fun c25 => ?_)
        · have v := v.1 c25
          exact s_sub [1, 2, 3, 4, 5] rfl (B_94 _ _ _ _ _ v)
        · have v := v.2 c25
          refine r_aload_n 1 C dX6_edge_75 rfl ?_
          refine r_iload_n 2 C dX6_edge_76 rfl ?_
          refine r_iload_n 4 C dX6_edge_77 rfl ?_
          obtain ⟨o26, v⟩ := v
          refine s_calli0 [x1, x3] [vr 30] C dX6_edge_78 ck_X6_89 (r := 30) (fY := 1) (nY := 23) rfl rfl (by decide) (by decide) (Nat.le_of_ble_eq_true rfl) rfl (by rw [hXl]; exact c_X6_isRound x1 x3 h o26) (fun r27 gr27 qr27 => ?_)
          have v := v r27 gr27 qr27
          refine r_if_eq (tgt := 94) C dX6_edge_81 (by decide) (fun c28 => ?_) (fun c28 => ?_)
          · have v := v.1 c28
            exact s_sub [1, 2, 3, 4, 5] rfl (B_94 _ _ _ _ _ v)
          · have v := v.2 c28
            refine r_aload_n 1 C dX6_edge_84 rfl ?_
            refine r_iload_n 3 C dX6_edge_85 rfl ?_
            refine r_iload 5 C dX6_edge_86 rfl ?_
            obtain ⟨o29, v⟩ := v
            refine s_calli0 [x2, x4] [vr 30] C dX6_edge_88 ck_X6_89 (r := 30) (fY := 1) (nY := 23) rfl rfl (by decide) (by decide) (Nat.le_of_ble_eq_true rfl) rfl (by rw [hXl]; exact c_X6_isRound x2 x4 h o29) (fun r30 gr30 qr30 => ?_)
            have v := v r30 gr30 qr30
            refine r_if_ne (tgt := 98) C dX6_edge_91 (by decide) (fun c31 => ?_) (fun c31 => ?_)
            · have v := v.1 c31
              refine r_aload_n 1 C dX6_edge_98 rfl ?_
              refine gf_X6_66 C dX6_edge_99 ?_
              refine r_bipush C dX6_edge_102 ⟨by decide, by decide⟩ (by decide) ?_
              refine r_icmp_ne (tgt := 111) C dX6_edge_104 (by decide) (fun c32 => ?_) (fun c32 => ?_)
              · have v := v.1 c32
                refine r_iconst C dX6_edge_111 ⟨by decide, by decide⟩ ?_
                exact s_sub [1, 2, 3, 4, 5] rfl (B_112 _ _ _ _ _ _ v)
              · have v := v.2 c32
                refine r_iconst C dX6_edge_107 ⟨by decide, by decide⟩ ?_
                refine r_goto (tgt := 112) C dX6_edge_108 (by decide) ?_
                exact s_sub [1, 2, 3, 4, 5] rfl (B_112 _ _ _ _ _ _ v)
            · have v := v.2 c31
              exact s_sub [1, 2, 3, 4, 5] rfl (B_94 _ _ _ _ _ v)
    · have v := v.2 c21
      refine r_iconst C dX6_edge_57 ⟨by decide, by decide⟩ ?_
      refine r_goto (tgt := 112) C dX6_edge_58 (by decide) ?_
      exact s_sub [1, 2, 3, 4, 5] rfl (B_112 _ _ _ _ _ _ v)
  have B_48 : ∀ (h : Hp) (x1 : Int) (x2 : Int) (x3 : Int) (x4 : Int), V_X6_edge_48 P p_X6_isVertex q_X6_isVertex p_X6_isEdge q_X6_isEdge p_X6_insert q_X6_insert p_X6_forget q_X6_forget p_X6_between q_X6_between p_X6_isRound q_X6_isRound h x1 x2 x3 x4 → Wh X 48 [(0, vr 30), (1, vi x1), (2, vi x2), (3, vi x3), (4, vi x4)] [] h 0 := by
    intro h x1 x2 x3 x4 v
    unfold V_X6_edge_48 at v
    refine r_iconst C dX6_edge_48 ⟨by decide, by decide⟩ ?_
    exact s_sub [0, 1, 2, 3, 4] rfl (B_49 _ _ _ _ _ _ v)
  have B_44 : ∀ (h : Hp) (x1 : Int) (x2 : Int) (x3 : Int) (x4 : Int), V_X6_edge_44 P p_X6_isVertex q_X6_isVertex p_X6_isEdge q_X6_isEdge p_X6_insert q_X6_insert p_X6_forget q_X6_forget p_X6_between q_X6_between p_X6_isRound q_X6_isRound h x1 x2 x3 x4 → Wh X 44 [(0, vr 30), (1, vi x1), (2, vi x2), (3, vi x3), (4, vi x4)] [] h 0 := by
    intro h x1 x2 x3 x4 v
    unfold V_X6_edge_44 at v
    refine r_iconst C dX6_edge_44 ⟨by decide, by decide⟩ ?_
    refine r_goto (tgt := 49) C dX6_edge_45 (by decide) ?_
    exact s_sub [0, 1, 2, 3, 4] rfl (B_49 _ _ _ _ _ _ v)
  have B_29 : ∀ (h : Hp) (x1 : Int) (x2 : Int) (x3 : Int) (x4 : Int), V_X6_edge_29 P p_X6_isVertex q_X6_isVertex p_X6_isEdge q_X6_isEdge p_X6_insert q_X6_insert p_X6_forget q_X6_forget p_X6_between q_X6_between p_X6_isRound q_X6_isRound h x1 x2 x3 x4 → Wh X 29 [(0, vr 30), (1, vi x1), (2, vi x2), (3, vi x3), (4, vi x4)] [] h 0 := by
    intro h x1 x2 x3 x4 v
    unfold V_X6_edge_29 at v
    refine r_iload 4 C dX6_edge_29 rfl ?_
    refine r_iconst C dX6_edge_31 ⟨by decide, by decide⟩ ?_
    refine r_icmp_eq (tgt := 44) C dX6_edge_32 (by decide) (fun c33 => ?_) (fun c33 => ?_)
    · have v := v.1 c33
      exact s_sub [0, 1, 2, 3, 4] rfl (B_44 _ _ _ _ _ v)
    · have v := v.2 c33
      refine r_aload_n 0 C dX6_edge_35 rfl ?_
      refine r_iload 4 C dX6_edge_36 rfl ?_
      obtain ⟨o34, v⟩ := v
      refine s_calli0 [x4] [] C dX6_edge_38 ck_X6_83 (r := 30) (fY := 0) (nY := 0) rfl rfl (by decide) (by decide) (Nat.le_of_ble_eq_true rfl) rfl (by rw [hXl]; exact c_X6_isEdge x4 h o34) (fun r35 gr35 qr35 => ?_)
      have v := v r35 gr35 qr35
      refine r_if_eq (tgt := 48) C dX6_edge_41 (by decide) (fun c36 => ?_) (fun c36 => ?_)
      · have v := v.1 c36
        exact s_sub [0, 1, 2, 3, 4] rfl (B_48 _ _ _ _ _ v)
      · have v := v.2 c36
        exact s_sub [0, 1, 2, 3, 4] rfl (B_44 _ _ _ _ _ v)
  show Wh X 0 [(0, vr 30), (1, vi a1), (2, vi a2), (3, vi a3), (4, vi a4)] [] h0 0
  have v := hmain
  unfold V_X6_edge at v
  refine r_aload_n 0 C dX6_edge_0 rfl ?_
  refine r_iload_n 1 C dX6_edge_1 rfl ?_
  obtain ⟨o37, v⟩ := v
  refine s_calli0 [a1] [] C dX6_edge_2 ck_X6_79 (r := 30) (fY := 0) (nY := 0) rfl rfl (by decide) (by decide) (Nat.le_of_ble_eq_true rfl) rfl (by rw [hXl]; exact c_X6_isVertex a1 h0 o37) (fun r38 gr38 qr38 => ?_)
  have v := v r38 gr38 qr38
  refine r_if_eq (tgt := 48) C dX6_edge_5 (by decide) (fun c39 => ?_) (fun c39 => ?_)
  · have v := v.1 c39
    exact s_sub [0, 1, 2, 3, 4] rfl (B_48 _ _ _ _ _ v)
  · have v := v.2 c39
    refine r_aload_n 0 C dX6_edge_8 rfl ?_
    refine r_iload_n 2 C dX6_edge_9 rfl ?_
    obtain ⟨o40, v⟩ := v
    refine s_calli0 [a2] [] C dX6_edge_10 ck_X6_79 (r := 30) (fY := 0) (nY := 0) rfl rfl (by decide) (by decide) (Nat.le_of_ble_eq_true rfl) rfl (by rw [hXl]; exact c_X6_isVertex a2 h0 o40) (fun r41 gr41 qr41 => ?_)
    have v := v r41 gr41 qr41
    refine r_if_eq (tgt := 48) C dX6_edge_13 (by decide) (fun c42 => ?_) (fun c42 => ?_)
    · have v := v.1 c42
      exact s_sub [0, 1, 2, 3, 4] rfl (B_48 _ _ _ _ _ v)
    · have v := v.2 c42
      refine r_iload_n 3 C dX6_edge_16 rfl ?_
      refine r_iconst C dX6_edge_17 ⟨by decide, by decide⟩ ?_
      refine r_icmp_eq (tgt := 29) C dX6_edge_18 (by decide) (fun c43 => ?_) (fun c43 => ?_)
      · have v := v.1 c43
        exact s_sub [0, 1, 2, 3, 4] rfl (B_29 _ _ _ _ _ v)
      · have v := v.2 c43
        refine r_aload_n 0 C dX6_edge_21 rfl ?_
        refine r_iload_n 3 C dX6_edge_22 rfl ?_
        obtain ⟨o44, v⟩ := v
        refine s_calli0 [a3] [] C dX6_edge_23 ck_X6_83 (r := 30) (fY := 0) (nY := 0) rfl rfl (by decide) (by decide) (Nat.le_of_ble_eq_true rfl) rfl (by rw [hXl]; exact c_X6_isEdge a3 h0 o44) (fun r45 gr45 qr45 => ?_)
        have v := v r45 gr45 qr45
        refine r_if_eq (tgt := 48) C dX6_edge_26 (by decide) (fun c46 => ?_) (fun c46 => ?_)
        · have v := v.1 c46
          exact s_sub [0, 1, 2, 3, 4] rfl (B_48 _ _ _ _ _ v)
        · have v := v.2 c46
          exact s_sub [0, 1, 2, 3, 4] rfl (B_29 _ _ _ _ _ v)

def V_X6_take_35 (P : Int → Hp → Prop) (p_X6_placeOf : Int → Int → Hp → Prop) (q_X6_placeOf : Int → Int → Hp → Int → Prop) (I_35 : Nat → Hp → Int → Int → Prop) (n_35 : Nat) (h : Hp) (x1 : Int) (x3 : Int) : Prop :=
  ((0 : Int) ≤ x1 ∧ (x1 : Int) < 30) ∧ (((h 35 x1) ≤ x3 → P 0 h) ∧ (¬ (h 35 x1) ≤ x3 → InR (30 * x1) ∧ (InR ((30 * x1) + x3) ∧ (InR (30 * x1) ∧ (InR ((30 * x1) + x3) ∧ (InR (((30 * x1) + x3) + 1) ∧ (((0 : Int) ≤ (((30 * x1) + x3) + 1) ∧ ((((30 * x1) + x3) + 1) : Int) < 900) ∧ (((0 : Int) ≤ ((30 * x1) + x3) ∧ (((30 * x1) + x3) : Int) < 900) ∧ (∀ h10 : Hp, h10 = hup h 34 ((30 * x1) + x3) (h 34 (((30 * x1) + x3) + 1)) → (InR (x3 + 1) ∧ (∀ z11 : Int, z11 = x3 + 1 → (∃ n', n' < n_35 ∧ I_35 n' h10 x1 z11))))))))))))
def V_X6_take_34 (P : Int → Hp → Prop) (p_X6_placeOf : Int → Int → Hp → Prop) (q_X6_placeOf : Int → Int → Hp → Int → Prop) (I_35 : Nat → Hp → Int → Int → Prop) (h : Hp) (x1 : Int) (y0 : Int) : Prop :=
  ∀ z13 : Int, z13 = y0 → (∃ n', I_35 n' h x1 z13)
def V_X6_take (P : Int → Hp → Prop) (p_X6_placeOf : Int → Int → Hp → Prop) (q_X6_placeOf : Int → Int → Hp → Int → Prop) (I_35 : Nat → Hp → Int → Int → Prop) (h0 : Hp) (a1 : Int) (a2 : Int) : Prop :=
  ((0 : Int) ≤ a1 ∧ (a1 : Int) < 30) ∧ (InR ((h0 35 a1) - 1) ∧ (((0 : Int) ≤ a1 ∧ (a1 : Int) < 30) ∧ (∀ h17 : Hp, h17 = hup h0 35 a1 ((h0 35 a1) - 1) → (p_X6_placeOf a1 a2 h17 ∧ (∀ r19 : Int, InR r19 → q_X6_placeOf a1 a2 h17 r19 → ((r19 < 0 → ((0 : Int) ≤ a1 ∧ (a1 : Int) < 30) ∧ (V_X6_take_34 P p_X6_placeOf q_X6_placeOf I_35 h17 a1 (h17 35 a1))) ∧ (¬ r19 < 0 → p_X6_placeOf a1 a2 h17 ∧ (∀ r23 : Int, InR r23 → q_X6_placeOf a1 a2 h17 r23 → (V_X6_take_34 P p_X6_placeOf q_X6_placeOf I_35 h17 a1 r23)))))))))
set_option maxHeartbeats 4000000 in
set_option maxRecDepth 100000 in
theorem w_X6_take {l : Launch} (P : Int → Hp → Prop) (p_X6_placeOf : Int → Int → Hp → Prop) (q_X6_placeOf : Int → Int → Hp → Int → Prop) (I_35 : Nat → Hp → Int → Int → Prop) (h0 : Hp) (a1 : Int) (a2 : Int)
    (c_X6_placeOf : ∀ (b1 : Int) (b2 : Int) (h : Hp), p_X6_placeOf b1 b2 h → Ct l yX6_placeOf cX6_placeOf 4 (some .int) 0 0 0 [vr 30, vi b1, vi b2] h [] (fun r _ => q_X6_placeOf b1 b2 h r) (fun _ => False))
    (o_35 : ∀ (n_35 : Nat) (h : Hp) (x1 : Int) (x3 : Int), RH h → Fr [34, 35] h0 h → InR x1 → InR x3 → I_35 n_35 h x1 x3 → V_X6_take_35 P p_X6_placeOf q_X6_placeOf I_35 n_35 h x1 x3)
    (o : RH h0 → InR a1 → InR a2 → V_X6_take P p_X6_placeOf q_X6_placeOf I_35 h0 a1 a2) :
    Ct l yX6_take cX6_take 4 none 1 23 0 [vr 30, vi a1, vi a2] h0 [34, 35] P (fun _ => False) := by
  refine Ct.of (own := RX6) (by decide) rfl (Nat.le_of_ble_eq_true rfl) ?_
  intro X C hXl hXM hXh hXP hXX hXc hXr hav hR0
  have hmain : V_X6_take P p_X6_placeOf q_X6_placeOf I_35 h0 a1 a2 := o hR0 (hav (vi a1) (by simp)) (hav (vi a2) (by simp))
  have B_35 : ∀ (n_35 : Nat) (h : Hp) (x1 : Int) (x3 : Int), I_35 n_35 h x1 x3 → Wh X 35 [(0, vr 30), (1, vi x1), (3, vi x3)] [] h 0 := by
    intro n_35
    induction n_35 using Nat.strongRecOn with
    | _ n_35 ih_35 =>
      intro h x1 x3 hI
      refine s_use fun hR hF hL => ?_
      have v := o_35 n_35 h x1 x3 hR (by rw [hXM, hXh] at hF; exact hF) (hL (1, vi x1) (by simp)) (hL (3, vi x3) (by simp)) hI
      unfold V_X6_take_35 at v
      refine r_iload_n 2 C dX6_take_35 rfl ?_
      refine r_aload_n 0 C dX6_take_36 rfl ?_
      refine gf_X6_23 C dX6_take_37 ?_
      refine r_iload_n 1 C dX6_take_40 rfl ?_
      obtain ⟨o1, v⟩ := v
      refine r_iaload (r := 35) (N := 30) C dX6_take_41 rfl o1 ?_
      refine r_icmp_ge (tgt := 75) C dX6_take_42 (by decide) (fun c2 => ?_) (fun c2 => ?_)
      · have v := v.1 c2
        exact r_return C dX6_take_75 hXr (Nat.zero_le _) (by rw [hXP]; exact v)
      · have v := v.2 c2
        refine r_aload_n 0 C dX6_take_45 rfl ?_
        refine gf_X6_20 C dX6_take_46 ?_
        refine r_bipush C dX6_take_49 ⟨by decide, by decide⟩ (by decide) ?_
        refine r_iload_n 1 C dX6_take_51 rfl ?_
        obtain ⟨o3, v⟩ := v
        refine r_imul C dX6_take_52 o3 ?_
        refine r_iload_n 2 C dX6_take_53 rfl ?_
        obtain ⟨o4, v⟩ := v
        refine r_iadd C dX6_take_54 o4 ?_
        refine r_aload_n 0 C dX6_take_55 rfl ?_
        refine gf_X6_20 C dX6_take_56 ?_
        refine r_bipush C dX6_take_59 ⟨by decide, by decide⟩ (by decide) ?_
        refine r_iload_n 1 C dX6_take_61 rfl ?_
        obtain ⟨o5, v⟩ := v
        refine r_imul C dX6_take_62 o5 ?_
        refine r_iload_n 2 C dX6_take_63 rfl ?_
        obtain ⟨o6, v⟩ := v
        refine r_iadd C dX6_take_64 o6 ?_
        refine r_iconst C dX6_take_65 ⟨by decide, by decide⟩ ?_
        obtain ⟨o7, v⟩ := v
        refine r_iadd C dX6_take_66 o7 ?_
        obtain ⟨o8, v⟩ := v
        refine r_iaload (r := 34) (N := 900) C dX6_take_67 rfl o8 ?_
        obtain ⟨o9, v⟩ := v
        refine s_iastore (r := 34) (N := 900) C dX6_take_68 rfl hXM (by decide) o9 (fun h10 eh10 => ?_)
        have v := v h10 eh10
        obtain ⟨o12, v⟩ := v
        refine s_iinc 2 C dX6_take_69 rfl (by decide) o12 (fun z11 ez11 => ?_)
        have v := v z11 ez11
        show Wh X 72 [(3, vi z11), (0, vr 30), (1, vi x1)] [] h10 0
        refine r_goto (tgt := 35) C dX6_take_72 (by decide) ?_
        obtain ⟨n', hn', hI'⟩ := v
        exact s_sub [1, 2, 0] rfl (ih_35 n' hn' _ _ _ hI')
  have B_34 : ∀ (h : Hp) (x1 : Int) (y0 : Int), V_X6_take_34 P p_X6_placeOf q_X6_placeOf I_35 h x1 y0 → Wh X 34 [(0, vr 30), (1, vi x1)] [vi y0] h 0 := by
    intro h x1 y0 v
    unfold V_X6_take_34 at v
    refine s_istore_n C dX6_take_34 (by decide) (fun z13 ez13 => ?_)
    have v := v z13 ez13
    show Wh X 35 [(3, vi z13), (0, vr 30), (1, vi x1)] [] h 0
    obtain ⟨n', hI'⟩ := v
    exact s_sub [1, 2, 0] rfl (B_35 n' _ _ _ hI')
  show Wh X 0 [(0, vr 30), (1, vi a1), (2, vi a2)] [] h0 0
  have v := hmain
  unfold V_X6_take at v
  refine r_aload_n 0 C dX6_take_0 rfl ?_
  refine gf_X6_23 C dX6_take_1 ?_
  refine r_iload_n 1 C dX6_take_4 rfl ?_
  refine r_dup2 C dX6_take_5 trivial trivial ?_
  obtain ⟨o14, v⟩ := v
  refine r_iaload (r := 35) (N := 30) C dX6_take_6 rfl o14 ?_
  refine r_iconst C dX6_take_7 ⟨by decide, by decide⟩ ?_
  obtain ⟨o15, v⟩ := v
  refine r_isub C dX6_take_8 o15 ?_
  obtain ⟨o16, v⟩ := v
  refine s_iastore (r := 35) (N := 30) C dX6_take_9 rfl hXM (by decide) o16 (fun h17 eh17 => ?_)
  have v := v h17 eh17
  refine r_aload_n 0 C dX6_take_10 rfl ?_
  refine r_iload_n 1 C dX6_take_11 rfl ?_
  refine r_iload_n 2 C dX6_take_12 rfl ?_
  obtain ⟨o18, v⟩ := v
  refine s_calli0 [a1, a2] [] C dX6_take_13 ck_X6_76 (r := 30) (fY := 0) (nY := 0) rfl rfl (by decide) (by decide) (Nat.le_of_ble_eq_true rfl) rfl (by rw [hXl]; exact c_X6_placeOf a1 a2 h17 o18) (fun r19 gr19 qr19 => ?_)
  have v := v r19 gr19 qr19
  refine r_if_lt (tgt := 28) C dX6_take_16 (by decide) (fun c20 => ?_) (fun c20 => ?_)
  · have v := v.1 c20
    refine r_aload_n 0 C dX6_take_28 rfl ?_
    refine gf_X6_23 C dX6_take_29 ?_
    refine r_iload_n 1 C dX6_take_32 rfl ?_
    obtain ⟨o21, v⟩ := v
    refine r_iaload (r := 35) (N := 30) C dX6_take_33 rfl o21 ?_
    exact s_sub [0, 1] rfl (B_34 _ _ _ v)
  · have v := v.2 c20
    refine r_aload_n 0 C dX6_take_19 rfl ?_
    refine r_iload_n 1 C dX6_take_20 rfl ?_
    refine r_iload_n 2 C dX6_take_21 rfl ?_
    obtain ⟨o22, v⟩ := v
    refine s_calli0 [a1, a2] [] C dX6_take_22 ck_X6_76 (r := 30) (fY := 0) (nY := 0) rfl rfl (by decide) (by decide) (Nat.le_of_ble_eq_true rfl) rfl (by rw [hXl]; exact c_X6_placeOf a1 a2 h17 o22) (fun r23 gr23 qr23 => ?_)
    have v := v r23 gr23 qr23
    refine r_goto (tgt := 34) C dX6_take_25 (by decide) ?_
    exact s_sub [0, 1] rfl (B_34 _ _ _ v)

def V_X6_remove_14 (P : Int → Hp → Prop) (p_X6_isEdge : Int → Hp → Prop) (q_X6_isEdge : Int → Hp → Int → Prop) (p_X6_take : Int → Int → Hp → Prop) (q_X6_take : Int → Int → Hp → Hp → Prop) (p_X6_forget : Hp → Prop) (q_X6_forget : Hp → Hp → Prop) (h : Hp) (x1 : Int) (y1 : Int) : Prop :=
  ∀ h1 : Hp, h1 = hup h 30 0 y1 → (((h1 30 0) ≤ 0 → ((0 : Int) ≤ x1 ∧ (x1 : Int) < 100) ∧ (p_X6_take (h1 31 x1) x1 h1 ∧ (∀ h5 : Hp, Fr [34, 35] h1 h5 → RH h5 → q_X6_take (h1 31 x1) x1 h1 h5 → (((0 : Int) ≤ x1 ∧ (x1 : Int) < 100) ∧ (p_X6_take (h5 32 x1) x1 h5 ∧ (∀ h8 : Hp, Fr [34, 35] h5 h8 → RH h8 → q_X6_take (h5 32 x1) x1 h5 h8 → (((0 : Int) ≤ x1 ∧ (x1 : Int) < 100) ∧ (∀ h10 : Hp, h10 = hup h8 33 x1 1 → (InR ((h10 30 3) - 1) ∧ (∀ h12 : Hp, h12 = hup h10 30 3 ((h10 30 3) - 1) → (p_X6_forget h12 ∧ (∀ h14 : Hp, Fr [30, 36] h12 h14 → RH h14 → q_X6_forget h12 h14 → (P (h14 30 3) h14))))))))))))) ∧ (¬ (h1 30 0) ≤ 0 → P 0 h1))
def V_X6_remove (P : Int → Hp → Prop) (p_X6_isEdge : Int → Hp → Prop) (q_X6_isEdge : Int → Hp → Int → Prop) (p_X6_take : Int → Int → Hp → Prop) (q_X6_take : Int → Int → Hp → Hp → Prop) (p_X6_forget : Hp → Prop) (q_X6_forget : Hp → Hp → Prop) (h0 : Hp) (a1 : Int) : Prop :=
  p_X6_isEdge a1 h0 ∧ (∀ r16 : Int, InR r16 → q_X6_isEdge a1 h0 r16 → ((r16 = 0 → V_X6_remove_14 P p_X6_isEdge q_X6_isEdge p_X6_take q_X6_take p_X6_forget q_X6_forget h0 a1 1) ∧ (¬ r16 = 0 → V_X6_remove_14 P p_X6_isEdge q_X6_isEdge p_X6_take q_X6_take p_X6_forget q_X6_forget h0 a1 0)))
set_option maxHeartbeats 4000000 in
set_option maxRecDepth 100000 in
theorem w_X6_remove {l : Launch} (P : Int → Hp → Prop) (p_X6_isEdge : Int → Hp → Prop) (q_X6_isEdge : Int → Hp → Int → Prop) (p_X6_take : Int → Int → Hp → Prop) (q_X6_take : Int → Int → Hp → Hp → Prop) (p_X6_forget : Hp → Prop) (q_X6_forget : Hp → Hp → Prop) (h0 : Hp) (a1 : Int)
    (c_X6_isEdge : ∀ (b1 : Int) (h : Hp), p_X6_isEdge b1 h → Ct l yX6_isEdge cX6_isEdge 2 (some .boolean) 0 0 0 [vr 30, vi b1] h [] (fun r _ => q_X6_isEdge b1 h r) (fun _ => False))
    (c_X6_take : ∀ (b1 : Int) (b2 : Int) (h : Hp), p_X6_take b1 b2 h → Ct l yX6_take cX6_take 4 none 1 23 0 [vr 30, vi b1, vi b2] h [34, 35] (fun _ h1 => q_X6_take b1 b2 h h1) (fun _ => False))
    (c_X6_forget : ∀ (h : Hp), p_X6_forget h → Ct l yX6_forget cX6_forget 2 none 0 0 0 [vr 30] h [30, 36] (fun _ h1 => q_X6_forget h h1) (fun _ => False))
    (o : RH h0 → InR a1 → V_X6_remove P p_X6_isEdge q_X6_isEdge p_X6_take q_X6_take p_X6_forget q_X6_forget h0 a1) :
    Ct l yX6_remove cX6_remove 2 (some .int) 2 46 0 [vr 30, vi a1] h0 [30, 33, 34, 35, 36] P (fun _ => False) := by
  refine Ct.of (own := RX6) (by decide) rfl (Nat.le_of_ble_eq_true rfl) ?_
  intro X C hXl hXM hXh hXP hXX hXc hXr hav hR0
  have hmain : V_X6_remove P p_X6_isEdge q_X6_isEdge p_X6_take q_X6_take p_X6_forget q_X6_forget h0 a1 := o hR0 (hav (vi a1) (by simp))
  have B_14 : ∀ (h : Hp) (x1 : Int) (y1 : Int), V_X6_remove_14 P p_X6_isEdge q_X6_isEdge p_X6_take q_X6_take p_X6_forget q_X6_forget h x1 y1 → Wh X 14 [(0, vr 30), (1, vi x1)] [vi y1, vr 30] h 0 := by
    intro h x1 y1 v
    unfold V_X6_remove_14 at v
    refine pf_X6_59 C dX6_remove_14 hXM (by decide) (fun h1 eh1 => ?_)
    have v := v h1 eh1
    refine r_aload_n 0 C dX6_remove_17 rfl ?_
    refine gf_X6_59 C dX6_remove_18 ?_
    refine r_if_le (tgt := 26) C dX6_remove_21 (by decide) (fun c2 => ?_) (fun c2 => ?_)
    · have v := v.1 c2
      refine r_aload_n 0 C dX6_remove_26 rfl ?_
      refine r_aload_n 0 C dX6_remove_27 rfl ?_
      refine gf_X6_7 C dX6_remove_28 ?_
      refine r_iload_n 1 C dX6_remove_31 rfl ?_
      obtain ⟨o3, v⟩ := v
      refine r_iaload (r := 31) (N := 100) C dX6_remove_32 rfl o3 ?_
      refine r_iload_n 1 C dX6_remove_33 rfl ?_
      obtain ⟨o4, v⟩ := v
      refine s_callv [(h1 31 x1), x1] [] C dX6_remove_34 ck_X6_103 (r := 30) (fY := 1) (nY := 23) rfl rfl (by decide) (by decide) (Nat.le_of_ble_eq_true rfl) rfl (MY := [34, 35]) hXM (by decide) (by rw [hXl]; exact c_X6_take (h1 31 x1) x1 h1 o4) (fun h5 fh5 kh5 qh5 => ?_)
      have v := v h5 fh5 kh5 qh5
      refine r_aload_n 0 C dX6_remove_37 rfl ?_
      refine r_aload_n 0 C dX6_remove_38 rfl ?_
      refine gf_X6_13 C dX6_remove_39 ?_
      refine r_iload_n 1 C dX6_remove_42 rfl ?_
      obtain ⟨o6, v⟩ := v
      refine r_iaload (r := 32) (N := 100) C dX6_remove_43 rfl o6 ?_
      refine r_iload_n 1 C dX6_remove_44 rfl ?_
      obtain ⟨o7, v⟩ := v
      refine s_callv [(h5 32 x1), x1] [] C dX6_remove_45 ck_X6_103 (r := 30) (fY := 1) (nY := 23) rfl rfl (by decide) (by decide) (Nat.le_of_ble_eq_true rfl) rfl (MY := [34, 35]) hXM (by decide) (by rw [hXl]; exact c_X6_take (h5 32 x1) x1 h5 o7) (fun h8 fh8 kh8 qh8 => ?_)
      have v := v h8 fh8 kh8 qh8
      refine r_aload_n 0 C dX6_remove_48 rfl ?_
      refine gf_X6_16 C dX6_remove_49 ?_
      refine r_iload_n 1 C dX6_remove_52 rfl ?_
      refine r_iconst C dX6_remove_53 ⟨by decide, by decide⟩ ?_
      obtain ⟨o9, v⟩ := v
      refine s_bastore (r := 33) (N := 100) C dX6_remove_54 rfl hXM (by decide) o9 (by decide) (fun h10 eh10 => ?_)
      have v := v h10 eh10
      refine r_aload_n 0 C dX6_remove_55 rfl ?_
      refine r_dup C dX6_remove_56 trivial ?_
      refine gf_X6_97 C dX6_remove_57 ?_
      refine r_iconst C dX6_remove_60 ⟨by decide, by decide⟩ ?_
      obtain ⟨o11, v⟩ := v
      refine r_isub C dX6_remove_61 o11 ?_
      refine pf_X6_97 C dX6_remove_62 hXM (by decide) (fun h12 eh12 => ?_)
      have v := v h12 eh12
      refine r_aload_n 0 C dX6_remove_65 rfl ?_
      obtain ⟨o13, v⟩ := v
      refine s_callv [] [] C dX6_remove_66 ck_X6_100 (r := 30) (fY := 0) (nY := 0) rfl rfl (by decide) (by decide) (Nat.le_of_ble_eq_true rfl) rfl (MY := [30, 36]) hXM (by decide) (by rw [hXl]; exact c_X6_forget h12 o13) (fun h14 fh14 kh14 qh14 => ?_)
      have v := v h14 fh14 kh14 qh14
      refine r_aload_n 0 C dX6_remove_69 rfl ?_
      refine gf_X6_97 C dX6_remove_70 ?_
      exact r_ireturn C dX6_remove_73 hXr (Nat.zero_le _) (by rw [hXP]; exact v)
    · have v := v.2 c2
      refine r_iconst C dX6_remove_24 ⟨by decide, by decide⟩ ?_
      exact r_ireturn C dX6_remove_25 hXr (Nat.zero_le _) (by rw [hXP]; exact v)
  show Wh X 0 [(0, vr 30), (1, vi a1)] [] h0 0
  have v := hmain
  unfold V_X6_remove at v
  refine r_aload_n 0 C dX6_remove_0 rfl ?_
  refine r_aload_n 0 C dX6_remove_1 rfl ?_
  refine r_iload_n 1 C dX6_remove_2 rfl ?_
  obtain ⟨o15, v⟩ := v
  refine s_calli0 [a1] [vr 30] C dX6_remove_3 ck_X6_83 (r := 30) (fY := 0) (nY := 0) rfl rfl (by decide) (by decide) (Nat.le_of_ble_eq_true rfl) rfl (by rw [hXl]; exact c_X6_isEdge a1 h0 o15) (fun r16 gr16 qr16 => ?_)
  have v := v r16 gr16 qr16
  refine r_if_eq (tgt := 13) C dX6_remove_6 (by decide) (fun c17 => ?_) (fun c17 => ?_)
  · have v := v.1 c17
    refine r_iconst C dX6_remove_13 ⟨by decide, by decide⟩ ?_
    exact s_sub [0, 1] rfl (B_14 _ _ _ v)
  · have v := v.2 c17
    refine r_iconst C dX6_remove_9 ⟨by decide, by decide⟩ ?_
    refine r_goto (tgt := 14) C dX6_remove_10 (by decide) ?_
    exact s_sub [0, 1] rfl (B_14 _ _ _ v)

def V_X6_degree_34 (P : Int → Hp → Prop) (p_X6_isVertex : Int → Hp → Prop) (q_X6_isVertex : Int → Hp → Int → Prop) (h : Hp) (y0 : Int) : Prop :=
  P y0 h
def V_X6_degree_14 (P : Int → Hp → Prop) (p_X6_isVertex : Int → Hp → Prop) (q_X6_isVertex : Int → Hp → Int → Prop) (h : Hp) (x1 : Int) (y1 : Int) : Prop :=
  ∀ h1 : Hp, h1 = hup h 30 0 y1 → (((h1 30 0) ≤ 0 → ((0 : Int) ≤ x1 ∧ (x1 : Int) < 30) ∧ (V_X6_degree_34 P p_X6_isVertex q_X6_isVertex h1 (h1 35 x1))) ∧ (¬ (h1 30 0) ≤ 0 → V_X6_degree_34 P p_X6_isVertex q_X6_isVertex h1 0))
def V_X6_degree (P : Int → Hp → Prop) (p_X6_isVertex : Int → Hp → Prop) (q_X6_isVertex : Int → Hp → Int → Prop) (h0 : Hp) (a1 : Int) : Prop :=
  p_X6_isVertex a1 h0 ∧ (∀ r5 : Int, InR r5 → q_X6_isVertex a1 h0 r5 → ((r5 = 0 → V_X6_degree_14 P p_X6_isVertex q_X6_isVertex h0 a1 1) ∧ (¬ r5 = 0 → V_X6_degree_14 P p_X6_isVertex q_X6_isVertex h0 a1 0)))
set_option maxHeartbeats 4000000 in
set_option maxRecDepth 100000 in
theorem w_X6_degree {l : Launch} (P : Int → Hp → Prop) (p_X6_isVertex : Int → Hp → Prop) (q_X6_isVertex : Int → Hp → Int → Prop) (h0 : Hp) (a1 : Int)
    (c_X6_isVertex : ∀ (b1 : Int) (h : Hp), p_X6_isVertex b1 h → Ct l yX6_isVertex cX6_isVertex 2 (some .boolean) 0 0 0 [vr 30, vi b1] h [] (fun r _ => q_X6_isVertex b1 h r) (fun _ => False))
    (o : RH h0 → InR a1 → V_X6_degree P p_X6_isVertex q_X6_isVertex h0 a1) :
    Ct l yX6_degree cX6_degree 2 (some .int) 1 21 0 [vr 30, vi a1] h0 [30] P (fun _ => False) := by
  refine Ct.of (own := RX6) (by decide) rfl (Nat.le_of_ble_eq_true rfl) ?_
  intro X C hXl hXM hXh hXP hXX hXc hXr hav hR0
  have hmain : V_X6_degree P p_X6_isVertex q_X6_isVertex h0 a1 := o hR0 (hav (vi a1) (by simp))
  have B_34 : ∀ (h : Hp) (y0 : Int), V_X6_degree_34 P p_X6_isVertex q_X6_isVertex h y0 → Wh X 34 [(0, vr 30)] [vi y0] h 0 := by
    intro h y0 v
    unfold V_X6_degree_34 at v
    exact r_ireturn C dX6_degree_34 hXr (Nat.zero_le _) (by rw [hXP]; exact v)
  have B_14 : ∀ (h : Hp) (x1 : Int) (y1 : Int), V_X6_degree_14 P p_X6_isVertex q_X6_isVertex h x1 y1 → Wh X 14 [(0, vr 30), (1, vi x1)] [vi y1, vr 30] h 0 := by
    intro h x1 y1 v
    unfold V_X6_degree_14 at v
    refine pf_X6_59 C dX6_degree_14 hXM (by decide) (fun h1 eh1 => ?_)
    have v := v h1 eh1
    refine r_aload_n 0 C dX6_degree_17 rfl ?_
    refine gf_X6_59 C dX6_degree_18 ?_
    refine r_if_le (tgt := 28) C dX6_degree_21 (by decide) (fun c2 => ?_) (fun c2 => ?_)
    · have v := v.1 c2
      refine r_aload_n 0 C dX6_degree_28 rfl ?_
      refine gf_X6_23 C dX6_degree_29 ?_
      refine r_iload_n 1 C dX6_degree_32 rfl ?_
      obtain ⟨o3, v⟩ := v
      refine r_iaload (r := 35) (N := 30) C dX6_degree_33 rfl o3 ?_
      exact s_sub [0] rfl (B_34 _ _ v)
    · have v := v.2 c2
      refine r_iconst C dX6_degree_24 ⟨by decide, by decide⟩ ?_
      refine r_goto (tgt := 34) C dX6_degree_25 (by decide) ?_
      exact s_sub [0] rfl (B_34 _ _ v)
  show Wh X 0 [(0, vr 30), (1, vi a1)] [] h0 0
  have v := hmain
  unfold V_X6_degree at v
  refine r_aload_n 0 C dX6_degree_0 rfl ?_
  refine r_aload_n 0 C dX6_degree_1 rfl ?_
  refine r_iload_n 1 C dX6_degree_2 rfl ?_
  obtain ⟨o4, v⟩ := v
  refine s_calli0 [a1] [vr 30] C dX6_degree_3 ck_X6_79 (r := 30) (fY := 0) (nY := 0) rfl rfl (by decide) (by decide) (Nat.le_of_ble_eq_true rfl) rfl (by rw [hXl]; exact c_X6_isVertex a1 h0 o4) (fun r5 gr5 qr5 => ?_)
  have v := v r5 gr5 qr5
  refine r_if_eq (tgt := 13) C dX6_degree_6 (by decide) (fun c6 => ?_) (fun c6 => ?_)
  · have v := v.1 c6
    refine r_iconst C dX6_degree_13 ⟨by decide, by decide⟩ ?_
    exact s_sub [0, 1] rfl (B_14 _ _ _ v)
  · have v := v.2 c6
    refine r_iconst C dX6_degree_9 ⟨by decide, by decide⟩ ?_
    refine r_goto (tgt := 14) C dX6_degree_10 (by decide) ?_
    exact s_sub [0, 1] rfl (B_14 _ _ _ v)

def V_X6_round_53 (P : Int → Hp → Prop) (p_X6_isVertex : Int → Hp → Prop) (q_X6_isVertex : Int → Hp → Int → Prop) (h : Hp) (y0 : Int) : Prop :=
  P y0 h
def V_X6_round_28 (P : Int → Hp → Prop) (p_X6_isVertex : Int → Hp → Prop) (q_X6_isVertex : Int → Hp → Int → Prop) (h : Hp) (x1 : Int) (x2 : Int) (y1 : Int) : Prop :=
  ∀ h1 : Hp, h1 = hup h 30 0 y1 → (((h1 30 0) ≤ 0 → InR (30 * x1) ∧ (InR ((30 * x1) + x2) ∧ (((0 : Int) ≤ ((30 * x1) + x2) ∧ (((30 * x1) + x2) : Int) < 900) ∧ (V_X6_round_53 P p_X6_isVertex q_X6_isVertex h1 (h1 34 ((30 * x1) + x2)))))) ∧ (¬ (h1 30 0) ≤ 0 → V_X6_round_53 P p_X6_isVertex q_X6_isVertex h1 0))
def V_X6_round_27 (P : Int → Hp → Prop) (p_X6_isVertex : Int → Hp → Prop) (q_X6_isVertex : Int → Hp → Int → Prop) (h : Hp) (x1 : Int) (x2 : Int) : Prop :=
  V_X6_round_28 P p_X6_isVertex q_X6_isVertex h x1 x2 1
def V_X6_round (P : Int → Hp → Prop) (p_X6_isVertex : Int → Hp → Prop) (q_X6_isVertex : Int → Hp → Int → Prop) (h0 : Hp) (a1 : Int) (a2 : Int) : Prop :=
  p_X6_isVertex a1 h0 ∧ (∀ r7 : Int, InR r7 → q_X6_isVertex a1 h0 r7 → ((r7 = 0 → V_X6_round_27 P p_X6_isVertex q_X6_isVertex h0 a1 a2) ∧ (¬ r7 = 0 → (a2 < 0 → V_X6_round_27 P p_X6_isVertex q_X6_isVertex h0 a1 a2) ∧ (¬ a2 < 0 → ((0 : Int) ≤ a1 ∧ (a1 : Int) < 30) ∧ (((h0 35 a1) ≤ a2 → V_X6_round_27 P p_X6_isVertex q_X6_isVertex h0 a1 a2) ∧ (¬ (h0 35 a1) ≤ a2 → V_X6_round_28 P p_X6_isVertex q_X6_isVertex h0 a1 a2 0))))))
set_option maxHeartbeats 4000000 in
set_option maxRecDepth 100000 in
theorem w_X6_round {l : Launch} (P : Int → Hp → Prop) (p_X6_isVertex : Int → Hp → Prop) (q_X6_isVertex : Int → Hp → Int → Prop) (h0 : Hp) (a1 : Int) (a2 : Int)
    (c_X6_isVertex : ∀ (b1 : Int) (h : Hp), p_X6_isVertex b1 h → Ct l yX6_isVertex cX6_isVertex 2 (some .boolean) 0 0 0 [vr 30, vi b1] h [] (fun r _ => q_X6_isVertex b1 h r) (fun _ => False))
    (o : RH h0 → InR a1 → InR a2 → V_X6_round P p_X6_isVertex q_X6_isVertex h0 a1 a2) :
    Ct l yX6_round cX6_round 3 (some .int) 1 21 0 [vr 30, vi a1, vi a2] h0 [30] P (fun _ => False) := by
  refine Ct.of (own := RX6) (by decide) rfl (Nat.le_of_ble_eq_true rfl) ?_
  intro X C hXl hXM hXh hXP hXX hXc hXr hav hR0
  have hmain : V_X6_round P p_X6_isVertex q_X6_isVertex h0 a1 a2 := o hR0 (hav (vi a1) (by simp)) (hav (vi a2) (by simp))
  have B_53 : ∀ (h : Hp) (y0 : Int), V_X6_round_53 P p_X6_isVertex q_X6_isVertex h y0 → Wh X 53 [(0, vr 30)] [vi y0] h 0 := by
    intro h y0 v
    unfold V_X6_round_53 at v
    exact r_ireturn C dX6_round_53 hXr (Nat.zero_le _) (by rw [hXP]; exact v)
  have B_28 : ∀ (h : Hp) (x1 : Int) (x2 : Int) (y1 : Int), V_X6_round_28 P p_X6_isVertex q_X6_isVertex h x1 x2 y1 → Wh X 28 [(0, vr 30), (1, vi x1), (2, vi x2)] [vi y1, vr 30] h 0 := by
    intro h x1 x2 y1 v
    unfold V_X6_round_28 at v
    refine pf_X6_59 C dX6_round_28 hXM (by decide) (fun h1 eh1 => ?_)
    have v := v h1 eh1
    refine r_aload_n 0 C dX6_round_31 rfl ?_
    refine gf_X6_59 C dX6_round_32 ?_
    refine r_if_le (tgt := 42) C dX6_round_35 (by decide) (fun c2 => ?_) (fun c2 => ?_)
    · have v := v.1 c2
      refine r_aload_n 0 C dX6_round_42 rfl ?_
      refine gf_X6_20 C dX6_round_43 ?_
      refine r_bipush C dX6_round_46 ⟨by decide, by decide⟩ (by decide) ?_
      refine r_iload_n 1 C dX6_round_48 rfl ?_
      obtain ⟨o3, v⟩ := v
      refine r_imul C dX6_round_49 o3 ?_
      refine r_iload_n 2 C dX6_round_50 rfl ?_
      obtain ⟨o4, v⟩ := v
      refine r_iadd C dX6_round_51 o4 ?_
      obtain ⟨o5, v⟩ := v
      refine r_iaload (r := 34) (N := 900) C dX6_round_52 rfl o5 ?_
      exact s_sub [0] rfl (B_53 _ _ v)
    · have v := v.2 c2
      refine r_iconst C dX6_round_38 ⟨by decide, by decide⟩ ?_
      refine r_goto (tgt := 53) C dX6_round_39 (by decide) ?_
      exact s_sub [0] rfl (B_53 _ _ v)
  have B_27 : ∀ (h : Hp) (x1 : Int) (x2 : Int), V_X6_round_27 P p_X6_isVertex q_X6_isVertex h x1 x2 → Wh X 27 [(0, vr 30), (1, vi x1), (2, vi x2)] [vr 30] h 0 := by
    intro h x1 x2 v
    unfold V_X6_round_27 at v
    refine r_iconst C dX6_round_27 ⟨by decide, by decide⟩ ?_
    exact s_sub [0, 1, 2] rfl (B_28 _ _ _ _ v)
  show Wh X 0 [(0, vr 30), (1, vi a1), (2, vi a2)] [] h0 0
  have v := hmain
  unfold V_X6_round at v
  refine r_aload_n 0 C dX6_round_0 rfl ?_
  refine r_aload_n 0 C dX6_round_1 rfl ?_
  refine r_iload_n 1 C dX6_round_2 rfl ?_
  obtain ⟨o6, v⟩ := v
  refine s_calli0 [a1] [vr 30] C dX6_round_3 ck_X6_79 (r := 30) (fY := 0) (nY := 0) rfl rfl (by decide) (by decide) (Nat.le_of_ble_eq_true rfl) rfl (by rw [hXl]; exact c_X6_isVertex a1 h0 o6) (fun r7 gr7 qr7 => ?_)
  have v := v r7 gr7 qr7
  refine r_if_eq (tgt := 27) C dX6_round_6 (by decide) (fun c8 => ?_) (fun c8 => ?_)
  · have v := v.1 c8
    exact s_sub [0, 1, 2] rfl (B_27 _ _ _ v)
  · have v := v.2 c8
    refine r_iload_n 2 C dX6_round_9 rfl ?_
    refine r_if_lt (tgt := 27) C dX6_round_10 (by decide) (fun c9 => ?_) (fun c9 => ?_)
    · have v := v.1 c9
      exact s_sub [0, 1, 2] rfl (B_27 _ _ _ v)
    · have v := v.2 c9
      refine r_iload_n 2 C dX6_round_13 rfl ?_
      refine r_aload_n 0 C dX6_round_14 rfl ?_
      refine gf_X6_23 C dX6_round_15 ?_
      refine r_iload_n 1 C dX6_round_18 rfl ?_
      obtain ⟨o10, v⟩ := v
      refine r_iaload (r := 35) (N := 30) C dX6_round_19 rfl o10 ?_
      refine r_icmp_ge (tgt := 27) C dX6_round_20 (by decide) (fun c11 => ?_) (fun c11 => ?_)
      · have v := v.1 c11
        exact s_sub [0, 1, 2] rfl (B_27 _ _ _ v)
      · have v := v.2 c11
        refine r_iconst C dX6_round_23 ⟨by decide, by decide⟩ ?_
        refine r_goto (tgt := 28) C dX6_round_24 (by decide) ?_
        exact s_sub [0, 1, 2] rfl (B_28 _ _ _ _ v)

def V_X6_end_47 (P : Int → Hp → Prop) (p_X6_isEdge : Int → Hp → Prop) (q_X6_isEdge : Int → Hp → Int → Prop) (h : Hp) (y0 : Int) : Prop :=
  P y0 h
def V_X6_end_14 (P : Int → Hp → Prop) (p_X6_isEdge : Int → Hp → Prop) (q_X6_isEdge : Int → Hp → Int → Prop) (h : Hp) (x1 : Int) (x2 : Int) (y1 : Int) : Prop :=
  ∀ h1 : Hp, h1 = hup h 30 0 y1 → (((h1 30 0) ≤ 0 → (x2 = 0 → ((0 : Int) ≤ x1 ∧ (x1 : Int) < 100) ∧ (V_X6_end_47 P p_X6_isEdge q_X6_isEdge h1 (h1 31 x1))) ∧ (¬ x2 = 0 → ((0 : Int) ≤ x1 ∧ (x1 : Int) < 100) ∧ (V_X6_end_47 P p_X6_isEdge q_X6_isEdge h1 (h1 32 x1)))) ∧ (¬ (h1 30 0) ≤ 0 → V_X6_end_47 P p_X6_isEdge q_X6_isEdge h1 0))
def V_X6_end (P : Int → Hp → Prop) (p_X6_isEdge : Int → Hp → Prop) (q_X6_isEdge : Int → Hp → Int → Prop) (h0 : Hp) (a1 : Int) (a2 : Int) : Prop :=
  p_X6_isEdge a1 h0 ∧ (∀ r7 : Int, InR r7 → q_X6_isEdge a1 h0 r7 → ((r7 = 0 → V_X6_end_14 P p_X6_isEdge q_X6_isEdge h0 a1 a2 1) ∧ (¬ r7 = 0 → V_X6_end_14 P p_X6_isEdge q_X6_isEdge h0 a1 a2 0)))
set_option maxHeartbeats 4000000 in
set_option maxRecDepth 100000 in
theorem w_X6_end {l : Launch} (P : Int → Hp → Prop) (p_X6_isEdge : Int → Hp → Prop) (q_X6_isEdge : Int → Hp → Int → Prop) (h0 : Hp) (a1 : Int) (a2 : Int)
    (c_X6_isEdge : ∀ (b1 : Int) (h : Hp), p_X6_isEdge b1 h → Ct l yX6_isEdge cX6_isEdge 2 (some .boolean) 0 0 0 [vr 30, vi b1] h [] (fun r _ => q_X6_isEdge b1 h r) (fun _ => False))
    (o : RH h0 → InR a1 → InR a2 → V_X6_end P p_X6_isEdge q_X6_isEdge h0 a1 a2) :
    Ct l yX6_end cX6_end 3 (some .int) 1 21 0 [vr 30, vi a1, vi a2] h0 [30] P (fun _ => False) := by
  refine Ct.of (own := RX6) (by decide) rfl (Nat.le_of_ble_eq_true rfl) ?_
  intro X C hXl hXM hXh hXP hXX hXc hXr hav hR0
  have hmain : V_X6_end P p_X6_isEdge q_X6_isEdge h0 a1 a2 := o hR0 (hav (vi a1) (by simp)) (hav (vi a2) (by simp))
  have B_47 : ∀ (h : Hp) (y0 : Int), V_X6_end_47 P p_X6_isEdge q_X6_isEdge h y0 → Wh X 47 [(0, vr 30)] [vi y0] h 0 := by
    intro h y0 v
    unfold V_X6_end_47 at v
    exact r_ireturn C dX6_end_47 hXr (Nat.zero_le _) (by rw [hXP]; exact v)
  have B_14 : ∀ (h : Hp) (x1 : Int) (x2 : Int) (y1 : Int), V_X6_end_14 P p_X6_isEdge q_X6_isEdge h x1 x2 y1 → Wh X 14 [(0, vr 30), (1, vi x1), (2, vi x2)] [vi y1, vr 30] h 0 := by
    intro h x1 x2 y1 v
    unfold V_X6_end_14 at v
    refine pf_X6_59 C dX6_end_14 hXM (by decide) (fun h1 eh1 => ?_)
    have v := v h1 eh1
    refine r_aload_n 0 C dX6_end_17 rfl ?_
    refine gf_X6_59 C dX6_end_18 ?_
    refine r_if_le (tgt := 28) C dX6_end_21 (by decide) (fun c2 => ?_) (fun c2 => ?_)
    · have v := v.1 c2
      refine r_iload_n 2 C dX6_end_28 rfl ?_
      refine r_if_eq (tgt := 41) C dX6_end_29 (by decide) (fun c3 => ?_) (fun c3 => ?_)
      · have v := v.1 c3
        refine r_aload_n 0 C dX6_end_41 rfl ?_
        refine gf_X6_7 C dX6_end_42 ?_
        refine r_iload_n 1 C dX6_end_45 rfl ?_
        obtain ⟨o4, v⟩ := v
        refine r_iaload (r := 31) (N := 100) C dX6_end_46 rfl o4 ?_
        exact s_sub [0] rfl (B_47 _ _ v)
      · have v := v.2 c3
        refine r_aload_n 0 C dX6_end_32 rfl ?_
        refine gf_X6_13 C dX6_end_33 ?_
        refine r_iload_n 1 C dX6_end_36 rfl ?_
        obtain ⟨o5, v⟩ := v
        refine r_iaload (r := 32) (N := 100) C dX6_end_37 rfl o5 ?_
        refine r_goto (tgt := 47) C dX6_end_38 (by decide) ?_
        exact s_sub [0] rfl (B_47 _ _ v)
    · have v := v.2 c2
      refine r_iconst C dX6_end_24 ⟨by decide, by decide⟩ ?_
      refine r_goto (tgt := 47) C dX6_end_25 (by decide) ?_
      exact s_sub [0] rfl (B_47 _ _ v)
  show Wh X 0 [(0, vr 30), (1, vi a1), (2, vi a2)] [] h0 0
  have v := hmain
  unfold V_X6_end at v
  refine r_aload_n 0 C dX6_end_0 rfl ?_
  refine r_aload_n 0 C dX6_end_1 rfl ?_
  refine r_iload_n 1 C dX6_end_2 rfl ?_
  obtain ⟨o6, v⟩ := v
  refine s_calli0 [a1] [vr 30] C dX6_end_3 ck_X6_83 (r := 30) (fY := 0) (nY := 0) rfl rfl (by decide) (by decide) (Nat.le_of_ble_eq_true rfl) rfl (by rw [hXl]; exact c_X6_isEdge a1 h0 o6) (fun r7 gr7 qr7 => ?_)
  have v := v r7 gr7 qr7
  refine r_if_eq (tgt := 13) C dX6_end_6 (by decide) (fun c8 => ?_) (fun c8 => ?_)
  · have v := v.1 c8
    refine r_iconst C dX6_end_13 ⟨by decide, by decide⟩ ?_
    exact s_sub [0, 1, 2] rfl (B_14 _ _ _ _ v)
  · have v := v.2 c8
    refine r_iconst C dX6_end_9 ⟨by decide, by decide⟩ ?_
    refine r_goto (tgt := 14) C dX6_end_10 (by decide) ?_
    exact s_sub [0, 1, 2] rfl (B_14 _ _ _ _ v)

def V_X6_origin_25 (P : Int → Hp → Prop) (h : Hp) (y0 : Int) : Prop :=
  P y0 h
def V_X6_origin (P : Int → Hp → Prop) (h0 : Hp) (a1 : Int) : Prop :=
  ((0 : Int) < 2 ∧ InR (a1.tmod 2)) ∧ ((¬ (a1.tmod 2) = 0 → ((0 : Int) < 2 ∧ InR (a1.tdiv 2)) ∧ (((0 : Int) ≤ (a1.tdiv 2) ∧ ((a1.tdiv 2) : Int) < 100) ∧ (V_X6_origin_25 P h0 (h0 32 (a1.tdiv 2))))) ∧ ((a1.tmod 2) = 0 → ((0 : Int) < 2 ∧ InR (a1.tdiv 2)) ∧ (((0 : Int) ≤ (a1.tdiv 2) ∧ ((a1.tdiv 2) : Int) < 100) ∧ (V_X6_origin_25 P h0 (h0 31 (a1.tdiv 2))))))
set_option maxHeartbeats 4000000 in
set_option maxRecDepth 100000 in
theorem w_X6_origin {l : Launch} (P : Int → Hp → Prop) (h0 : Hp) (a1 : Int)
    (o : RH h0 → InR a1 → V_X6_origin P h0 a1) :
    Ct l yX6_origin cX6_origin 2 (some .int) 0 0 0 [vr 30, vi a1] h0 [] P (fun _ => False) := by
  refine Ct.of (own := RX6) (by decide) rfl (Nat.le_of_ble_eq_true rfl) ?_
  intro X C hXl hXM hXh hXP hXX hXc hXr hav hR0
  have hmain : V_X6_origin P h0 a1 := o hR0 (hav (vi a1) (by simp))
  have B_25 : ∀ (h : Hp) (y0 : Int), V_X6_origin_25 P h y0 → Wh X 25 [(0, vr 30)] [vi y0] h 0 := by
    intro h y0 v
    unfold V_X6_origin_25 at v
    exact r_ireturn C dX6_origin_25 hXr (Nat.zero_le _) (by rw [hXP]; exact v)
  show Wh X 0 [(0, vr 30), (1, vi a1)] [] h0 0
  have v := hmain
  unfold V_X6_origin at v
  refine r_iload_n 1 C dX6_origin_0 rfl ?_
  refine r_iconst C dX6_origin_1 ⟨by decide, by decide⟩ ?_
  obtain ⟨o1, v⟩ := v
  refine r_irem C dX6_origin_2 o1 ?_
  refine r_if_ne (tgt := 17) C dX6_origin_3 (by decide) (fun c2 => ?_) (fun c2 => ?_)
  · have v := v.1 c2
    refine r_aload_n 0 C dX6_origin_17 rfl ?_
    refine gf_X6_13 C dX6_origin_18 ?_
    refine r_iload_n 1 C dX6_origin_21 rfl ?_
    refine r_iconst C dX6_origin_22 ⟨by decide, by decide⟩ ?_
    obtain ⟨o3, v⟩ := v
    refine r_idiv C dX6_origin_23 o3 ?_
    obtain ⟨o4, v⟩ := v
    refine r_iaload (r := 32) (N := 100) C dX6_origin_24 rfl o4 ?_
    exact s_sub [0] rfl (B_25 _ _ v)
  · have v := v.2 c2
    refine r_aload_n 0 C dX6_origin_6 rfl ?_
    refine gf_X6_7 C dX6_origin_7 ?_
    refine r_iload_n 1 C dX6_origin_10 rfl ?_
    refine r_iconst C dX6_origin_11 ⟨by decide, by decide⟩ ?_
    obtain ⟨o5, v⟩ := v
    refine r_idiv C dX6_origin_12 o5 ?_
    obtain ⟨o6, v⟩ := v
    refine r_iaload (r := 31) (N := 100) C dX6_origin_13 rfl o6 ?_
    refine r_goto (tgt := 25) C dX6_origin_14 (by decide) ?_
    exact s_sub [0] rfl (B_25 _ _ v)

def V_X6_nextSide_70 (P : Int → Hp → Prop) (p_X6_origin : Int → Hp → Prop) (q_X6_origin : Int → Hp → Int → Prop) (p_X6_placeOf : Int → Int → Hp → Prop) (q_X6_placeOf : Int → Int → Hp → Int → Prop) (h : Hp) (y0 : Int) : Prop :=
  P y0 h
def V_X6_nextSide_42 (P : Int → Hp → Prop) (p_X6_origin : Int → Hp → Prop) (q_X6_origin : Int → Hp → Int → Prop) (p_X6_placeOf : Int → Int → Hp → Prop) (q_X6_placeOf : Int → Int → Hp → Int → Prop) (h : Hp) (x2 : Int) (y1 : Int) (y2 : Int) : Prop :=
  InR (y1 + y2) ∧ (((0 : Int) ≤ (y1 + y2) ∧ ((y1 + y2) : Int) < 900) ∧ (∀ z3 : Int, z3 = (h 34 (y1 + y2)) → (((0 : Int) ≤ z3 ∧ (z3 : Int) < 100) ∧ ((¬ (h 31 z3) = x2 → InR (2 * z3) ∧ (InR ((2 * z3) + 1) ∧ (V_X6_nextSide_70 P p_X6_origin q_X6_origin p_X6_placeOf q_X6_placeOf h ((2 * z3) + 1)))) ∧ ((h 31 z3) = x2 → InR (2 * z3) ∧ (V_X6_nextSide_70 P p_X6_origin q_X6_origin p_X6_placeOf q_X6_placeOf h (2 * z3)))))))
def V_X6_nextSide (P : Int → Hp → Prop) (p_X6_origin : Int → Hp → Prop) (q_X6_origin : Int → Hp → Int → Prop) (p_X6_placeOf : Int → Int → Hp → Prop) (q_X6_placeOf : Int → Int → Hp → Int → Prop) (h0 : Hp) (a1 : Int) : Prop :=
  p_X6_origin (jxor a1 1) h0 ∧ (∀ r10 : Int, InR r10 → q_X6_origin (jxor a1 1) h0 r10 → (∀ z11 : Int, z11 = r10 → (((0 : Int) < 2 ∧ InR (a1.tdiv 2)) ∧ (p_X6_placeOf z11 (a1.tdiv 2) h0 ∧ (∀ r14 : Int, InR r14 → q_X6_placeOf z11 (a1.tdiv 2) h0 r14 → (InR (r14 + 1) ∧ (∀ z16 : Int, z16 = (r14 + 1) → (InR (30 * z11) ∧ (((0 : Int) ≤ z11 ∧ (z11 : Int) < 30) ∧ ((¬ z16 = (h0 35 z11) → V_X6_nextSide_42 P p_X6_origin q_X6_origin p_X6_placeOf q_X6_placeOf h0 z11 (30 * z11) z16) ∧ (z16 = (h0 35 z11) → V_X6_nextSide_42 P p_X6_origin q_X6_origin p_X6_placeOf q_X6_placeOf h0 z11 (30 * z11) 0)))))))))))
set_option maxHeartbeats 4000000 in
set_option maxRecDepth 100000 in
theorem w_X6_nextSide {l : Launch} (P : Int → Hp → Prop) (p_X6_origin : Int → Hp → Prop) (q_X6_origin : Int → Hp → Int → Prop) (p_X6_placeOf : Int → Int → Hp → Prop) (q_X6_placeOf : Int → Int → Hp → Int → Prop) (h0 : Hp) (a1 : Int)
    (c_X6_origin : ∀ (b1 : Int) (h : Hp), p_X6_origin b1 h → Ct l yX6_origin cX6_origin 2 (some .int) 0 0 0 [vr 30, vi b1] h [] (fun r _ => q_X6_origin b1 h r) (fun _ => False))
    (c_X6_placeOf : ∀ (b1 : Int) (b2 : Int) (h : Hp), p_X6_placeOf b1 b2 h → Ct l yX6_placeOf cX6_placeOf 4 (some .int) 0 0 0 [vr 30, vi b1, vi b2] h [] (fun r _ => q_X6_placeOf b1 b2 h r) (fun _ => False))
    (o : RH h0 → InR a1 → V_X6_nextSide P p_X6_origin q_X6_origin p_X6_placeOf q_X6_placeOf h0 a1) :
    Ct l yX6_nextSide cX6_nextSide 5 (some .int) 1 23 0 [vr 30, vi a1] h0 [] P (fun _ => False) := by
  refine Ct.of (own := RX6) (by decide) rfl (Nat.le_of_ble_eq_true rfl) ?_
  intro X C hXl hXM hXh hXP hXX hXc hXr hav hR0
  have hmain : V_X6_nextSide P p_X6_origin q_X6_origin p_X6_placeOf q_X6_placeOf h0 a1 := o hR0 (hav (vi a1) (by simp))
  have B_70 : ∀ (h : Hp) (y0 : Int), V_X6_nextSide_70 P p_X6_origin q_X6_origin p_X6_placeOf q_X6_placeOf h y0 → Wh X 70 [(0, vr 30)] [vi y0] h 0 := by
    intro h y0 v
    unfold V_X6_nextSide_70 at v
    exact r_ireturn C dX6_nextSide_70 hXr (Nat.zero_le _) (by rw [hXP]; exact v)
  have B_42 : ∀ (h : Hp) (x2 : Int) (y1 : Int) (y2 : Int), V_X6_nextSide_42 P p_X6_origin q_X6_origin p_X6_placeOf q_X6_placeOf h x2 y1 y2 → Wh X 42 [(0, vr 30), (2, vi x2)] [vi y2, vi y1, vr 34] h 0 := by
    intro h x2 y1 y2 v
    unfold V_X6_nextSide_42 at v
    obtain ⟨o1, v⟩ := v
    refine r_iadd C dX6_nextSide_42 o1 ?_
    obtain ⟨o2, v⟩ := v
    refine r_iaload (r := 34) (N := 900) C dX6_nextSide_43 rfl o2 ?_
    refine s_istore C dX6_nextSide_44 (by decide) (fun z3 ez3 => ?_)
    have v := v z3 ez3
    show Wh X 46 [(4, vi z3), (0, vr 30), (2, vi x2)] [] h 0
    refine r_aload_n 1 C dX6_nextSide_46 rfl ?_
    refine gf_X6_7 C dX6_nextSide_47 ?_
    refine r_iload 0 C dX6_nextSide_50 rfl ?_
    obtain ⟨o4, v⟩ := v
    refine r_iaload (r := 31) (N := 100) C dX6_nextSide_52 rfl o4 ?_
    refine r_iload_n 2 C dX6_nextSide_53 rfl ?_
    refine r_icmp_ne (tgt := 64) C dX6_nextSide_54 (by decide) (fun c5 => ?_) (fun c5 => ?_)
    · have v := v.1 c5
      refine r_iconst C dX6_nextSide_64 ⟨by decide, by decide⟩ ?_
      refine r_iload 0 C dX6_nextSide_65 rfl ?_
      obtain ⟨o6, v⟩ := v
      refine r_imul C dX6_nextSide_67 o6 ?_
      refine r_iconst C dX6_nextSide_68 ⟨by decide, by decide⟩ ?_
      obtain ⟨o7, v⟩ := v
      refine r_iadd C dX6_nextSide_69 o7 ?_
      exact s_sub [1] rfl (B_70 _ _ v)
    · have v := v.2 c5
      refine r_iconst C dX6_nextSide_57 ⟨by decide, by decide⟩ ?_
      refine r_iload 0 C dX6_nextSide_58 rfl ?_
      obtain ⟨o8, v⟩ := v
      refine r_imul C dX6_nextSide_60 o8 ?_
      refine r_goto (tgt := 70) C dX6_nextSide_61 (by decide) ?_
      exact s_sub [1] rfl (B_70 _ _ v)
  show Wh X 0 [(0, vr 30), (1, vi a1)] [] h0 0
  have v := hmain
  unfold V_X6_nextSide at v
  refine r_aload_n 0 C dX6_nextSide_0 rfl ?_
  refine r_iload_n 1 C dX6_nextSide_1 rfl ?_
  refine r_iconst C dX6_nextSide_2 ⟨by decide, by decide⟩ ?_
  refine r_ixor C dX6_nextSide_3 ?_
  obtain ⟨o9, v⟩ := v
  refine s_calli0 [(jxor a1 1)] [] C dX6_nextSide_4 ck_X6_107 (r := 30) (fY := 0) (nY := 0) rfl rfl (by decide) (by decide) (Nat.le_of_ble_eq_true rfl) rfl (by rw [hXl]; exact c_X6_origin (jxor a1 1) h0 o9) (fun r10 gr10 qr10 => ?_)
  have v := v r10 gr10 qr10
  refine s_istore_n C dX6_nextSide_7 (by decide) (fun z11 ez11 => ?_)
  have v := v z11 ez11
  show Wh X 8 [(2, vi z11), (0, vr 30), (1, vi a1)] [] h0 0
  refine r_aload_n 1 C dX6_nextSide_8 rfl ?_
  refine r_iload_n 0 C dX6_nextSide_9 rfl ?_
  refine r_iload_n 2 C dX6_nextSide_10 rfl ?_
  refine r_iconst C dX6_nextSide_11 ⟨by decide, by decide⟩ ?_
  obtain ⟨o12, v⟩ := v
  refine r_idiv C dX6_nextSide_12 o12 ?_
  obtain ⟨o13, v⟩ := v
  refine s_calli0 [z11, (a1.tdiv 2)] [] C dX6_nextSide_13 ck_X6_76 (r := 30) (fY := 0) (nY := 0) rfl rfl (by decide) (by decide) (Nat.le_of_ble_eq_true rfl) rfl (by rw [hXl]; exact c_X6_placeOf z11 (a1.tdiv 2) h0 o13) (fun r14 gr14 qr14 => ?_)
  have v := v r14 gr14 qr14
  refine r_iconst C dX6_nextSide_16 ⟨by decide, by decide⟩ ?_
  obtain ⟨o15, v⟩ := v
  refine r_iadd C dX6_nextSide_17 o15 ?_
  refine s_istore_n C dX6_nextSide_18 (by decide) (fun z16 ez16 => ?_)
  have v := v z16 ez16
  show Wh X 19 [(3, vi z16), (2, vi z11), (0, vr 30), (1, vi a1)] [] h0 0
  refine r_aload_n 2 C dX6_nextSide_19 rfl ?_
  refine gf_X6_20 C dX6_nextSide_20 ?_
  refine r_bipush C dX6_nextSide_23 ⟨by decide, by decide⟩ (by decide) ?_
  refine r_iload_n 1 C dX6_nextSide_25 rfl ?_
  obtain ⟨o17, v⟩ := v
  refine r_imul C dX6_nextSide_26 o17 ?_
  refine r_iload_n 0 C dX6_nextSide_27 rfl ?_
  refine r_aload_n 2 C dX6_nextSide_28 rfl ?_
  refine gf_X6_23 C dX6_nextSide_29 ?_
  refine r_iload_n 1 C dX6_nextSide_32 rfl ?_
  obtain ⟨o18, v⟩ := v
  refine r_iaload (r := 35) (N := 30) C dX6_nextSide_33 rfl o18 ?_
  refine r_icmp_ne (tgt := 41) C dX6_nextSide_34 (by decide) (fun c19 => ?_) (fun c19 => ?_)
  · have v := v.1 c19
    refine r_iload_n 0 C dX6_nextSide_41 rfl ?_
    exact s_sub [2, 1] rfl (B_42 _ _ _ _ v)
  · have v := v.2 c19
    refine r_iconst C dX6_nextSide_37 ⟨by decide, by decide⟩ ?_
    refine r_goto (tgt := 42) C dX6_nextSide_38 (by decide) ?_
    exact s_sub [2, 1] rfl (B_42 _ _ _ _ v)


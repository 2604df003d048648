def V_J6_bitCount_0f7a4 (P : Int → Hp → Prop) (h0 : Hp) (a1 : Int) : Prop :=
  InR (a1 - (jand (jushr a1 1) 1431655765)) ∧ (∀ z2 : Int, z2 = (a1 - (jand (jushr a1 1) 1431655765)) → (InR ((jand z2 858993459) + (jand (jushr z2 2) 858993459)) ∧ (∀ z4 : Int, z4 = ((jand z2 858993459) + (jand (jushr z2 2) 858993459)) → (InR (z4 + (jushr z4 4)) ∧ (∀ z6 : Int, z6 = (jand (z4 + (jushr z4 4)) 252645135) → (InR (z6 + (jushr z6 8)) ∧ (∀ z8 : Int, z8 = (z6 + (jushr z6 8)) → (InR (z8 + (jushr z8 16)) ∧ (∀ z10 : Int, z10 = (z8 + (jushr z8 16)) → (P (jand z10 63) h0))))))))))
set_option maxHeartbeats 4000000 in
set_option maxRecDepth 100000 in
theorem w_J6_bitCount_0f7a4 {l : Launch} (P : Int → Hp → Prop) (h0 : Hp) (a1 : Int)
    (o : RH h0 → InR a1 → V_J6_bitCount_0f7a4 P h0 a1) :
    Ct l yJ6_bitCount_0f7a4 cJ6_bitCount_0f7a4 1 (some .int) 0 0 0 [vi a1] h0 [] P (fun _ => False) := by
  refine Ct.of (own := RJ6) (by decide) rfl (Nat.le_of_ble_eq_true rfl) ?_
  intro X C hXl hXM hXh hXP hXX hXc hXr hav hR0
  have hmain : V_J6_bitCount_0f7a4 P h0 a1 := o hR0 (hav (vi a1) (by simp))
  show Wh X 0 [(0, vi a1)] [] h0 0
  have v := hmain
  unfold V_J6_bitCount_0f7a4 at v
  refine r_iload_n 0 C dJ6_bitCount_0f7a4_0 rfl ?_
  refine r_iload_n 0 C dJ6_bitCount_0f7a4_1 rfl ?_
  refine r_iconst C dJ6_bitCount_0f7a4_2 ⟨by decide, by decide⟩ ?_
  refine r_iushr C dJ6_bitCount_0f7a4_3 ?_
  refine r_ldcw (z := 1431655765) C dJ6_bitCount_0f7a4_4 (by decide +kernel) ⟨by decide, by decide⟩ ?_
  refine r_iand C dJ6_bitCount_0f7a4_7 ?_
  obtain ⟨o1, v⟩ := v
  refine r_isub C dJ6_bitCount_0f7a4_8 o1 ?_
  refine s_istore_n C dJ6_bitCount_0f7a4_9 (by decide) (fun z2 ez2 => ?_)
  have v := v z2 ez2
  show Wh X 10 [(0, vi z2)] [] h0 0
  refine r_iload_n 0 C dJ6_bitCount_0f7a4_10 rfl ?_
  refine r_ldcw (z := 858993459) C dJ6_bitCount_0f7a4_11 (by decide +kernel) ⟨by decide, by decide⟩ ?_
  refine r_iand C dJ6_bitCount_0f7a4_14 ?_
  refine r_iload_n 0 C dJ6_bitCount_0f7a4_15 rfl ?_
  refine r_iconst C dJ6_bitCount_0f7a4_16 ⟨by decide, by decide⟩ ?_
  refine r_iushr C dJ6_bitCount_0f7a4_17 ?_
  refine r_ldcw (z := 858993459) C dJ6_bitCount_0f7a4_18 (by decide +kernel) ⟨by decide, by decide⟩ ?_
  refine r_iand C dJ6_bitCount_0f7a4_21 ?_
  obtain ⟨o3, v⟩ := v
  refine r_iadd C dJ6_bitCount_0f7a4_22 o3 ?_
  refine s_istore_n C dJ6_bitCount_0f7a4_23 (by decide) (fun z4 ez4 => ?_)
  have v := v z4 ez4
  show Wh X 24 [(0, vi z4)] [] h0 0
  refine r_iload_n 0 C dJ6_bitCount_0f7a4_24 rfl ?_
  refine r_iload_n 0 C dJ6_bitCount_0f7a4_25 rfl ?_
  refine r_iconst C dJ6_bitCount_0f7a4_26 ⟨by decide, by decide⟩ ?_
  refine r_iushr C dJ6_bitCount_0f7a4_27 ?_
  obtain ⟨o5, v⟩ := v
  refine r_iadd C dJ6_bitCount_0f7a4_28 o5 ?_
  refine r_ldcw (z := 252645135) C dJ6_bitCount_0f7a4_29 (by decide +kernel) ⟨by decide, by decide⟩ ?_
  refine r_iand C dJ6_bitCount_0f7a4_32 ?_
  refine s_istore_n C dJ6_bitCount_0f7a4_33 (by decide) (fun z6 ez6 => ?_)
  have v := v z6 ez6
  show Wh X 34 [(0, vi z6)] [] h0 0
  refine r_iload_n 0 C dJ6_bitCount_0f7a4_34 rfl ?_
  refine r_iload_n 0 C dJ6_bitCount_0f7a4_35 rfl ?_
  refine r_bipush C dJ6_bitCount_0f7a4_36 ⟨by decide, by decide⟩ (by decide) ?_
  refine r_iushr C dJ6_bitCount_0f7a4_38 ?_
  obtain ⟨o7, v⟩ := v
  refine r_iadd C dJ6_bitCount_0f7a4_39 o7 ?_
  refine s_istore_n C dJ6_bitCount_0f7a4_40 (by decide) (fun z8 ez8 => ?_)
  have v := v z8 ez8
  show Wh X 41 [(0, vi z8)] [] h0 0
  refine r_iload_n 0 C dJ6_bitCount_0f7a4_41 rfl ?_
  refine r_iload_n 0 C dJ6_bitCount_0f7a4_42 rfl ?_
  refine r_bipush C dJ6_bitCount_0f7a4_43 ⟨by decide, by decide⟩ (by decide) ?_
  refine r_iushr C dJ6_bitCount_0f7a4_45 ?_
  obtain ⟨o9, v⟩ := v
  refine r_iadd C dJ6_bitCount_0f7a4_46 o9 ?_
  refine s_istore_n C dJ6_bitCount_0f7a4_47 (by decide) (fun z10 ez10 => ?_)
  have v := v z10 ez10
  show Wh X 48 [(0, vi z10)] [] h0 0
  refine r_iload_n 0 C dJ6_bitCount_0f7a4_48 rfl ?_
  refine r_bipush C dJ6_bitCount_0f7a4_49 ⟨by decide, by decide⟩ (by decide) ?_
  refine r_iand C dJ6_bitCount_0f7a4_51 ?_
  exact r_ireturn C dJ6_bitCount_0f7a4_52 hXr (Nat.zero_le _) (by rw [hXP]; exact v)

def V_X0_forget_2 (P : Int → Hp → Prop) (I_2 : Nat → Hp → Int → Prop) (n_2 : Nat) (h : Hp) (x1 : Int) : Prop :=
  ((h 1 6) ≤ x1 → ∀ h2 : Hp, h2 = hup h 4 8 0 → (P 0 h2)) ∧ (¬ (h 1 6) ≤ x1 → ((0 : Int) ≤ x1 ∧ (x1 : Int) < 30) ∧ (∀ h4 : Hp, h4 = hup h 20 x1 0 → (InR (x1 + 1) ∧ (∀ z5 : Int, z5 = x1 + 1 → (∃ n', n' < n_2 ∧ I_2 n' h4 z5)))))
def V_X0_forget (P : Int → Hp → Prop) (I_2 : Nat → Hp → Int → Prop) (h0 : Hp) : Prop :=
  ∀ z7 : Int, z7 = 0 → (∃ n', I_2 n' h0 z7)
set_option maxHeartbeats 4000000 in
set_option maxRecDepth 100000 in
theorem w_X0_forget {l : Launch} (P : Int → Hp → Prop) (I_2 : Nat → Hp → Int → Prop) (h0 : Hp)
    (o_2 : ∀ (n_2 : Nat) (h : Hp) (x1 : Int), RH h → Fr [4, 20] h0 h → InR x1 → I_2 n_2 h x1 → V_X0_forget_2 P I_2 n_2 h x1)
    (o : RH h0 → V_X0_forget P I_2 h0) :
    Ct l yX0_forget cX0_forget 2 none 0 0 0 [vr 4] h0 [4, 20] P (fun _ => False) := by
  refine Ct.of (own := RX0) (by decide) rfl (Nat.le_of_ble_eq_true rfl) ?_
  intro X C hXl hXM hXh hXP hXX hXc hXr hav hR0
  have hmain : V_X0_forget P I_2 h0 := o hR0 
  have B_2 : ∀ (n_2 : Nat) (h : Hp) (x1 : Int), I_2 n_2 h x1 → Wh X 2 [(0, vr 4), (1, vi x1)] [] h 0 := by
    intro n_2
    induction n_2 using Nat.strongRecOn with
    | _ n_2 ih_2 =>
      intro h x1 hI
      refine s_use fun hR hF hL => ?_
      have v := o_2 n_2 h x1 hR (by rw [hXM, hXh] at hF; exact hF) (hL (1, vi x1) (by simp)) hI
      unfold V_X0_forget_2 at v
      refine r_iload_n 1 C dX0_forget_2 rfl ?_
      refine r_aload_n 0 C dX0_forget_3 rfl ?_
      refine gf_X0_38 C dX0_forget_4 ?_
      refine gf_X0_42 C dX0_forget_7 ?_
      refine r_icmp_ge (tgt := 26) C dX0_forget_10 (by decide) (fun c1 => ?_) (fun c1 => ?_)
      · have v := v.1 c1
        refine r_aload_n 0 C dX0_forget_26 rfl ?_
        refine r_iconst C dX0_forget_27 ⟨by decide, by decide⟩ ?_
        refine pf_X0_35 C dX0_forget_28 hXM (by decide) (fun h2 eh2 => ?_)
        have v := v h2 eh2
        exact r_return C dX0_forget_31 hXr (Nat.zero_le _) (by rw [hXP]; exact v)
      · have v := v.2 c1
        refine r_aload_n 0 C dX0_forget_13 rfl ?_
        refine gf_X0_9 C dX0_forget_14 ?_
        refine r_iload_n 1 C dX0_forget_17 rfl ?_
        refine r_iconst C dX0_forget_18 ⟨by decide, by decide⟩ ?_
        obtain ⟨o3, v⟩ := v
        refine s_iastore (r := 20) (N := 30) C dX0_forget_19 rfl hXM (by decide) o3 (fun h4 eh4 => ?_)
        have v := v h4 eh4
        obtain ⟨o6, v⟩ := v
        refine s_iinc 1 C dX0_forget_20 rfl (by decide) o6 (fun z5 ez5 => ?_)
        have v := v z5 ez5
        show Wh X 23 [(1, vi z5), (0, vr 4)] [] h4 0
        refine r_goto (tgt := 2) C dX0_forget_23 (by decide) ?_
        obtain ⟨n', hn', hI'⟩ := v
        exact s_sub [1, 0] rfl (ih_2 n' hn' _ _ hI')
  show Wh X 0 [(0, vr 4)] [] h0 0
  have v := hmain
  unfold V_X0_forget at v
  refine r_iconst C dX0_forget_0 ⟨by decide, by decide⟩ ?_
  refine s_istore_n C dX0_forget_1 (by decide) (fun z7 ez7 => ?_)
  have v := v z7 ez7
  show Wh X 2 [(1, vi z7), (0, vr 4)] [] h0 0
  obtain ⟨n', hI'⟩ := v
  exact s_sub [1, 0] rfl (B_2 n' _ _ hI')

def V_X0_colourAll_13 (P : Int → Hp → Prop) (p_X0_forget : Hp → Prop) (q_X0_forget : Hp → Hp → Prop) (p_X0_takeAll : Hp → Prop) (q_X0_takeAll : Hp → Int → Hp → Prop) (p_X0_bringBack : Int → Hp → Prop) (q_X0_bringBack : Int → Hp → Hp → Prop) (I_13 : Nat → Hp → Int → Prop) (n_13 : Nat) (h : Hp) (x2 : Int) : Prop :=
  (x2 < 0 → P 0 h) ∧ (¬ x2 < 0 → ((0 : Int) ≤ x2 ∧ (x2 : Int) < 30) ∧ (p_X0_bringBack (h 22 x2) h ∧ (∀ h4 : Hp, Fr [4, 20, 23, 24, 25] h h4 → RH h4 → q_X0_bringBack (h 22 x2) h h4 → (InR (x2 + (-1)) ∧ (∀ z5 : Int, z5 = x2 + (-1) → (∃ n', n' < n_13 ∧ I_13 n' h4 z5))))))
def V_X0_colourAll (P : Int → Hp → Prop) (p_X0_forget : Hp → Prop) (q_X0_forget : Hp → Hp → Prop) (p_X0_takeAll : Hp → Prop) (q_X0_takeAll : Hp → Int → Hp → Prop) (p_X0_bringBack : Int → Hp → Prop) (q_X0_bringBack : Int → Hp → Hp → Prop) (I_13 : Nat → Hp → Int → Prop) (h0 : Hp) : Prop :=
  p_X0_forget h0 ∧ (∀ h8 : Hp, Fr [4, 20] h0 h8 → RH h8 → q_X0_forget h0 h8 → (p_X0_takeAll h8 ∧ (∀ (r10 : Int) (h11 : Hp), Fr [21, 22] h8 h11 → RH h11 → InR r10 → q_X0_takeAll h8 r10 h11 → (∀ z12 : Int, z12 = r10 → (InR (z12 - 1) ∧ (∀ z14 : Int, z14 = (z12 - 1) → (∃ n', I_13 n' h11 z14)))))))
set_option maxHeartbeats 4000000 in
set_option maxRecDepth 100000 in
theorem w_X0_colourAll {l : Launch} (P : Int → Hp → Prop) (p_X0_forget : Hp → Prop) (q_X0_forget : Hp → Hp → Prop) (p_X0_takeAll : Hp → Prop) (q_X0_takeAll : Hp → Int → Hp → Prop) (p_X0_bringBack : Int → Hp → Prop) (q_X0_bringBack : Int → Hp → Hp → Prop) (I_13 : Nat → Hp → Int → Prop) (h0 : Hp)
    (c_X0_forget : ∀ (h : Hp), p_X0_forget h → Ct l yX0_forget cX0_forget 2 none 0 0 0 [vr 4] h [4, 20] (fun _ h1 => q_X0_forget h h1) (fun _ => False))
    (c_X0_takeAll : ∀ (h : Hp), p_X0_takeAll h → Ct l yX0_takeAll cX0_takeAll 4 (some .int) 3 66 0 [vr 4] h [21, 22] (fun r h1 => q_X0_takeAll h r h1) (fun _ => False))
    (c_X0_bringBack : ∀ (b1 : Int) (h : Hp), p_X0_bringBack b1 h → Ct l yX0_bringBack cX0_bringBack 3 none 4 95 0 [vr 4, vi b1] h [4, 20, 23, 24, 25] (fun _ h1 => q_X0_bringBack b1 h h1) (fun _ => False))
    (o_13 : ∀ (n_13 : Nat) (h : Hp) (x2 : Int), RH h → Fr [4, 20, 21, 22, 23, 24, 25] h0 h → InR x2 → I_13 n_13 h x2 → V_X0_colourAll_13 P p_X0_forget q_X0_forget p_X0_takeAll q_X0_takeAll p_X0_bringBack q_X0_bringBack I_13 n_13 h x2)
    (o : RH h0 → V_X0_colourAll P p_X0_forget q_X0_forget p_X0_takeAll q_X0_takeAll p_X0_bringBack q_X0_bringBack I_13 h0) :
    Ct l yX0_colourAll cX0_colourAll 3 none 5 117 0 [vr 4] h0 [4, 20, 21, 22, 23, 24, 25] P (fun _ => False) := by
  refine Ct.of (own := RX0) (by decide) rfl (Nat.le_of_ble_eq_true rfl) ?_
  intro X C hXl hXM hXh hXP hXX hXc hXr hav hR0
  have hmain : V_X0_colourAll P p_X0_forget q_X0_forget p_X0_takeAll q_X0_takeAll p_X0_bringBack q_X0_bringBack I_13 h0 := o hR0 
  have B_13 : ∀ (n_13 : Nat) (h : Hp) (x2 : Int), I_13 n_13 h x2 → Wh X 13 [(0, vr 4), (2, vi x2)] [] h 0 := by
    intro n_13
    induction n_13 using Nat.strongRecOn with
    | _ n_13 ih_13 =>
      intro h x2 hI
      refine s_use fun hR hF hL => ?_
      have v := o_13 n_13 h x2 hR (by rw [hXM, hXh] at hF; exact hF) (hL (2, vi x2) (by simp)) hI
      unfold V_X0_colourAll_13 at v
      refine r_iload_n 1 C dX0_colourAll_13 rfl ?_
      refine r_if_lt (tgt := 33) C dX0_colourAll_14 (by decide) (fun c1 => ?_) (fun c1 => ?_)
      · have v := v.1 c1
        exact r_return C dX0_colourAll_33 hXr (Nat.zero_le _) (by rw [hXP]; exact v)
      · have v := v.2 c1
        refine r_aload_n 0 C dX0_colourAll_17 rfl ?_
        refine r_aload_n 0 C dX0_colourAll_18 rfl ?_
        refine gf_X0_19 C dX0_colourAll_19 ?_
        refine r_iload_n 1 C dX0_colourAll_22 rfl ?_
        obtain ⟨o2, v⟩ := v
        refine r_iaload (r := 22) (N := 30) C dX0_colourAll_23 rfl o2 ?_
        obtain ⟨o3, v⟩ := v
        refine s_callv [(h 22 x2)] [] C dX0_colourAll_24 ck_X0_54 (r := 4) (fY := 4) (nY := 95) rfl rfl (by decide) (by decide) (Nat.le_of_ble_eq_true rfl) rfl (MY := [4, 20, 23, 24, 25]) hXM (by decide) (by rw [hXl]; exact c_X0_bringBack (h 22 x2) h o3) (fun h4 fh4 kh4 qh4 => ?_)
        have v := v h4 fh4 kh4 qh4
        obtain ⟨o6, v⟩ := v
        refine s_iinc 1 C dX0_colourAll_27 rfl (by decide) o6 (fun z5 ez5 => ?_)
        have v := v z5 ez5
        show Wh X 30 [(2, vi z5), (0, vr 4)] [] h4 0
        refine r_goto (tgt := 13) C dX0_colourAll_30 (by decide) ?_
        obtain ⟨n', hn', hI'⟩ := v
        exact s_sub [1, 0] rfl (ih_13 n' hn' _ _ hI')
  show Wh X 0 [(0, vr 4)] [] h0 0
  have v := hmain
  unfold V_X0_colourAll at v
  refine r_aload_n 0 C dX0_colourAll_0 rfl ?_
  obtain ⟨o7, v⟩ := v
  refine s_callv [] [] C dX0_colourAll_1 ck_X0_47 (r := 4) (fY := 0) (nY := 0) rfl rfl (by decide) (by decide) (Nat.le_of_ble_eq_true rfl) rfl (MY := [4, 20]) hXM (by decide) (by rw [hXl]; exact c_X0_forget h0 o7) (fun h8 fh8 kh8 qh8 => ?_)
  have v := v h8 fh8 kh8 qh8
  refine r_aload_n 0 C dX0_colourAll_4 rfl ?_
  obtain ⟨o9, v⟩ := v
  refine s_calli [] [] C dX0_colourAll_5 ck_X0_50 (r := 4) (fY := 3) (nY := 66) rfl rfl (by decide) (by decide) (Nat.le_of_ble_eq_true rfl) rfl (MY := [21, 22]) hXM (by decide) (by rw [hXl]; exact c_X0_takeAll h8 o9) (fun r10 h11 fr10 kr10 gr10 qr10 => ?_)
  have v := v r10 h11 fr10 kr10 gr10 qr10
  refine s_istore_n C dX0_colourAll_8 (by decide) (fun z12 ez12 => ?_)
  have v := v z12 ez12
  show Wh X 9 [(1, vi z12), (0, vr 4)] [] h11 0
  refine r_iload_n 0 C dX0_colourAll_9 rfl ?_
  refine r_iconst C dX0_colourAll_10 ⟨by decide, by decide⟩ ?_
  obtain ⟨o13, v⟩ := v
  refine r_isub C dX0_colourAll_11 o13 ?_
  refine s_istore_n C dX0_colourAll_12 (by decide) (fun z14 ez14 => ?_)
  have v := v z14 ez14
  show Wh X 13 [(2, vi z14), (1, vi z12), (0, vr 4)] [] h11 0
  obtain ⟨n', hI'⟩ := v
  exact s_sub [2, 0] rfl (B_13 n' _ _ hI')

def V_X0_takeAll_68 (P : Int → Hp → Prop) (p_X0_leastToTake : Hp → Prop) (q_X0_leastToTake : Hp → Int → Prop) (I_2 : Nat → Hp → Int → Prop) (I_30 : Nat → Hp → Int → Int → Prop) (n_30 : Nat) (h : Hp) (x1 : Int) (x2 : Int) : Prop :=
  InR (x2 + 1) ∧ (∀ z1 : Int, z1 = x2 + 1 → (∃ n', n' < n_30 ∧ I_30 n' h x1 z1))
def V_X0_takeAll_30 (P : Int → Hp → Prop) (p_X0_leastToTake : Hp → Prop) (q_X0_leastToTake : Hp → Int → Prop) (I_2 : Nat → Hp → Int → Prop) (I_30 : Nat → Hp → Int → Int → Prop) (n_30 : Nat) (h : Hp) (x1 : Int) (x2 : Int) : Prop :=
  ((h 1 6) ≤ x2 → P x1 h) ∧ (¬ (h 1 6) ≤ x2 → p_X0_leastToTake h ∧ (∀ r5 : Int, InR r5 → q_X0_leastToTake h r5 → (∀ z6 : Int, z6 = r5 → ((z6 = (-1) → V_X0_takeAll_68 P p_X0_leastToTake q_X0_leastToTake I_2 I_30 n_30 h x1 x2) ∧ (¬ z6 = (-1) → ((0 : Int) ≤ z6 ∧ (z6 : Int) < 30) ∧ (∀ h9 : Hp, h9 = hup h 21 z6 1 → (((0 : Int) ≤ x1 ∧ (x1 : Int) < 30) ∧ (∀ h11 : Hp, h11 = hup h9 22 x1 z6 → (InR (x1 + 1) ∧ (∀ z12 : Int, z12 = x1 + 1 → (V_X0_takeAll_68 P p_X0_leastToTake q_X0_leastToTake I_2 I_30 n_30 h11 z12 x2)))))))))))
def V_X0_takeAll_2 (P : Int → Hp → Prop) (p_X0_leastToTake : Hp → Prop) (q_X0_leastToTake : Hp → Int → Prop) (I_2 : Nat → Hp → Int → Prop) (I_30 : Nat → Hp → Int → Int → Prop) (n_2 : Nat) (h : Hp) (x1 : Int) : Prop :=
  ((h 1 6) ≤ x1 → ∀ z15 : Int, z15 = 0 → (∀ z16 : Int, z16 = 0 → (∃ n', I_30 n' h z15 z16))) ∧ (¬ (h 1 6) ≤ x1 → ((0 : Int) ≤ x1 ∧ (x1 : Int) < 30) ∧ (∀ h18 : Hp, h18 = hup h 21 x1 0 → (InR (x1 + 1) ∧ (∀ z19 : Int, z19 = x1 + 1 → (∃ n', n' < n_2 ∧ I_2 n' h18 z19)))))
def V_X0_takeAll (P : Int → Hp → Prop) (p_X0_leastToTake : Hp → Prop) (q_X0_leastToTake : Hp → Int → Prop) (I_2 : Nat → Hp → Int → Prop) (I_30 : Nat → Hp → Int → Int → Prop) (h0 : Hp) : Prop :=
  ∀ z21 : Int, z21 = 0 → (∃ n', I_2 n' h0 z21)
set_option maxHeartbeats 4000000 in
set_option maxRecDepth 100000 in
theorem w_X0_takeAll {l : Launch} (P : Int → Hp → Prop) (p_X0_leastToTake : Hp → Prop) (q_X0_leastToTake : Hp → Int → Prop) (I_2 : Nat → Hp → Int → Prop) (I_30 : Nat → Hp → Int → Int → Prop) (h0 : Hp)
    (c_X0_leastToTake : ∀ (h : Hp), p_X0_leastToTake h → Ct l yX0_leastToTake cX0_leastToTake 2 (some .int) 2 45 0 [vr 4] h [] (fun r _ => q_X0_leastToTake h r) (fun _ => False))
    (o_2 : ∀ (n_2 : Nat) (h : Hp) (x1 : Int), RH h → Fr [21, 22] h0 h → InR x1 → I_2 n_2 h x1 → V_X0_takeAll_2 P p_X0_leastToTake q_X0_leastToTake I_2 I_30 n_2 h x1)
    (o_30 : ∀ (n_30 : Nat) (h : Hp) (x1 : Int) (x2 : Int), RH h → Fr [21, 22] h0 h → InR x1 → InR x2 → I_30 n_30 h x1 x2 → V_X0_takeAll_30 P p_X0_leastToTake q_X0_leastToTake I_2 I_30 n_30 h x1 x2)
    (o : RH h0 → V_X0_takeAll P p_X0_leastToTake q_X0_leastToTake I_2 I_30 h0) :
    Ct l yX0_takeAll cX0_takeAll 4 (some .int) 3 66 0 [vr 4] h0 [21, 22] P (fun _ => False) := by
  refine Ct.of (own := RX0) (by decide) rfl (Nat.le_of_ble_eq_true rfl) ?_
  intro X C hXl hXM hXh hXP hXX hXc hXr hav hR0
  have hmain : V_X0_takeAll P p_X0_leastToTake q_X0_leastToTake I_2 I_30 h0 := o hR0 
  have B_30 : ∀ (n_30 : Nat) (h : Hp) (x1 : Int) (x2 : Int), I_30 n_30 h x1 x2 → Wh X 30 [(0, vr 4), (1, vi x1), (2, vi x2)] [] h 0 := by
    intro n_30
    induction n_30 using Nat.strongRecOn with
    | _ n_30 ih_30 =>
      intro h x1 x2 hI
      refine s_use fun hR hF hL => ?_
      have v := o_30 n_30 h x1 x2 hR (by rw [hXM, hXh] at hF; exact hF) (hL (1, vi x1) (by simp)) (hL (2, vi x2) (by simp)) hI
      unfold V_X0_takeAll_30 at v
      have B_68 : ∀ (h : Hp) (x1 : Int) (x2 : Int), V_X0_takeAll_68 P p_X0_leastToTake q_X0_leastToTake I_2 I_30 n_30 h x1 x2 → Wh X 68 [(0, vr 4), (1, vi x1), (2, vi x2)] [] h 0 := by
        intro h x1 x2 v
        unfold V_X0_takeAll_68 at v
        obtain ⟨o2, v⟩ := v
        refine s_iinc 2 C dX0_takeAll_68 rfl (by decide) o2 (fun z1 ez1 => ?_)
        have v := v z1 ez1
        show Wh X 71 [(2, vi z1), (0, vr 4), (1, vi x1)] [] h 0
        refine r_goto (tgt := 30) C dX0_takeAll_71 (by decide) ?_
        obtain ⟨n', hn', hI'⟩ := v
        exact s_sub [1, 2, 0] rfl (ih_30 n' hn' _ _ _ hI')
      refine r_iload_n 2 C dX0_takeAll_30 rfl ?_
      refine r_aload_n 0 C dX0_takeAll_31 rfl ?_
      refine gf_X0_38 C dX0_takeAll_32 ?_
      refine gf_X0_42 C dX0_takeAll_35 ?_
      refine r_icmp_ge (tgt := 74) C dX0_takeAll_38 (by decide) (fun c3 => ?_) (fun c3 => ?_)
      · have v := v.1 c3
        refine r_iload_n 1 C dX0_takeAll_74 rfl ?_
        exact r_ireturn C dX0_takeAll_75 hXr (Nat.zero_le _) (by rw [hXP]; exact v)
      · have v := v.2 c3
        refine r_aload_n 0 C dX0_takeAll_41 rfl ?_
        obtain ⟨o4, v⟩ := v
        refine s_calli0 [] [] C dX0_takeAll_42 ck_X0_58 (r := 4) (fY := 2) (nY := 45) rfl rfl (by decide) (by decide) (Nat.le_of_ble_eq_true rfl) rfl (by rw [hXl]; exact c_X0_leastToTake h o4) (fun r5 gr5 qr5 => ?_)
        have v := v r5 gr5 qr5
        refine s_istore_n C dX0_takeAll_45 (by decide) (fun z6 ez6 => ?_)
        have v := v z6 ez6
        show Wh X 46 [(3, vi z6), (0, vr 4), (1, vi x1), (2, vi x2)] [] h 0
        refine r_iload_n 0 C dX0_takeAll_46 rfl ?_
        refine r_iconst C dX0_takeAll_47 ⟨by decide, by decide⟩ ?_
        refine r_icmp_eq (tgt := 68) C dX0_takeAll_48 (by decide) (fun c7 => ?_) (fun c7 => ?_)
        · have v := v.1 c7
          exact s_sub [1, 2, 3] rfl (B_68 _ _ _ v)
        · have v := v.2 c7
          refine r_aload_n 1 C dX0_takeAll_51 rfl ?_
          refine gf_X0_15 C dX0_takeAll_52 ?_
          refine r_iload_n 0 C dX0_takeAll_55 rfl ?_
          refine r_iconst C dX0_takeAll_56 ⟨by decide, by decide⟩ ?_
          obtain ⟨o8, v⟩ := v
          refine s_bastore (r := 21) (N := 30) C dX0_takeAll_57 rfl hXM (by decide) o8 (by decide) (fun h9 eh9 => ?_)
          have v := v h9 eh9
          refine r_aload_n 1 C dX0_takeAll_58 rfl ?_
          refine gf_X0_19 C dX0_takeAll_59 ?_
          refine r_iload_n 2 C dX0_takeAll_62 rfl ?_
          refine r_iload_n 0 C dX0_takeAll_63 rfl ?_
          obtain ⟨o10, v⟩ := v
          refine s_iastore (r := 22) (N := 30) C dX0_takeAll_64 rfl hXM (by decide) o10 (fun h11 eh11 => ?_)
          have v := v h11 eh11
          obtain ⟨o13, v⟩ := v
          refine s_iinc 2 C dX0_takeAll_65 rfl (by decide) o13 (fun z12 ez12 => ?_)
          have v := v z12 ez12
          show Wh X 68 [(1, vi z12), (3, vi z6), (0, vr 4), (2, vi x2)] [] h11 0
          exact s_sub [2, 0, 3] rfl (B_68 _ _ _ v)
  have B_2 : ∀ (n_2 : Nat) (h : Hp) (x1 : Int), I_2 n_2 h x1 → Wh X 2 [(0, vr 4), (1, vi x1)] [] h 0 := by
    intro n_2
    induction n_2 using Nat.strongRecOn with
    | _ n_2 ih_2 =>
      intro h x1 hI
      refine s_use fun hR hF hL => ?_
      have v := o_2 n_2 h x1 hR (by rw [hXM, hXh] at hF; exact hF) (hL (1, vi x1) (by simp)) hI
      unfold V_X0_takeAll_2 at v
      refine r_iload_n 1 C dX0_takeAll_2 rfl ?_
      refine r_aload_n 0 C dX0_takeAll_3 rfl ?_
      refine gf_X0_38 C dX0_takeAll_4 ?_
      refine gf_X0_42 C dX0_takeAll_7 ?_
      refine r_icmp_ge (tgt := 26) C dX0_takeAll_10 (by decide) (fun c14 => ?_) (fun c14 => ?_)
      · have v := v.1 c14
        refine r_iconst C dX0_takeAll_26 ⟨by decide, by decide⟩ ?_
        refine s_istore_n C dX0_takeAll_27 (by decide) (fun z15 ez15 => ?_)
        have v := v z15 ez15
        show Wh X 28 [(1, vi z15), (0, vr 4)] [] h 0
        refine r_iconst C dX0_takeAll_28 ⟨by decide, by decide⟩ ?_
        refine s_istore_n C dX0_takeAll_29 (by decide) (fun z16 ez16 => ?_)
        have v := v z16 ez16
        show Wh X 30 [(2, vi z16), (1, vi z15), (0, vr 4)] [] h 0
        obtain ⟨n', hI'⟩ := v
        exact s_sub [2, 1, 0] rfl (B_30 n' _ _ _ hI')
      · have v := v.2 c14
        refine r_aload_n 0 C dX0_takeAll_13 rfl ?_
        refine gf_X0_15 C dX0_takeAll_14 ?_
        refine r_iload_n 1 C dX0_takeAll_17 rfl ?_
        refine r_iconst C dX0_takeAll_18 ⟨by decide, by decide⟩ ?_
        obtain ⟨o17, v⟩ := v
        refine s_bastore (r := 21) (N := 30) C dX0_takeAll_19 rfl hXM (by decide) o17 (by decide) (fun h18 eh18 => ?_)
        have v := v h18 eh18
        obtain ⟨o20, v⟩ := v
        refine s_iinc 1 C dX0_takeAll_20 rfl (by decide) o20 (fun z19 ez19 => ?_)
        have v := v z19 ez19
        show Wh X 23 [(1, vi z19), (0, vr 4)] [] h18 0
        refine r_goto (tgt := 2) C dX0_takeAll_23 (by decide) ?_
        obtain ⟨n', hn', hI'⟩ := v
        exact s_sub [1, 0] rfl (ih_2 n' hn' _ _ hI')
  show Wh X 0 [(0, vr 4)] [] h0 0
  have v := hmain
  unfold V_X0_takeAll at v
  refine r_iconst C dX0_takeAll_0 ⟨by decide, by decide⟩ ?_
  refine s_istore_n C dX0_takeAll_1 (by decide) (fun z21 ez21 => ?_)
  have v := v z21 ez21
  show Wh X 2 [(1, vi z21), (0, vr 4)] [] h0 0
  obtain ⟨n', hI'⟩ := v
  exact s_sub [1, 0] rfl (B_2 n' _ _ hI')

def V_X0_leastToTake_33 (P : Int → Hp → Prop) (p_X0_neighboursLeft : Int → Hp → Prop) (q_X0_neighboursLeft : Int → Hp → Int → Prop) (I_2 : Nat → Hp → Int → Prop) (n_2 : Nat) (h : Hp) (x1 : Int) : Prop :=
  InR (x1 + 1) ∧ (∀ z1 : Int, z1 = x1 + 1 → (∃ n', n' < n_2 ∧ I_2 n' h z1))
def V_X0_leastToTake_2 (P : Int → Hp → Prop) (p_X0_neighboursLeft : Int → Hp → Prop) (q_X0_neighboursLeft : Int → Hp → Int → Prop) (I_2 : Nat → Hp → Int → Prop) (n_2 : Nat) (h : Hp) (x1 : Int) : Prop :=
  ((h 1 6) ≤ x1 → P (-1) h) ∧ (¬ (h 1 6) ≤ x1 → ((0 : Int) ≤ x1 ∧ (x1 : Int) < 30) ∧ ((¬ (h 21 x1) = 0 → V_X0_leastToTake_33 P p_X0_neighboursLeft q_X0_neighboursLeft I_2 n_2 h x1) ∧ ((h 21 x1) = 0 → p_X0_neighboursLeft x1 h ∧ (∀ r7 : Int, InR r7 → q_X0_neighboursLeft x1 h r7 → ((5 < r7 → V_X0_leastToTake_33 P p_X0_neighboursLeft q_X0_neighboursLeft I_2 n_2 h x1) ∧ (¬ 5 < r7 → P x1 h))))))
def V_X0_leastToTake (P : Int → Hp → Prop) (p_X0_neighboursLeft : Int → Hp → Prop) (q_X0_neighboursLeft : Int → Hp → Int → Prop) (I_2 : Nat → Hp → Int → Prop) (h0 : Hp) : Prop :=
  ∀ z9 : Int, z9 = 0 → (∃ n', I_2 n' h0 z9)
set_option maxHeartbeats 4000000 in
set_option maxRecDepth 100000 in
theorem w_X0_leastToTake {l : Launch} (P : Int → Hp → Prop) (p_X0_neighboursLeft : Int → Hp → Prop) (q_X0_neighboursLeft : Int → Hp → Int → Prop) (I_2 : Nat → Hp → Int → Prop) (h0 : Hp)
    (c_X0_neighboursLeft : ∀ (b1 : Int) (h : Hp), p_X0_neighboursLeft b1 h → Ct l yX0_neighboursLeft cX0_neighboursLeft 5 (some .int) 1 21 0 [vr 4, vi b1] h [] (fun r _ => q_X0_neighboursLeft b1 h r) (fun _ => False))
    (o_2 : ∀ (n_2 : Nat) (h : Hp) (x1 : Int), RH h → Fr [] h0 h → InR x1 → I_2 n_2 h x1 → V_X0_leastToTake_2 P p_X0_neighboursLeft q_X0_neighboursLeft I_2 n_2 h x1)
    (o : RH h0 → V_X0_leastToTake P p_X0_neighboursLeft q_X0_neighboursLeft I_2 h0) :
    Ct l yX0_leastToTake cX0_leastToTake 2 (some .int) 2 45 0 [vr 4] h0 [] P (fun _ => False) := by
  refine Ct.of (own := RX0) (by decide) rfl (Nat.le_of_ble_eq_true rfl) ?_
  intro X C hXl hXM hXh hXP hXX hXc hXr hav hR0
  have hmain : V_X0_leastToTake P p_X0_neighboursLeft q_X0_neighboursLeft I_2 h0 := o hR0 
  have B_2 : ∀ (n_2 : Nat) (h : Hp) (x1 : Int), I_2 n_2 h x1 → Wh X 2 [(0, vr 4), (1, vi x1)] [] h 0 := by
    intro n_2
    induction n_2 using Nat.strongRecOn with
    | _ n_2 ih_2 =>
      intro h x1 hI
      refine s_use fun hR hF hL => ?_
      have v := o_2 n_2 h x1 hR (by rw [hXM, hXh] at hF; exact hF) (hL (1, vi x1) (by simp)) hI
      unfold V_X0_leastToTake_2 at v
      have B_33 : ∀ (h : Hp) (x1 : Int), V_X0_leastToTake_33 P p_X0_neighboursLeft q_X0_neighboursLeft I_2 n_2 h x1 → Wh X 33 [(0, vr 4), (1, vi x1)] [] h 0 := by
        intro h x1 v
        unfold V_X0_leastToTake_33 at v
        obtain ⟨o2, v⟩ := v
        refine s_iinc 1 C dX0_leastToTake_33 rfl (by decide) o2 (fun z1 ez1 => ?_)
        have v := v z1 ez1
        show Wh X 36 [(1, vi z1), (0, vr 4)] [] h 0
        refine r_goto (tgt := 2) C dX0_leastToTake_36 (by decide) ?_
        obtain ⟨n', hn', hI'⟩ := v
        exact s_sub [1, 0] rfl (ih_2 n' hn' _ _ hI')
      refine r_iload_n 1 C dX0_leastToTake_2 rfl ?_
      refine r_aload_n 0 C dX0_leastToTake_3 rfl ?_
      refine gf_X0_38 C dX0_leastToTake_4 ?_
      refine gf_X0_42 C dX0_leastToTake_7 ?_
      refine r_icmp_ge (tgt := 39) C dX0_leastToTake_10 (by decide) (fun c3 => ?_) (fun c3 => ?_)
      · have v := v.1 c3
        refine r_iconst C dX0_leastToTake_39 ⟨by decide, by decide⟩ ?_
        exact r_ireturn C dX0_leastToTake_40 hXr (Nat.zero_le _) (by rw [hXP]; exact v)
      · have v := v.2 c3
        refine r_aload_n 0 C dX0_leastToTake_13 rfl ?_
        refine gf_X0_15 C dX0_leastToTake_14 ?_
        refine r_iload_n 1 C dX0_leastToTake_17 rfl ?_
        obtain ⟨o4, v⟩ := v
        refine r_baload (r := 21) (N := 30) C dX0_leastToTake_18 rfl o4 ?_
        refine r_if_ne (tgt := 33) C dX0_leastToTake_19 (by decide) (fun c5 => ?_) (fun c5 => ?_)
        · have v := v.1 c5
          exact s_sub [0, 1] rfl (B_33 _ _ v)
        · have v := v.2 c5
          refine r_aload_n 0 C dX0_leastToTake_22 rfl ?_
          refine r_iload_n 1 C dX0_leastToTake_23 rfl ?_
          obtain ⟨o6, v⟩ := v
          refine s_calli0 [x1] [] C dX0_leastToTake_24 ck_X0_61 (r := 4) (fY := 1) (nY := 21) rfl rfl (by decide) (by decide) (Nat.le_of_ble_eq_true rfl) rfl (by rw [hXl]; exact c_X0_neighboursLeft x1 h o6) (fun r7 gr7 qr7 => ?_)
          have v := v r7 gr7 qr7
          refine r_iconst C dX0_leastToTake_27 ⟨by decide, by decide⟩ ?_
          refine r_icmp_gt (tgt := 33) C dX0_leastToTake_28 (by decide) (fun c8 => ?_) (fun c8 => ?_)
          · have v := v.1 c8
            exact s_sub [0, 1] rfl (B_33 _ _ v)
          · have v := v.2 c8
            refine r_iload_n 1 C dX0_leastToTake_31 rfl ?_
            exact r_ireturn C dX0_leastToTake_32 hXr (Nat.zero_le _) (by rw [hXP]; exact v)
  show Wh X 0 [(0, vr 4)] [] h0 0
  have v := hmain
  unfold V_X0_leastToTake at v
  refine r_iconst C dX0_leastToTake_0 ⟨by decide, by decide⟩ ?_
  refine s_istore_n C dX0_leastToTake_1 (by decide) (fun z9 ez9 => ?_)
  have v := v z9 ez9
  show Wh X 2 [(1, vi z9), (0, vr 4)] [] h0 0
  obtain ⟨n', hI'⟩ := v
  exact s_sub [1, 0] rfl (B_2 n' _ _ hI')

def V_X0_neighboursLeft_48 (P : Int → Hp → Prop) (p_X2_target : Int → Hp → Prop) (q_X2_target : Int → Hp → Int → Prop) (I_15 : Nat → Hp → Int → Int → Int → Int → Prop) (n_15 : Nat) (h : Hp) (x1 : Int) (x2 : Int) (x3 : Int) (x4 : Int) : Prop :=
  ((0 : Int) ≤ x3 ∧ (x3 : Int) < 200) ∧ (∀ z2 : Int, z2 = (h 7 x3) → (InR (x4 + 1) ∧ (∀ z3 : Int, z3 = x4 + 1 → (∃ n', n' < n_15 ∧ I_15 n' h x1 x2 z2 z3))))
def V_X0_neighboursLeft_15 (P : Int → Hp → Prop) (p_X2_target : Int → Hp → Prop) (q_X2_target : Int → Hp → Int → Prop) (I_15 : Nat → Hp → Int → Int → Int → Int → Prop) (n_15 : Nat) (h : Hp) (x1 : Int) (x2 : Int) (x3 : Int) (x4 : Int) : Prop :=
  ((0 : Int) ≤ x1 ∧ (x1 : Int) < 30) ∧ (((h 11 x1) ≤ x4 → P x2 h) ∧ (¬ (h 11 x1) ≤ x4 → p_X2_target x3 h ∧ (∀ r8 : Int, InR r8 → q_X2_target x3 h r8 → (((0 : Int) ≤ r8 ∧ (r8 : Int) < 30) ∧ ((¬ (h 21 r8) = 0 → V_X0_neighboursLeft_48 P p_X2_target q_X2_target I_15 n_15 h x1 x2 x3 x4) ∧ ((h 21 r8) = 0 → InR (x2 + 1) ∧ (∀ z11 : Int, z11 = x2 + 1 → (V_X0_neighboursLeft_48 P p_X2_target q_X2_target I_15 n_15 h x1 z11 x3 x4))))))))
def V_X0_neighboursLeft (P : Int → Hp → Prop) (p_X2_target : Int → Hp → Prop) (q_X2_target : Int → Hp → Int → Prop) (I_15 : Nat → Hp → Int → Int → Int → Int → Prop) (h0 : Hp) (a1 : Int) : Prop :=
  ∀ z13 : Int, z13 = 0 → (((0 : Int) ≤ a1 ∧ (a1 : Int) < 30) ∧ (∀ z15 : Int, z15 = (h0 10 a1) → (∀ z16 : Int, z16 = 0 → (∃ n', I_15 n' h0 a1 z13 z15 z16))))
set_option maxHeartbeats 4000000 in
set_option maxRecDepth 100000 in
theorem w_X0_neighboursLeft {l : Launch} (P : Int → Hp → Prop) (p_X2_target : Int → Hp → Prop) (q_X2_target : Int → Hp → Int → Prop) (I_15 : Nat → Hp → Int → Int → Int → Int → Prop) (h0 : Hp) (a1 : Int)
    (c_X2_target : ∀ (b1 : Int) (h : Hp), p_X2_target b1 h → Ct l yX2_target cX2_target 2 (some .int) 0 0 0 [vr 1, vi b1] h [] (fun r _ => q_X2_target b1 h r) (fun _ => False))
    (o_15 : ∀ (n_15 : Nat) (h : Hp) (x1 : Int) (x2 : Int) (x3 : Int) (x4 : Int), RH h → Fr [] h0 h → InR x1 → InR x2 → InR x3 → InR x4 → I_15 n_15 h x1 x2 x3 x4 → V_X0_neighboursLeft_15 P p_X2_target q_X2_target I_15 n_15 h x1 x2 x3 x4)
    (o : RH h0 → InR a1 → V_X0_neighboursLeft P p_X2_target q_X2_target I_15 h0 a1) :
    Ct l yX0_neighboursLeft cX0_neighboursLeft 5 (some .int) 1 21 0 [vr 4, vi a1] h0 [] P (fun _ => False) := by
  refine Ct.of (own := RX0) (by decide) rfl (Nat.le_of_ble_eq_true rfl) ?_
  intro X C hXl hXM hXh hXP hXX hXc hXr hav hR0
  have hmain : V_X0_neighboursLeft P p_X2_target q_X2_target I_15 h0 a1 := o hR0 (hav (vi a1) (by simp))
  have B_15 : ∀ (n_15 : Nat) (h : Hp) (x1 : Int) (x2 : Int) (x3 : Int) (x4 : Int), I_15 n_15 h x1 x2 x3 x4 → Wh X 15 [(0, vr 4), (1, vi x1), (2, vi x2), (3, vi x3), (4, vi x4)] [] h 0 := by
    intro n_15
    induction n_15 using Nat.strongRecOn with
    | _ n_15 ih_15 =>
      intro h x1 x2 x3 x4 hI
      refine s_use fun hR hF hL => ?_
      have v := o_15 n_15 h x1 x2 x3 x4 hR (by rw [hXM, hXh] at hF; exact hF) (hL (1, vi x1) (by simp)) (hL (2, vi x2) (by simp)) (hL (3, vi x3) (by simp)) (hL (4, vi x4) (by simp)) hI
      unfold V_X0_neighboursLeft_15 at v
      have B_48 : ∀ (h : Hp) (x1 : Int) (x2 : Int) (x3 : Int) (x4 : Int), V_X0_neighboursLeft_48 P p_X2_target q_X2_target I_15 n_15 h x1 x2 x3 x4 → Wh X 48 [(0, vr 4), (1, vi x1), (2, vi x2), (3, vi x3), (4, vi x4)] [] h 0 := by
        intro h x1 x2 x3 x4 v
        unfold V_X0_neighboursLeft_48 at v
        refine r_aload_n 0 C dX0_neighboursLeft_48 rfl ?_
        refine gf_X0_38 C dX0_neighboursLeft_49 ?_
        refine gf_X0_74 C dX0_neighboursLeft_52 ?_
        refine r_iload_n 3 C dX0_neighboursLeft_55 rfl ?_
        obtain ⟨o1, v⟩ := v
        refine r_iaload (r := 7) (N := 200) C dX0_neighboursLeft_56 rfl o1 ?_
        refine s_istore_n C dX0_neighboursLeft_57 (by decide) (fun z2 ez2 => ?_)
        have v := v z2 ez2
        show Wh X 58 [(3, vi z2), (0, vr 4), (1, vi x1), (2, vi x2), (4, vi x4)] [] h 0
        obtain ⟨o4, v⟩ := v
        refine s_iinc 4 C dX0_neighboursLeft_58 rfl (by decide) o4 (fun z3 ez3 => ?_)
        have v := v z3 ez3
        show Wh X 61 [(4, vi z3), (3, vi z2), (0, vr 4), (1, vi x1), (2, vi x2)] [] h 0
        refine r_goto (tgt := 15) C dX0_neighboursLeft_61 (by decide) ?_
        obtain ⟨n', hn', hI'⟩ := v
        exact s_sub [2, 3, 4, 1, 0] rfl (ih_15 n' hn' _ _ _ _ _ hI')
      refine r_iload 4 C dX0_neighboursLeft_15 rfl ?_
      refine r_aload_n 0 C dX0_neighboursLeft_17 rfl ?_
      refine gf_X0_38 C dX0_neighboursLeft_18 ?_
      refine gf_X0_68 C dX0_neighboursLeft_21 ?_
      refine r_iload_n 1 C dX0_neighboursLeft_24 rfl ?_
      obtain ⟨o5, v⟩ := v
      refine r_iaload (r := 11) (N := 30) C dX0_neighboursLeft_25 rfl o5 ?_
      refine r_icmp_ge (tgt := 64) C dX0_neighboursLeft_26 (by decide) (fun c6 => ?_) (fun c6 => ?_)
      · have v := v.1 c6
        refine r_iload_n 2 C dX0_neighboursLeft_64 rfl ?_
        exact r_ireturn C dX0_neighboursLeft_65 hXr (Nat.zero_le _) (by rw [hXP]; exact v)
      · have v := v.2 c6
        refine r_aload_n 0 C dX0_neighboursLeft_29 rfl ?_
        refine gf_X0_15 C dX0_neighboursLeft_30 ?_
        refine r_aload_n 0 C dX0_neighboursLeft_33 rfl ?_
        refine gf_X0_38 C dX0_neighboursLeft_34 ?_
        refine r_iload_n 3 C dX0_neighboursLeft_37 rfl ?_
        obtain ⟨o7, v⟩ := v
        refine s_calli0 [x3] [vr 21] C dX0_neighboursLeft_38 ck_X0_71 (r := 1) (fY := 0) (nY := 0) rfl rfl (by decide) (by decide) (Nat.le_of_ble_eq_true rfl) rfl (by rw [hXl]; exact c_X2_target x3 h o7) (fun r8 gr8 qr8 => ?_)
        have v := v r8 gr8 qr8
        obtain ⟨o9, v⟩ := v
        refine r_baload (r := 21) (N := 30) C dX0_neighboursLeft_41 rfl o9 ?_
        refine r_if_ne (tgt := 48) C dX0_neighboursLeft_42 (by decide) (fun c10 => ?_) (fun c10 => ?_)
        · have v := v.1 c10
          exact s_sub [0, 1, 2, 3, 4] rfl (B_48 _ _ _ _ _ v)
        · have v := v.2 c10
          obtain ⟨o12, v⟩ := v
          refine s_iinc 2 C dX0_neighboursLeft_45 rfl (by decide) o12 (fun z11 ez11 => ?_)
          have v := v z11 ez11
          show Wh X 48 [(2, vi z11), (0, vr 4), (1, vi x1), (3, vi x3), (4, vi x4)] [] h 0
          exact s_sub [1, 2, 0, 3, 4] rfl (B_48 _ _ _ _ _ v)
  show Wh X 0 [(0, vr 4), (1, vi a1)] [] h0 0
  have v := hmain
  unfold V_X0_neighboursLeft at v
  refine r_iconst C dX0_neighboursLeft_0 ⟨by decide, by decide⟩ ?_
  refine s_istore_n C dX0_neighboursLeft_1 (by decide) (fun z13 ez13 => ?_)
  have v := v z13 ez13
  show Wh X 2 [(2, vi z13), (0, vr 4), (1, vi a1)] [] h0 0
  refine r_aload_n 1 C dX0_neighboursLeft_2 rfl ?_
  refine gf_X0_38 C dX0_neighboursLeft_3 ?_
  refine gf_X0_65 C dX0_neighboursLeft_6 ?_
  refine r_iload_n 2 C dX0_neighboursLeft_9 rfl ?_
  obtain ⟨o14, v⟩ := v
  refine r_iaload (r := 10) (N := 30) C dX0_neighboursLeft_10 rfl o14 ?_
  refine s_istore_n C dX0_neighboursLeft_11 (by decide) (fun z15 ez15 => ?_)
  have v := v z15 ez15
  show Wh X 12 [(3, vi z15), (2, vi z13), (0, vr 4), (1, vi a1)] [] h0 0
  refine r_iconst C dX0_neighboursLeft_12 ⟨by decide, by decide⟩ ?_
  refine s_istore C dX0_neighboursLeft_13 (by decide) (fun z16 ez16 => ?_)
  have v := v z16 ez16
  show Wh X 15 [(4, vi z16), (3, vi z15), (2, vi z13), (0, vr 4), (1, vi a1)] [] h0 0
  obtain ⟨n', hI'⟩ := v
  exact s_sub [3, 4, 2, 1, 0] rfl (B_15 n' _ _ _ _ _ hI')

def V_X0_bringBack_25 (P : Int → Hp → Prop) (p_X0_leastFreeColour : Int → Hp → Prop) (q_X0_leastFreeColour : Int → Hp → Int → Prop) (p_X0_colourFreedByChain : Int → Hp → Prop) (q_X0_colourFreedByChain : Int → Hp → Int → Hp → Prop) (h : Hp) (y1 : Int) (y2 : Int) : Prop :=
  ((0 : Int) ≤ y1 ∧ (y1 : Int) < 30) ∧ (∀ h2 : Hp, h2 = hup h 20 y1 y2 → (P 0 h2))
def V_X0_bringBack (P : Int → Hp → Prop) (p_X0_leastFreeColour : Int → Hp → Prop) (q_X0_leastFreeColour : Int → Hp → Int → Prop) (p_X0_colourFreedByChain : Int → Hp → Prop) (q_X0_colourFreedByChain : Int → Hp → Int → Hp → Prop) (h0 : Hp) (a1 : Int) : Prop :=
  p_X0_leastFreeColour a1 h0 ∧ (∀ r4 : Int, InR r4 → q_X0_leastFreeColour a1 h0 r4 → (∀ z5 : Int, z5 = r4 → ((z5 = (-1) → p_X0_colourFreedByChain a1 h0 ∧ (∀ (r8 : Int) (h9 : Hp), Fr [4, 20, 23, 24, 25] h0 h9 → RH h9 → InR r8 → q_X0_colourFreedByChain a1 h0 r8 h9 → (V_X0_bringBack_25 P p_X0_leastFreeColour q_X0_leastFreeColour p_X0_colourFreedByChain q_X0_colourFreedByChain h9 a1 r8))) ∧ (¬ z5 = (-1) → V_X0_bringBack_25 P p_X0_leastFreeColour q_X0_leastFreeColour p_X0_colourFreedByChain q_X0_colourFreedByChain h0 a1 z5))))
set_option maxHeartbeats 4000000 in
set_option maxRecDepth 100000 in
theorem w_X0_bringBack {l : Launch} (P : Int → Hp → Prop) (p_X0_leastFreeColour : Int → Hp → Prop) (q_X0_leastFreeColour : Int → Hp → Int → Prop) (p_X0_colourFreedByChain : Int → Hp → Prop) (q_X0_colourFreedByChain : Int → Hp → Int → Hp → Prop) (h0 : Hp) (a1 : Int)
    (c_X0_leastFreeColour : ∀ (b1 : Int) (h : Hp), p_X0_leastFreeColour b1 h → Ct l yX0_leastFreeColour cX0_leastFreeColour 5 (some .int) 1 21 0 [vr 4, vi b1] h [] (fun r _ => q_X0_leastFreeColour b1 h r) (fun _ => False))
    (c_X0_colourFreedByChain : ∀ (b1 : Int) (h : Hp), p_X0_colourFreedByChain b1 h → Ct l yX0_colourFreedByChain cX0_colourFreedByChain 4 (some .int) 3 72 0 [vr 4, vi b1] h [4, 20, 23, 24, 25] (fun r h1 => q_X0_colourFreedByChain b1 h r h1) (fun _ => False))
    (o : RH h0 → InR a1 → V_X0_bringBack P p_X0_leastFreeColour q_X0_leastFreeColour p_X0_colourFreedByChain q_X0_colourFreedByChain h0 a1) :
    Ct l yX0_bringBack cX0_bringBack 3 none 4 95 0 [vr 4, vi a1] h0 [4, 20, 23, 24, 25] P (fun _ => False) := by
  refine Ct.of (own := RX0) (by decide) rfl (Nat.le_of_ble_eq_true rfl) ?_
  intro X C hXl hXM hXh hXP hXX hXc hXr hav hR0
  have hmain : V_X0_bringBack P p_X0_leastFreeColour q_X0_leastFreeColour p_X0_colourFreedByChain q_X0_colourFreedByChain h0 a1 := o hR0 (hav (vi a1) (by simp))
  have B_25 : ∀ (h : Hp) (y1 : Int) (y2 : Int), V_X0_bringBack_25 P p_X0_leastFreeColour q_X0_leastFreeColour p_X0_colourFreedByChain q_X0_colourFreedByChain h y1 y2 → Wh X 25 [(0, vr 4)] [vi y2, vi y1, vr 20] h 0 := by
    intro h y1 y2 v
    unfold V_X0_bringBack_25 at v
    obtain ⟨o1, v⟩ := v
    refine s_iastore (r := 20) (N := 30) C dX0_bringBack_25 rfl hXM (by decide) o1 (fun h2 eh2 => ?_)
    have v := v h2 eh2
    exact r_return C dX0_bringBack_26 hXr (Nat.zero_le _) (by rw [hXP]; exact v)
  show Wh X 0 [(0, vr 4), (1, vi a1)] [] h0 0
  have v := hmain
  unfold V_X0_bringBack at v
  refine r_aload_n 0 C dX0_bringBack_0 rfl ?_
  refine r_iload_n 1 C dX0_bringBack_1 rfl ?_
  obtain ⟨o3, v⟩ := v
  refine s_calli0 [a1] [] C dX0_bringBack_2 ck_X0_77 (r := 4) (fY := 1) (nY := 21) rfl rfl (by decide) (by decide) (Nat.le_of_ble_eq_true rfl) rfl (by rw [hXl]; exact c_X0_leastFreeColour a1 h0 o3) (fun r4 gr4 qr4 => ?_)
  have v := v r4 gr4 qr4
  refine s_istore_n C dX0_bringBack_5 (by decide) (fun z5 ez5 => ?_)
  have v := v z5 ez5
  show Wh X 6 [(2, vi z5), (0, vr 4), (1, vi a1)] [] h0 0
  refine r_aload_n 1 C dX0_bringBack_6 rfl ?_
  refine gf_X0_9 C dX0_bringBack_7 ?_
  refine r_iload_n 2 C dX0_bringBack_10 rfl ?_
  refine r_iload_n 0 C dX0_bringBack_11 rfl ?_
  refine r_iconst C dX0_bringBack_12 ⟨by decide, by decide⟩ ?_
  refine r_icmp_eq (tgt := 20) C dX0_bringBack_13 (by decide) (fun c6 => ?_) (fun c6 => ?_)
  · have v := v.1 c6
    refine r_aload_n 1 C dX0_bringBack_20 rfl ?_
    refine r_iload_n 2 C dX0_bringBack_21 rfl ?_
    obtain ⟨o7, v⟩ := v
    refine s_calli [a1] [vi a1, vr 20] C dX0_bringBack_22 ck_X0_80 (r := 4) (fY := 3) (nY := 72) rfl rfl (by decide) (by decide) (Nat.le_of_ble_eq_true rfl) rfl (MY := [4, 20, 23, 24, 25]) hXM (by decide) (by rw [hXl]; exact c_X0_colourFreedByChain a1 h0 o7) (fun r8 h9 fr8 kr8 gr8 qr8 => ?_)
    have v := v r8 h9 fr8 kr8 gr8 qr8
    exact s_sub [1] rfl (B_25 _ _ _ v)
  · have v := v.2 c6
    refine r_iload_n 0 C dX0_bringBack_16 rfl ?_
    refine r_goto (tgt := 25) C dX0_bringBack_17 (by decide) ?_
    exact s_sub [1] rfl (B_25 _ _ _ v)

def V_X0_leastFreeColour_66 (P : Int → Hp → Prop) (p_X2_target : Int → Hp → Prop) (q_X2_target : Int → Hp → Int → Prop) (I_15 : Nat → Hp → Int → Int → Int → Int → Prop) (I_66 : Nat → Hp → Int → Int → Prop) (n_66 : Nat) (h : Hp) (x2 : Int) (x4 : Int) : Prop :=
  (5 < x4 → P (-1) h) ∧ (¬ 5 < x4 → (¬ (jand x2 (jshl 1 x4)) = 0 → InR (x4 + 1) ∧ (∀ z3 : Int, z3 = x4 + 1 → (∃ n', n' < n_66 ∧ I_66 n' h x2 z3))) ∧ ((jand x2 (jshl 1 x4)) = 0 → P x4 h))
def V_X0_leastFreeColour_15 (P : Int → Hp → Prop) (p_X2_target : Int → Hp → Prop) (q_X2_target : Int → Hp → Int → Prop) (I_15 : Nat → Hp → Int → Int → Int → Int → Prop) (I_66 : Nat → Hp → Int → Int → Prop) (n_15 : Nat) (h : Hp) (x1 : Int) (x2 : Int) (x3 : Int) (x4 : Int) : Prop :=
  ((0 : Int) ≤ x1 ∧ (x1 : Int) < 30) ∧ (((h 11 x1) ≤ x4 → ∀ z7 : Int, z7 = 1 → (∃ n', I_66 n' h x2 z7)) ∧ (¬ (h 11 x1) ≤ x4 → p_X2_target x3 h ∧ (∀ r9 : Int, InR r9 → q_X2_target x3 h r9 → (((0 : Int) ≤ r9 ∧ (r9 : Int) < 30) ∧ (∀ z11 : Int, z11 = (jor x2 (jshl 1 (h 20 r9))) → (((0 : Int) ≤ x3 ∧ (x3 : Int) < 200) ∧ (∀ z13 : Int, z13 = (h 7 x3) → (InR (x4 + 1) ∧ (∀ z14 : Int, z14 = x4 + 1 → (∃ n', n' < n_15 ∧ I_15 n' h x1 z11 z13 z14))))))))))
def V_X0_leastFreeColour (P : Int → Hp → Prop) (p_X2_target : Int → Hp → Prop) (q_X2_target : Int → Hp → Int → Prop) (I_15 : Nat → Hp → Int → Int → Int → Int → Prop) (I_66 : Nat → Hp → Int → Int → Prop) (h0 : Hp) (a1 : Int) : Prop :=
  ∀ z16 : Int, z16 = 0 → (((0 : Int) ≤ a1 ∧ (a1 : Int) < 30) ∧ (∀ z18 : Int, z18 = (h0 10 a1) → (∀ z19 : Int, z19 = 0 → (∃ n', I_15 n' h0 a1 z16 z18 z19))))
set_option maxHeartbeats 4000000 in
set_option maxRecDepth 100000 in
theorem w_X0_leastFreeColour {l : Launch} (P : Int → Hp → Prop) (p_X2_target : Int → Hp → Prop) (q_X2_target : Int → Hp → Int → Prop) (I_15 : Nat → Hp → Int → Int → Int → Int → Prop) (I_66 : Nat → Hp → Int → Int → Prop) (h0 : Hp) (a1 : Int)
    (c_X2_target : ∀ (b1 : Int) (h : Hp), p_X2_target b1 h → Ct l yX2_target cX2_target 2 (some .int) 0 0 0 [vr 1, vi b1] h [] (fun r _ => q_X2_target b1 h r) (fun _ => False))
    (o_15 : ∀ (n_15 : Nat) (h : Hp) (x1 : Int) (x2 : Int) (x3 : Int) (x4 : Int), RH h → Fr [] h0 h → InR x1 → InR x2 → InR x3 → InR x4 → I_15 n_15 h x1 x2 x3 x4 → V_X0_leastFreeColour_15 P p_X2_target q_X2_target I_15 I_66 n_15 h x1 x2 x3 x4)
    (o_66 : ∀ (n_66 : Nat) (h : Hp) (x2 : Int) (x4 : Int), RH h → Fr [] h0 h → InR x2 → InR x4 → I_66 n_66 h x2 x4 → V_X0_leastFreeColour_66 P p_X2_target q_X2_target I_15 I_66 n_66 h x2 x4)
    (o : RH h0 → InR a1 → V_X0_leastFreeColour P p_X2_target q_X2_target I_15 I_66 h0 a1) :
    Ct l yX0_leastFreeColour cX0_leastFreeColour 5 (some .int) 1 21 0 [vr 4, vi a1] h0 [] P (fun _ => False) := by
  refine Ct.of (own := RX0) (by decide) rfl (Nat.le_of_ble_eq_true rfl) ?_
  intro X C hXl hXM hXh hXP hXX hXc hXr hav hR0
  have hmain : V_X0_leastFreeColour P p_X2_target q_X2_target I_15 I_66 h0 a1 := o hR0 (hav (vi a1) (by simp))
  have B_66 : ∀ (n_66 : Nat) (h : Hp) (x2 : Int) (x4 : Int), I_66 n_66 h x2 x4 → Wh X 66 [(0, vr 4), (2, vi x2), (4, vi x4)] [] h 0 := by
    intro n_66
    induction n_66 using Nat.strongRecOn with
    | _ n_66 ih_66 =>
      intro h x2 x4 hI
      refine s_use fun hR hF hL => ?_
      have v := o_66 n_66 h x2 x4 hR (by rw [hXM, hXh] at hF; exact hF) (hL (2, vi x2) (by simp)) (hL (4, vi x4) (by simp)) hI
      unfold V_X0_leastFreeColour_66 at v
      refine r_iload 2 C dX0_leastFreeColour_66 rfl ?_
      refine r_iconst C dX0_leastFreeColour_68 ⟨by decide, by decide⟩ ?_
      refine r_icmp_gt (tgt := 90) C dX0_leastFreeColour_69 (by decide) (fun c1 => ?_) (fun c1 => ?_)
      · have v := v.1 c1
        refine r_iconst C dX0_leastFreeColour_90 ⟨by decide, by decide⟩ ?_
        exact r_ireturn C dX0_leastFreeColour_91 hXr (Nat.zero_le _) (by rw [hXP]; exact v)
      · have v := v.2 c1
        refine r_iload_n 1 C dX0_leastFreeColour_72 rfl ?_
        refine r_iconst C dX0_leastFreeColour_73 ⟨by decide, by decide⟩ ?_
        refine r_iload 2 C dX0_leastFreeColour_74 rfl ?_
        refine r_ishl C dX0_leastFreeColour_76 ?_
        refine r_iand C dX0_leastFreeColour_77 ?_
        refine r_if_ne (tgt := 84) C dX0_leastFreeColour_78 (by decide) (fun c2 => ?_) (fun c2 => ?_)
        · have v := v.1 c2
          obtain ⟨o4, v⟩ := v
          refine s_iinc 2 C dX0_leastFreeColour_84 rfl (by decide) o4 (fun z3 ez3 => ?_)
          have v := v z3 ez3
          show Wh X 87 [(4, vi z3), (0, vr 4), (2, vi x2)] [] h 0
          refine r_goto (tgt := 66) C dX0_leastFreeColour_87 (by decide) ?_
          obtain ⟨n', hn', hI'⟩ := v
          exact s_sub [1, 2, 0] rfl (ih_66 n' hn' _ _ _ hI')
        · have v := v.2 c2
          refine r_iload 2 C dX0_leastFreeColour_81 rfl ?_
          exact r_ireturn C dX0_leastFreeColour_83 hXr (Nat.zero_le _) (by rw [hXP]; exact v)
  have B_15 : ∀ (n_15 : Nat) (h : Hp) (x1 : Int) (x2 : Int) (x3 : Int) (x4 : Int), I_15 n_15 h x1 x2 x3 x4 → Wh X 15 [(0, vr 4), (1, vi x1), (2, vi x2), (3, vi x3), (4, vi x4)] [] h 0 := by
    intro n_15
    induction n_15 using Nat.strongRecOn with
    | _ n_15 ih_15 =>
      intro h x1 x2 x3 x4 hI
      refine s_use fun hR hF hL => ?_
      have v := o_15 n_15 h x1 x2 x3 x4 hR (by rw [hXM, hXh] at hF; exact hF) (hL (1, vi x1) (by simp)) (hL (2, vi x2) (by simp)) (hL (3, vi x3) (by simp)) (hL (4, vi x4) (by simp)) hI
      unfold V_X0_leastFreeColour_15 at v
      refine r_iload 4 C dX0_leastFreeColour_15 rfl ?_
      refine r_aload_n 0 C dX0_leastFreeColour_17 rfl ?_
      refine gf_X0_38 C dX0_leastFreeColour_18 ?_
      refine gf_X0_68 C dX0_leastFreeColour_21 ?_
      refine r_iload_n 1 C dX0_leastFreeColour_24 rfl ?_
      obtain ⟨o5, v⟩ := v
      refine r_iaload (r := 11) (N := 30) C dX0_leastFreeColour_25 rfl o5 ?_
      refine r_icmp_ge (tgt := 63) C dX0_leastFreeColour_26 (by decide) (fun c6 => ?_) (fun c6 => ?_)
      · have v := v.1 c6
        refine r_iconst C dX0_leastFreeColour_63 ⟨by decide, by decide⟩ ?_
        refine s_istore C dX0_leastFreeColour_64 (by decide) (fun z7 ez7 => ?_)
        have v := v z7 ez7
        show Wh X 66 [(4, vi z7), (0, vr 4), (1, vi x1), (2, vi x2), (3, vi x3)] [] h 0
        obtain ⟨n', hI'⟩ := v
        exact s_sub [1, 3, 0] rfl (B_66 n' _ _ _ hI')
      · have v := v.2 c6
        refine r_iload_n 2 C dX0_leastFreeColour_29 rfl ?_
        refine r_iconst C dX0_leastFreeColour_30 ⟨by decide, by decide⟩ ?_
        refine r_aload_n 0 C dX0_leastFreeColour_31 rfl ?_
        refine gf_X0_9 C dX0_leastFreeColour_32 ?_
        refine r_aload_n 0 C dX0_leastFreeColour_35 rfl ?_
        refine gf_X0_38 C dX0_leastFreeColour_36 ?_
        refine r_iload_n 3 C dX0_leastFreeColour_39 rfl ?_
        obtain ⟨o8, v⟩ := v
        refine s_calli0 [x3] [vr 20, vi 1, vi x2] C dX0_leastFreeColour_40 ck_X0_71 (r := 1) (fY := 0) (nY := 0) rfl rfl (by decide) (by decide) (Nat.le_of_ble_eq_true rfl) rfl (by rw [hXl]; exact c_X2_target x3 h o8) (fun r9 gr9 qr9 => ?_)
        have v := v r9 gr9 qr9
        obtain ⟨o10, v⟩ := v
        refine r_iaload (r := 20) (N := 30) C dX0_leastFreeColour_43 rfl o10 ?_
        refine r_ishl C dX0_leastFreeColour_44 ?_
        refine r_ior C dX0_leastFreeColour_45 ?_
        refine s_istore_n C dX0_leastFreeColour_46 (by decide) (fun z11 ez11 => ?_)
        have v := v z11 ez11
        show Wh X 47 [(2, vi z11), (0, vr 4), (1, vi x1), (3, vi x3), (4, vi x4)] [] h 0
        refine r_aload_n 1 C dX0_leastFreeColour_47 rfl ?_
        refine gf_X0_38 C dX0_leastFreeColour_48 ?_
        refine gf_X0_74 C dX0_leastFreeColour_51 ?_
        refine r_iload_n 3 C dX0_leastFreeColour_54 rfl ?_
        obtain ⟨o12, v⟩ := v
        refine r_iaload (r := 7) (N := 200) C dX0_leastFreeColour_55 rfl o12 ?_
        refine s_istore_n C dX0_leastFreeColour_56 (by decide) (fun z13 ez13 => ?_)
        have v := v z13 ez13
        show Wh X 57 [(3, vi z13), (2, vi z11), (0, vr 4), (1, vi x1), (4, vi x4)] [] h 0
        obtain ⟨o15, v⟩ := v
        refine s_iinc 4 C dX0_leastFreeColour_57 rfl (by decide) o15 (fun z14 ez14 => ?_)
        have v := v z14 ez14
        show Wh X 60 [(4, vi z14), (3, vi z13), (2, vi z11), (0, vr 4), (1, vi x1)] [] h 0
        refine r_goto (tgt := 15) C dX0_leastFreeColour_60 (by decide) ?_
        obtain ⟨n', hn', hI'⟩ := v
        exact s_sub [3, 4, 2, 1, 0] rfl (ih_15 n' hn' _ _ _ _ _ hI')
  show Wh X 0 [(0, vr 4), (1, vi a1)] [] h0 0
  have v := hmain
  unfold V_X0_leastFreeColour at v
  refine r_iconst C dX0_leastFreeColour_0 ⟨by decide, by decide⟩ ?_
  refine s_istore_n C dX0_leastFreeColour_1 (by decide) (fun z16 ez16 => ?_)
  have v := v z16 ez16
  show Wh X 2 [(2, vi z16), (0, vr 4), (1, vi a1)] [] h0 0
  refine r_aload_n 1 C dX0_leastFreeColour_2 rfl ?_
  refine gf_X0_38 C dX0_leastFreeColour_3 ?_
  refine gf_X0_65 C dX0_leastFreeColour_6 ?_
  refine r_iload_n 2 C dX0_leastFreeColour_9 rfl ?_
  obtain ⟨o17, v⟩ := v
  refine r_iaload (r := 10) (N := 30) C dX0_leastFreeColour_10 rfl o17 ?_
  refine s_istore_n C dX0_leastFreeColour_11 (by decide) (fun z18 ez18 => ?_)
  have v := v z18 ez18
  show Wh X 12 [(3, vi z18), (2, vi z16), (0, vr 4), (1, vi a1)] [] h0 0
  refine r_iconst C dX0_leastFreeColour_12 ⟨by decide, by decide⟩ ?_
  refine s_istore C dX0_leastFreeColour_13 (by decide) (fun z19 ez19 => ?_)
  have v := v z19 ez19
  show Wh X 15 [(4, vi z19), (3, vi z18), (2, vi z16), (0, vr 4), (1, vi a1)] [] h0 0
  obtain ⟨n', hI'⟩ := v
  exact s_sub [3, 4, 2, 1, 0] rfl (B_15 n' _ _ _ _ _ hI')

def V_X0_colourFreedByChain_65 (P : Int → Hp → Prop) (p_X0_listFiveRound : Int → Hp → Prop) (q_X0_listFiveRound : Int → Hp → Hp → Prop) (p_X0_collectChain : Int → Int → Hp → Prop) (q_X0_collectChain : Int → Int → Hp → Hp → Prop) (p_X0_swapChain : Int → Int → Hp → Prop) (q_X0_swapChain : Int → Int → Hp → Hp → Prop) (h : Hp) (x2 : Int) : Prop :=
  ((0 : Int) ≤ x2 ∧ (x2 : Int) < 5) ∧ (((0 : Int) ≤ (h 23 x2) ∧ ((h 23 x2) : Int) < 30) ∧ (∀ z3 : Int, z3 = (h 20 (h 23 x2)) → (InR (x2 + 2) ∧ (((0 : Int) ≤ (x2 + 2) ∧ ((x2 + 2) : Int) < 5) ∧ (((0 : Int) ≤ (h 23 (x2 + 2)) ∧ ((h 23 (x2 + 2)) : Int) < 30) ∧ (p_X0_swapChain z3 (h 20 (h 23 (x2 + 2))) h ∧ (∀ h8 : Hp, Fr [20] h h8 → RH h8 → q_X0_swapChain z3 (h 20 (h 23 (x2 + 2))) h h8 → (InR ((h8 4 8) + 1) ∧ (∀ h10 : Hp, h10 = hup h8 4 8 ((h8 4 8) + 1) → (P z3 h10))))))))))
def V_X0_colourFreedByChain (P : Int → Hp → Prop) (p_X0_listFiveRound : Int → Hp → Prop) (q_X0_listFiveRound : Int → Hp → Hp → Prop) (p_X0_collectChain : Int → Int → Hp → Prop) (q_X0_collectChain : Int → Int → Hp → Hp → Prop) (p_X0_swapChain : Int → Int → Hp → Prop) (q_X0_swapChain : Int → Int → Hp → Hp → Prop) (h0 : Hp) (a1 : Int) : Prop :=
  p_X0_listFiveRound a1 h0 ∧ (∀ h12 : Hp, Fr [23] h0 h12 → RH h12 → q_X0_listFiveRound a1 h0 h12 → (((0 : Int) ≤ 0 ∧ (0 : Int) < 5) ∧ (((0 : Int) ≤ 2 ∧ (2 : Int) < 5) ∧ (((0 : Int) ≤ (h12 23 2) ∧ ((h12 23 2) : Int) < 30) ∧ (p_X0_collectChain (h12 23 0) (h12 20 (h12 23 2)) h12 ∧ (∀ h17 : Hp, Fr [4, 24, 25] h12 h17 → RH h17 → q_X0_collectChain (h12 23 0) (h12 20 (h12 23 2)) h12 h17 → (∀ z18 : Int, z18 = 0 → (((0 : Int) ≤ 2 ∧ (2 : Int) < 5) ∧ (((0 : Int) ≤ (h17 23 2) ∧ ((h17 23 2) : Int) < 30) ∧ (((h17 24 (h17 23 2)) = 0 → V_X0_colourFreedByChain_65 P p_X0_listFiveRound q_X0_listFiveRound p_X0_collectChain q_X0_collectChain p_X0_swapChain q_X0_swapChain h17 z18) ∧ (¬ (h17 24 (h17 23 2)) = 0 → ∀ z22 : Int, z22 = 1 → (((0 : Int) ≤ 1 ∧ (1 : Int) < 5) ∧ (((0 : Int) ≤ 3 ∧ (3 : Int) < 5) ∧ (((0 : Int) ≤ (h17 23 3) ∧ ((h17 23 3) : Int) < 30) ∧ (p_X0_collectChain (h17 23 1) (h17 20 (h17 23 3)) h17 ∧ (∀ h27 : Hp, Fr [4, 24, 25] h17 h27 → RH h27 → q_X0_collectChain (h17 23 1) (h17 20 (h17 23 3)) h17 h27 → (V_X0_colourFreedByChain_65 P p_X0_listFiveRound q_X0_listFiveRound p_X0_collectChain q_X0_collectChain p_X0_swapChain q_X0_swapChain h27 z22)))))))))))))))))
set_option maxHeartbeats 4000000 in
set_option maxRecDepth 100000 in
theorem w_X0_colourFreedByChain {l : Launch} (P : Int → Hp → Prop) (p_X0_listFiveRound : Int → Hp → Prop) (q_X0_listFiveRound : Int → Hp → Hp → Prop) (p_X0_collectChain : Int → Int → Hp → Prop) (q_X0_collectChain : Int → Int → Hp → Hp → Prop) (p_X0_swapChain : Int → Int → Hp → Prop) (q_X0_swapChain : Int → Int → Hp → Hp → Prop) (h0 : Hp) (a1 : Int)
    (c_X0_listFiveRound : ∀ (b1 : Int) (h : Hp), p_X0_listFiveRound b1 h → Ct l yX0_listFiveRound cX0_listFiveRound 6 none 1 21 0 [vr 4, vi b1] h [23] (fun _ h1 => q_X0_listFiveRound b1 h h1) (fun _ => False))
    (c_X0_collectChain : ∀ (b1 : Int) (b2 : Int) (h : Hp), p_X0_collectChain b1 b2 h → Ct l yX0_collectChain cX0_collectChain 5 none 2 48 0 [vr 4, vi b1, vi b2] h [4, 24, 25] (fun _ h1 => q_X0_collectChain b1 b2 h h1) (fun _ => False))
    (c_X0_swapChain : ∀ (b1 : Int) (b2 : Int) (h : Hp), p_X0_swapChain b1 b2 h → Ct l yX0_swapChain cX0_swapChain 5 none 0 0 0 [vr 4, vi b1, vi b2] h [20] (fun _ h1 => q_X0_swapChain b1 b2 h h1) (fun _ => False))
    (o : RH h0 → InR a1 → V_X0_colourFreedByChain P p_X0_listFiveRound q_X0_listFiveRound p_X0_collectChain q_X0_collectChain p_X0_swapChain q_X0_swapChain h0 a1) :
    Ct l yX0_colourFreedByChain cX0_colourFreedByChain 4 (some .int) 3 72 0 [vr 4, vi a1] h0 [4, 20, 23, 24, 25] P (fun _ => False) := by
  refine Ct.of (own := RX0) (by decide) rfl (Nat.le_of_ble_eq_true rfl) ?_
  intro X C hXl hXM hXh hXP hXX hXc hXr hav hR0
  have hmain : V_X0_colourFreedByChain P p_X0_listFiveRound q_X0_listFiveRound p_X0_collectChain q_X0_collectChain p_X0_swapChain q_X0_swapChain h0 a1 := o hR0 (hav (vi a1) (by simp))
  have B_65 : ∀ (h : Hp) (x2 : Int), V_X0_colourFreedByChain_65 P p_X0_listFiveRound q_X0_listFiveRound p_X0_collectChain q_X0_collectChain p_X0_swapChain q_X0_swapChain h x2 → Wh X 65 [(0, vr 4), (2, vi x2)] [] h 0 := by
    intro h x2 v
    unfold V_X0_colourFreedByChain_65 at v
    refine r_aload_n 0 C dX0_colourFreedByChain_65 rfl ?_
    refine gf_X0_9 C dX0_colourFreedByChain_66 ?_
    refine r_aload_n 0 C dX0_colourFreedByChain_69 rfl ?_
    refine gf_X0_22 C dX0_colourFreedByChain_70 ?_
    refine r_iload_n 1 C dX0_colourFreedByChain_73 rfl ?_
    obtain ⟨o1, v⟩ := v
    refine r_iaload (r := 23) (N := 5) C dX0_colourFreedByChain_74 rfl o1 ?_
    obtain ⟨o2, v⟩ := v
    refine r_iaload (r := 20) (N := 30) C dX0_colourFreedByChain_75 rfl o2 ?_
    refine s_istore_n C dX0_colourFreedByChain_76 (by decide) (fun z3 ez3 => ?_)
    have v := v z3 ez3
    show Wh X 77 [(3, vi z3), (0, vr 4), (2, vi x2)] [] h 0
    refine r_aload_n 1 C dX0_colourFreedByChain_77 rfl ?_
    refine r_iload_n 0 C dX0_colourFreedByChain_78 rfl ?_
    refine r_aload_n 1 C dX0_colourFreedByChain_79 rfl ?_
    refine gf_X0_9 C dX0_colourFreedByChain_80 ?_
    refine r_aload_n 1 C dX0_colourFreedByChain_83 rfl ?_
    refine gf_X0_22 C dX0_colourFreedByChain_84 ?_
    refine r_iload_n 2 C dX0_colourFreedByChain_87 rfl ?_
    refine r_iconst C dX0_colourFreedByChain_88 ⟨by decide, by decide⟩ ?_
    obtain ⟨o4, v⟩ := v
    refine r_iadd C dX0_colourFreedByChain_89 o4 ?_
    obtain ⟨o5, v⟩ := v
    refine r_iaload (r := 23) (N := 5) C dX0_colourFreedByChain_90 rfl o5 ?_
    obtain ⟨o6, v⟩ := v
    refine r_iaload (r := 20) (N := 30) C dX0_colourFreedByChain_91 rfl o6 ?_
    obtain ⟨o7, v⟩ := v
    refine s_callv [z3, (h 20 (h 23 (x2 + 2)))] [] C dX0_colourFreedByChain_92 ck_X0_90 (r := 4) (fY := 0) (nY := 0) rfl rfl (by decide) (by decide) (Nat.le_of_ble_eq_true rfl) rfl (MY := [20]) hXM (by decide) (by rw [hXl]; exact c_X0_swapChain z3 (h 20 (h 23 (x2 + 2))) h o7) (fun h8 fh8 kh8 qh8 => ?_)
    have v := v h8 fh8 kh8 qh8
    refine r_aload_n 1 C dX0_colourFreedByChain_95 rfl ?_
    refine r_dup C dX0_colourFreedByChain_96 trivial ?_
    refine gf_X0_35 C dX0_colourFreedByChain_97 ?_
    refine r_iconst C dX0_colourFreedByChain_100 ⟨by decide, by decide⟩ ?_
    obtain ⟨o9, v⟩ := v
    refine r_iadd C dX0_colourFreedByChain_101 o9 ?_
    refine pf_X0_35 C dX0_colourFreedByChain_102 hXM (by decide) (fun h10 eh10 => ?_)
    have v := v h10 eh10
    refine r_iload_n 0 C dX0_colourFreedByChain_105 rfl ?_
    exact r_ireturn C dX0_colourFreedByChain_106 hXr (Nat.zero_le _) (by rw [hXP]; exact v)
  show Wh X 0 [(0, vr 4), (1, vi a1)] [] h0 0
  have v := hmain
  unfold V_X0_colourFreedByChain at v
  refine r_aload_n 0 C dX0_colourFreedByChain_0 rfl ?_
  refine r_iload_n 1 C dX0_colourFreedByChain_1 rfl ?_
  obtain ⟨o11, v⟩ := v
  refine s_callv [a1] [] C dX0_colourFreedByChain_2 ck_X0_83 (r := 4) (fY := 1) (nY := 21) rfl rfl (by decide) (by decide) (Nat.le_of_ble_eq_true rfl) rfl (MY := [23]) hXM (by decide) (by rw [hXl]; exact c_X0_listFiveRound a1 h0 o11) (fun h12 fh12 kh12 qh12 => ?_)
  have v := v h12 fh12 kh12 qh12
  refine r_aload_n 0 C dX0_colourFreedByChain_5 rfl ?_
  refine r_aload_n 0 C dX0_colourFreedByChain_6 rfl ?_
  refine gf_X0_22 C dX0_colourFreedByChain_7 ?_
  refine r_iconst C dX0_colourFreedByChain_10 ⟨by decide, by decide⟩ ?_
  obtain ⟨o13, v⟩ := v
  refine r_iaload (r := 23) (N := 5) C dX0_colourFreedByChain_11 rfl o13 ?_
  refine r_aload_n 0 C dX0_colourFreedByChain_12 rfl ?_
  refine gf_X0_9 C dX0_colourFreedByChain_13 ?_
  refine r_aload_n 0 C dX0_colourFreedByChain_16 rfl ?_
  refine gf_X0_22 C dX0_colourFreedByChain_17 ?_
  refine r_iconst C dX0_colourFreedByChain_20 ⟨by decide, by decide⟩ ?_
  obtain ⟨o14, v⟩ := v
  refine r_iaload (r := 23) (N := 5) C dX0_colourFreedByChain_21 rfl o14 ?_
  obtain ⟨o15, v⟩ := v
  refine r_iaload (r := 20) (N := 30) C dX0_colourFreedByChain_22 rfl o15 ?_
  obtain ⟨o16, v⟩ := v
  refine s_callv [(h12 23 0), (h12 20 (h12 23 2))] [] C dX0_colourFreedByChain_23 ck_X0_86 (r := 4) (fY := 2) (nY := 48) rfl rfl (by decide) (by decide) (Nat.le_of_ble_eq_true rfl) rfl (MY := [4, 24, 25]) hXM (by decide) (by rw [hXl]; exact c_X0_collectChain (h12 23 0) (h12 20 (h12 23 2)) h12 o16) (fun h17 fh17 kh17 qh17 => ?_)
  have v := v h17 fh17 kh17 qh17
  refine r_iconst C dX0_colourFreedByChain_26 ⟨by decide, by decide⟩ ?_
  refine s_istore_n C dX0_colourFreedByChain_27 (by decide) (fun z18 ez18 => ?_)
  have v := v z18 ez18
  show Wh X 28 [(2, vi z18), (0, vr 4), (1, vi a1)] [] h17 0
  refine r_aload_n 1 C dX0_colourFreedByChain_28 rfl ?_
  refine gf_X0_25 C dX0_colourFreedByChain_29 ?_
  refine r_aload_n 1 C dX0_colourFreedByChain_32 rfl ?_
  refine gf_X0_22 C dX0_colourFreedByChain_33 ?_
  refine r_iconst C dX0_colourFreedByChain_36 ⟨by decide, by decide⟩ ?_
  obtain ⟨o19, v⟩ := v
  refine r_iaload (r := 23) (N := 5) C dX0_colourFreedByChain_37 rfl o19 ?_
  obtain ⟨o20, v⟩ := v
  refine r_baload (r := 24) (N := 30) C dX0_colourFreedByChain_38 rfl o20 ?_
  refine r_if_eq (tgt := 65) C dX0_colourFreedByChain_39 (by decide) (fun c21 => ?_) (fun c21 => ?_)
  · have v := v.1 c21
    exact s_sub [1, 0] rfl (B_65 _ _ v)
  · have v := v.2 c21
    refine r_iconst C dX0_colourFreedByChain_42 ⟨by decide, by decide⟩ ?_
    refine s_istore_n C dX0_colourFreedByChain_43 (by decide) (fun z22 ez22 => ?_)
    have v := v z22 ez22
    show Wh X 44 [(2, vi z22), (0, vr 4), (1, vi a1)] [] h17 0
    refine r_aload_n 1 C dX0_colourFreedByChain_44 rfl ?_
    refine r_aload_n 1 C dX0_colourFreedByChain_45 rfl ?_
    refine gf_X0_22 C dX0_colourFreedByChain_46 ?_
    refine r_iconst C dX0_colourFreedByChain_49 ⟨by decide, by decide⟩ ?_
    obtain ⟨o23, v⟩ := v
    refine r_iaload (r := 23) (N := 5) C dX0_colourFreedByChain_50 rfl o23 ?_
    refine r_aload_n 1 C dX0_colourFreedByChain_51 rfl ?_
    refine gf_X0_9 C dX0_colourFreedByChain_52 ?_
    refine r_aload_n 1 C dX0_colourFreedByChain_55 rfl ?_
    refine gf_X0_22 C dX0_colourFreedByChain_56 ?_
    refine r_iconst C dX0_colourFreedByChain_59 ⟨by decide, by decide⟩ ?_
    obtain ⟨o24, v⟩ := v
    refine r_iaload (r := 23) (N := 5) C dX0_colourFreedByChain_60 rfl o24 ?_
    obtain ⟨o25, v⟩ := v
    refine r_iaload (r := 20) (N := 30) C dX0_colourFreedByChain_61 rfl o25 ?_
    obtain ⟨o26, v⟩ := v
    refine s_callv [(h17 23 1), (h17 20 (h17 23 3))] [] C dX0_colourFreedByChain_62 ck_X0_86 (r := 4) (fY := 2) (nY := 48) rfl rfl (by decide) (by decide) (Nat.le_of_ble_eq_true rfl) rfl (MY := [4, 24, 25]) hXM (by decide) (by rw [hXl]; exact c_X0_collectChain (h17 23 1) (h17 20 (h17 23 3)) h17 o26) (fun h27 fh27 kh27 qh27 => ?_)
    have v := v h27 fh27 kh27 qh27
    exact s_sub [1, 0] rfl (B_65 _ _ v)

def V_X0_listFiveRound_65 (P : Int → Hp → Prop) (p_X2_target : Int → Hp → Prop) (q_X2_target : Int → Hp → Int → Prop) (I_15 : Nat → Hp → Int → Int → Int → Int → Prop) (n_15 : Nat) (h : Hp) (x1 : Int) (x2 : Int) (x3 : Int) (x4 : Int) : Prop :=
  ((0 : Int) ≤ x3 ∧ (x3 : Int) < 200) ∧ (∀ z2 : Int, z2 = (h 7 x3) → (InR (x4 + 1) ∧ (∀ z3 : Int, z3 = x4 + 1 → (∃ n', n' < n_15 ∧ I_15 n' h x1 x2 z2 z3))))
def V_X0_listFiveRound_15 (P : Int → Hp → Prop) (p_X2_target : Int → Hp → Prop) (q_X2_target : Int → Hp → Int → Prop) (I_15 : Nat → Hp → Int → Int → Int → Int → Prop) (n_15 : Nat) (h : Hp) (x1 : Int) (x2 : Int) (x3 : Int) (x4 : Int) : Prop :=
  ((0 : Int) ≤ x1 ∧ (x1 : Int) < 30) ∧ (((h 11 x1) ≤ x4 → P 0 h) ∧ (¬ (h 11 x1) ≤ x4 → p_X2_target x3 h ∧ (∀ r8 : Int, InR r8 → q_X2_target x3 h r8 → (∀ z9 : Int, z9 = r8 → (((0 : Int) ≤ z9 ∧ (z9 : Int) < 30) ∧ (((h 20 z9) = 0 → V_X0_listFiveRound_65 P p_X2_target q_X2_target I_15 n_15 h x1 x2 x3 x4) ∧ (¬ (h 20 z9) = 0 → (5 ≤ x2 → V_X0_listFiveRound_65 P p_X2_target q_X2_target I_15 n_15 h x1 x2 x3 x4) ∧ (¬ 5 ≤ x2 → ((0 : Int) ≤ x2 ∧ (x2 : Int) < 5) ∧ (∀ h14 : Hp, h14 = hup h 23 x2 z9 → (InR (x2 + 1) ∧ (∀ z15 : Int, z15 = x2 + 1 → (V_X0_listFiveRound_65 P p_X2_target q_X2_target I_15 n_15 h14 x1 z15 x3 x4))))))))))))
def V_X0_listFiveRound (P : Int → Hp → Prop) (p_X2_target : Int → Hp → Prop) (q_X2_target : Int → Hp → Int → Prop) (I_15 : Nat → Hp → Int → Int → Int → Int → Prop) (h0 : Hp) (a1 : Int) : Prop :=
  ∀ z17 : Int, z17 = 0 → (((0 : Int) ≤ a1 ∧ (a1 : Int) < 30) ∧ (∀ z19 : Int, z19 = (h0 10 a1) → (∀ z20 : Int, z20 = 0 → (∃ n', I_15 n' h0 a1 z17 z19 z20))))
set_option maxHeartbeats 4000000 in
set_option maxRecDepth 100000 in
theorem w_X0_listFiveRound {l : Launch} (P : Int → Hp → Prop) (p_X2_target : Int → Hp → Prop) (q_X2_target : Int → Hp → Int → Prop) (I_15 : Nat → Hp → Int → Int → Int → Int → Prop) (h0 : Hp) (a1 : Int)
    (c_X2_target : ∀ (b1 : Int) (h : Hp), p_X2_target b1 h → Ct l yX2_target cX2_target 2 (some .int) 0 0 0 [vr 1, vi b1] h [] (fun r _ => q_X2_target b1 h r) (fun _ => False))
    (o_15 : ∀ (n_15 : Nat) (h : Hp) (x1 : Int) (x2 : Int) (x3 : Int) (x4 : Int), RH h → Fr [23] h0 h → InR x1 → InR x2 → InR x3 → InR x4 → I_15 n_15 h x1 x2 x3 x4 → V_X0_listFiveRound_15 P p_X2_target q_X2_target I_15 n_15 h x1 x2 x3 x4)
    (o : RH h0 → InR a1 → V_X0_listFiveRound P p_X2_target q_X2_target I_15 h0 a1) :
    Ct l yX0_listFiveRound cX0_listFiveRound 6 none 1 21 0 [vr 4, vi a1] h0 [23] P (fun _ => False) := by
  refine Ct.of (own := RX0) (by decide) rfl (Nat.le_of_ble_eq_true rfl) ?_
  intro X C hXl hXM hXh hXP hXX hXc hXr hav hR0
  have hmain : V_X0_listFiveRound P p_X2_target q_X2_target I_15 h0 a1 := o hR0 (hav (vi a1) (by simp))
  have B_15 : ∀ (n_15 : Nat) (h : Hp) (x1 : Int) (x2 : Int) (x3 : Int) (x4 : Int), I_15 n_15 h x1 x2 x3 x4 → Wh X 15 [(0, vr 4), (1, vi x1), (2, vi x2), (3, vi x3), (4, vi x4)] [] h 0 := by
    intro n_15
    induction n_15 using Nat.strongRecOn with
    | _ n_15 ih_15 =>
      intro h x1 x2 x3 x4 hI
      refine s_use fun hR hF hL => ?_
      have v := o_15 n_15 h x1 x2 x3 x4 hR (by rw [hXM, hXh] at hF; exact hF) (hL (1, vi x1) (by simp)) (hL (2, vi x2) (by simp)) (hL (3, vi x3) (by simp)) (hL (4, vi x4) (by simp)) hI
      unfold V_X0_listFiveRound_15 at v
      have B_65 : ∀ (h : Hp) (x1 : Int) (x2 : Int) (x3 : Int) (x4 : Int), V_X0_listFiveRound_65 P p_X2_target q_X2_target I_15 n_15 h x1 x2 x3 x4 → Wh X 65 [(0, vr 4), (1, vi x1), (2, vi x2), (3, vi x3), (4, vi x4)] [] h 0 := by
        intro h x1 x2 x3 x4 v
        unfold V_X0_listFiveRound_65 at v
        refine r_aload_n 0 C dX0_listFiveRound_65 rfl ?_
        refine gf_X0_38 C dX0_listFiveRound_66 ?_
        refine gf_X0_74 C dX0_listFiveRound_69 ?_
        refine r_iload_n 3 C dX0_listFiveRound_72 rfl ?_
        obtain ⟨o1, v⟩ := v
        refine r_iaload (r := 7) (N := 200) C dX0_listFiveRound_73 rfl o1 ?_
        refine s_istore_n C dX0_listFiveRound_74 (by decide) (fun z2 ez2 => ?_)
        have v := v z2 ez2
        show Wh X 75 [(3, vi z2), (0, vr 4), (1, vi x1), (2, vi x2), (4, vi x4)] [] h 0
        obtain ⟨o4, v⟩ := v
        refine s_iinc 4 C dX0_listFiveRound_75 rfl (by decide) o4 (fun z3 ez3 => ?_)
        have v := v z3 ez3
        show Wh X 78 [(4, vi z3), (3, vi z2), (0, vr 4), (1, vi x1), (2, vi x2)] [] h 0
        refine r_goto (tgt := 15) C dX0_listFiveRound_78 (by decide) ?_
        obtain ⟨n', hn', hI'⟩ := v
        exact s_sub [2, 3, 4, 1, 0] rfl (ih_15 n' hn' _ _ _ _ _ hI')
      refine r_iload 4 C dX0_listFiveRound_15 rfl ?_
      refine r_aload_n 0 C dX0_listFiveRound_17 rfl ?_
      refine gf_X0_38 C dX0_listFiveRound_18 ?_
      refine gf_X0_68 C dX0_listFiveRound_21 ?_
      refine r_iload_n 1 C dX0_listFiveRound_24 rfl ?_
      obtain ⟨o5, v⟩ := v
      refine r_iaload (r := 11) (N := 30) C dX0_listFiveRound_25 rfl o5 ?_
      refine r_icmp_ge (tgt := 81) C dX0_listFiveRound_26 (by decide) (fun c6 => ?_) (fun c6 => ?_)
      · have v := v.1 c6
        exact r_return C dX0_listFiveRound_81 hXr (Nat.zero_le _) (by rw [hXP]; exact v)
      · have v := v.2 c6
        refine r_aload_n 0 C dX0_listFiveRound_29 rfl ?_
        refine gf_X0_38 C dX0_listFiveRound_30 ?_
        refine r_iload_n 3 C dX0_listFiveRound_33 rfl ?_
        obtain ⟨o7, v⟩ := v
        refine s_calli0 [x3] [] C dX0_listFiveRound_34 ck_X0_71 (r := 1) (fY := 0) (nY := 0) rfl rfl (by decide) (by decide) (Nat.le_of_ble_eq_true rfl) rfl (by rw [hXl]; exact c_X2_target x3 h o7) (fun r8 gr8 qr8 => ?_)
        have v := v r8 gr8 qr8
        refine s_istore C dX0_listFiveRound_37 (by decide) (fun z9 ez9 => ?_)
        have v := v z9 ez9
        show Wh X 39 [(5, vi z9), (0, vr 4), (1, vi x1), (2, vi x2), (3, vi x3), (4, vi x4)] [] h 0
        refine r_aload_n 1 C dX0_listFiveRound_39 rfl ?_
        refine gf_X0_9 C dX0_listFiveRound_40 ?_
        refine r_iload 0 C dX0_listFiveRound_43 rfl ?_
        obtain ⟨o10, v⟩ := v
        refine r_iaload (r := 20) (N := 30) C dX0_listFiveRound_45 rfl o10 ?_
        refine r_if_eq (tgt := 65) C dX0_listFiveRound_46 (by decide) (fun c11 => ?_) (fun c11 => ?_)
        · have v := v.1 c11
          exact s_sub [1, 2, 3, 4, 5] rfl (B_65 _ _ _ _ _ v)
        · have v := v.2 c11
          refine r_iload_n 3 C dX0_listFiveRound_49 rfl ?_
          refine r_iconst C dX0_listFiveRound_50 ⟨by decide, by decide⟩ ?_
          refine r_icmp_ge (tgt := 65) C dX0_listFiveRound_51 (by decide) (fun c12 => ?_) (fun c12 => ?_)
          · have v := v.1 c12
            exact s_sub [1, 2, 3, 4, 5] rfl (B_65 _ _ _ _ _ v)
          · have v := v.2 c12
            refine r_aload_n 1 C dX0_listFiveRound_54 rfl ?_
            refine gf_X0_22 C dX0_listFiveRound_55 ?_
            refine r_iload_n 3 C dX0_listFiveRound_58 rfl ?_
            refine r_iload 0 C dX0_listFiveRound_59 rfl ?_
            obtain ⟨o13, v⟩ := v
            refine s_iastore (r := 23) (N := 5) C dX0_listFiveRound_61 rfl hXM (by decide) o13 (fun h14 eh14 => ?_)
            have v := v h14 eh14
            obtain ⟨o16, v⟩ := v
            refine s_iinc 3 C dX0_listFiveRound_62 rfl (by decide) o16 (fun z15 ez15 => ?_)
            have v := v z15 ez15
            show Wh X 65 [(2, vi z15), (5, vi z9), (0, vr 4), (1, vi x1), (3, vi x3), (4, vi x4)] [] h14 0
            exact s_sub [2, 3, 0, 4, 5] rfl (B_65 _ _ _ _ _ v)
  show Wh X 0 [(0, vr 4), (1, vi a1)] [] h0 0
  have v := hmain
  unfold V_X0_listFiveRound at v
  refine r_iconst C dX0_listFiveRound_0 ⟨by decide, by decide⟩ ?_
  refine s_istore_n C dX0_listFiveRound_1 (by decide) (fun z17 ez17 => ?_)
  have v := v z17 ez17
  show Wh X 2 [(2, vi z17), (0, vr 4), (1, vi a1)] [] h0 0
  refine r_aload_n 1 C dX0_listFiveRound_2 rfl ?_
  refine gf_X0_38 C dX0_listFiveRound_3 ?_
  refine gf_X0_65 C dX0_listFiveRound_6 ?_
  refine r_iload_n 2 C dX0_listFiveRound_9 rfl ?_
  obtain ⟨o18, v⟩ := v
  refine r_iaload (r := 10) (N := 30) C dX0_listFiveRound_10 rfl o18 ?_
  refine s_istore_n C dX0_listFiveRound_11 (by decide) (fun z19 ez19 => ?_)
  have v := v z19 ez19
  show Wh X 12 [(3, vi z19), (2, vi z17), (0, vr 4), (1, vi a1)] [] h0 0
  refine r_iconst C dX0_listFiveRound_12 ⟨by decide, by decide⟩ ?_
  refine s_istore C dX0_listFiveRound_13 (by decide) (fun z20 ez20 => ?_)
  have v := v z20 ez20
  show Wh X 15 [(4, vi z20), (3, vi z19), (2, vi z17), (0, vr 4), (1, vi a1)] [] h0 0
  obtain ⟨n', hI'⟩ := v
  exact s_sub [3, 4, 2, 1, 0] rfl (B_15 n' _ _ _ _ _ hI')

def V_X0_collectChain_81 (P : Int → Hp → Prop) (p_X0_addToChain : Int → Hp → Prop) (q_X0_addToChain : Int → Hp → Hp → Prop) (p_X0_addNeighboursOf : Int → Int → Int → Hp → Prop) (q_X0_addNeighboursOf : Int → Int → Int → Hp → Hp → Prop) (I_2 : Nat → Hp → Int → Int → Int → Prop) (I_46 : Nat → Hp → Int → Int → Int → Prop) (h : Hp) : Prop :=
  P 0 h
def V_X0_collectChain_46 (P : Int → Hp → Prop) (p_X0_addToChain : Int → Hp → Prop) (q_X0_addToChain : Int → Hp → Hp → Prop) (p_X0_addNeighboursOf : Int → Int → Int → Hp → Prop) (q_X0_addNeighboursOf : Int → Int → Int → Hp → Hp → Prop) (I_2 : Nat → Hp → Int → Int → Int → Prop) (I_46 : Nat → Hp → Int → Int → Int → Prop) (n_46 : Nat) (h : Hp) (x2 : Int) (x3 : Int) (x4 : Int) : Prop :=
  ((h 4 7) ≤ x4 → V_X0_collectChain_81 P p_X0_addToChain q_X0_addToChain p_X0_addNeighboursOf q_X0_addNeighboursOf I_2 I_46 h) ∧ (¬ (h 4 7) ≤ x4 → (30 ≤ x4 → V_X0_collectChain_81 P p_X0_addToChain q_X0_addToChain p_X0_addNeighboursOf q_X0_addNeighboursOf I_2 I_46 h) ∧ (¬ 30 ≤ x4 → ((0 : Int) ≤ x4 ∧ (x4 : Int) < 30) ∧ (p_X0_addNeighboursOf (h 25 x4) x3 x2 h ∧ (∀ h5 : Hp, Fr [4, 24, 25] h h5 → RH h5 → q_X0_addNeighboursOf (h 25 x4) x3 x2 h h5 → (InR (x4 + 1) ∧ (∀ z6 : Int, z6 = x4 + 1 → (∃ n', n' < n_46 ∧ I_46 n' h5 x2 x3 z6)))))))
def V_X0_collectChain_2 (P : Int → Hp → Prop) (p_X0_addToChain : Int → Hp → Prop) (q_X0_addToChain : Int → Hp → Hp → Prop) (p_X0_addNeighboursOf : Int → Int → Int → Hp → Prop) (q_X0_addNeighboursOf : Int → Int → Int → Hp → Hp → Prop) (I_2 : Nat → Hp → Int → Int → Int → Prop) (I_46 : Nat → Hp → Int → Int → Int → Prop) (n_2 : Nat) (h : Hp) (x1 : Int) (x2 : Int) (x3 : Int) : Prop :=
  ((h 1 6) ≤ x3 → ((0 : Int) ≤ x1 ∧ (x1 : Int) < 30) ∧ (∀ z10 : Int, z10 = (h 20 x1) → (∀ h11 : Hp, h11 = hup h 4 7 0 → (p_X0_addToChain x1 h11 ∧ (∀ h13 : Hp, Fr [4, 24, 25] h11 h13 → RH h13 → q_X0_addToChain x1 h11 h13 → (∀ z14 : Int, z14 = 0 → (∃ n', I_46 n' h13 x2 z10 z14))))))) ∧ (¬ (h 1 6) ≤ x3 → ((0 : Int) ≤ x3 ∧ (x3 : Int) < 30) ∧ (∀ h16 : Hp, h16 = hup h 24 x3 0 → (InR (x3 + 1) ∧ (∀ z17 : Int, z17 = x3 + 1 → (∃ n', n' < n_2 ∧ I_2 n' h16 x1 x2 z17)))))
def V_X0_collectChain (P : Int → Hp → Prop) (p_X0_addToChain : Int → Hp → Prop) (q_X0_addToChain : Int → Hp → Hp → Prop) (p_X0_addNeighboursOf : Int → Int → Int → Hp → Prop) (q_X0_addNeighboursOf : Int → Int → Int → Hp → Hp → Prop) (I_2 : Nat → Hp → Int → Int → Int → Prop) (I_46 : Nat → Hp → Int → Int → Int → Prop) (h0 : Hp) (a1 : Int) (a2 : Int) : Prop :=
  ∀ z19 : Int, z19 = 0 → (∃ n', I_2 n' h0 a1 a2 z19)
set_option maxHeartbeats 4000000 in
set_option maxRecDepth 100000 in
theorem w_X0_collectChain {l : Launch} (P : Int → Hp → Prop) (p_X0_addToChain : Int → Hp → Prop) (q_X0_addToChain : Int → Hp → Hp → Prop) (p_X0_addNeighboursOf : Int → Int → Int → Hp → Prop) (q_X0_addNeighboursOf : Int → Int → Int → Hp → Hp → Prop) (I_2 : Nat → Hp → Int → Int → Int → Prop) (I_46 : Nat → Hp → Int → Int → Int → Prop) (h0 : Hp) (a1 : Int) (a2 : Int)
    (c_X0_addToChain : ∀ (b1 : Int) (h : Hp), p_X0_addToChain b1 h → Ct l yX0_addToChain cX0_addToChain 2 none 0 0 0 [vr 4, vi b1] h [4, 24, 25] (fun _ h1 => q_X0_addToChain b1 h h1) (fun _ => False))
    (c_X0_addNeighboursOf : ∀ (b1 : Int) (b2 : Int) (b3 : Int) (h : Hp), p_X0_addNeighboursOf b1 b2 b3 h → Ct l yX0_addNeighboursOf cX0_addNeighboursOf 8 none 1 21 0 [vr 4, vi b1, vi b2, vi b3] h [4, 24, 25] (fun _ h1 => q_X0_addNeighboursOf b1 b2 b3 h h1) (fun _ => False))
    (o_2 : ∀ (n_2 : Nat) (h : Hp) (x1 : Int) (x2 : Int) (x3 : Int), RH h → Fr [4, 24, 25] h0 h → InR x1 → InR x2 → InR x3 → I_2 n_2 h x1 x2 x3 → V_X0_collectChain_2 P p_X0_addToChain q_X0_addToChain p_X0_addNeighboursOf q_X0_addNeighboursOf I_2 I_46 n_2 h x1 x2 x3)
    (o_46 : ∀ (n_46 : Nat) (h : Hp) (x2 : Int) (x3 : Int) (x4 : Int), RH h → Fr [4, 24, 25] h0 h → InR x2 → InR x3 → InR x4 → I_46 n_46 h x2 x3 x4 → V_X0_collectChain_46 P p_X0_addToChain q_X0_addToChain p_X0_addNeighboursOf q_X0_addNeighboursOf I_2 I_46 n_46 h x2 x3 x4)
    (o : RH h0 → InR a1 → InR a2 → V_X0_collectChain P p_X0_addToChain q_X0_addToChain p_X0_addNeighboursOf q_X0_addNeighboursOf I_2 I_46 h0 a1 a2) :
    Ct l yX0_collectChain cX0_collectChain 5 none 2 48 0 [vr 4, vi a1, vi a2] h0 [4, 24, 25] P (fun _ => False) := by
  refine Ct.of (own := RX0) (by decide) rfl (Nat.le_of_ble_eq_true rfl) ?_
  intro X C hXl hXM hXh hXP hXX hXc hXr hav hR0
  have hmain : V_X0_collectChain P p_X0_addToChain q_X0_addToChain p_X0_addNeighboursOf q_X0_addNeighboursOf I_2 I_46 h0 a1 a2 := o hR0 (hav (vi a1) (by simp)) (hav (vi a2) (by simp))
  have B_81 : ∀ (h : Hp), V_X0_collectChain_81 P p_X0_addToChain q_X0_addToChain p_X0_addNeighboursOf q_X0_addNeighboursOf I_2 I_46 h → Wh X 81 [(0, vr 4)] [] h 0 := by
    intro h v
    unfold V_X0_collectChain_81 at v
    exact r_return C dX0_collectChain_81 hXr (Nat.zero_le _) (by rw [hXP]; exact v)
  have B_46 : ∀ (n_46 : Nat) (h : Hp) (x2 : Int) (x3 : Int) (x4 : Int), I_46 n_46 h x2 x3 x4 → Wh X 46 [(0, vr 4), (2, vi x2), (3, vi x3), (4, vi x4)] [] h 0 := by
    intro n_46
    induction n_46 using Nat.strongRecOn with
    | _ n_46 ih_46 =>
      intro h x2 x3 x4 hI
      refine s_use fun hR hF hL => ?_
      have v := o_46 n_46 h x2 x3 x4 hR (by rw [hXM, hXh] at hF; exact hF) (hL (2, vi x2) (by simp)) (hL (3, vi x3) (by simp)) (hL (4, vi x4) (by simp)) hI
      unfold V_X0_collectChain_46 at v
      refine r_iload 3 C dX0_collectChain_46 rfl ?_
      refine r_aload_n 0 C dX0_collectChain_48 rfl ?_
      refine gf_X0_31 C dX0_collectChain_49 ?_
      refine r_icmp_ge (tgt := 81) C dX0_collectChain_52 (by decide) (fun c1 => ?_) (fun c1 => ?_)
      · have v := v.1 c1
        exact s_sub [0] rfl (B_81 _ v)
      · have v := v.2 c1
        refine r_iload 3 C dX0_collectChain_55 rfl ?_
        refine r_bipush C dX0_collectChain_57 ⟨by decide, by decide⟩ (by decide) ?_
        refine r_icmp_ge (tgt := 81) C dX0_collectChain_59 (by decide) (fun c2 => ?_) (fun c2 => ?_)
        · have v := v.1 c2
          exact s_sub [0] rfl (B_81 _ v)
        · have v := v.2 c2
          refine r_aload_n 0 C dX0_collectChain_62 rfl ?_
          refine r_aload_n 0 C dX0_collectChain_63 rfl ?_
          refine gf_X0_28 C dX0_collectChain_64 ?_
          refine r_iload 3 C dX0_collectChain_67 rfl ?_
          obtain ⟨o3, v⟩ := v
          refine r_iaload (r := 25) (N := 30) C dX0_collectChain_69 rfl o3 ?_
          refine r_iload_n 2 C dX0_collectChain_70 rfl ?_
          refine r_iload_n 1 C dX0_collectChain_71 rfl ?_
          obtain ⟨o4, v⟩ := v
          refine s_callv [(h 25 x4), x3, x2] [] C dX0_collectChain_72 ck_X0_96 (r := 4) (fY := 1) (nY := 21) rfl rfl (by decide) (by decide) (Nat.le_of_ble_eq_true rfl) rfl (MY := [4, 24, 25]) hXM (by decide) (by rw [hXl]; exact c_X0_addNeighboursOf (h 25 x4) x3 x2 h o4) (fun h5 fh5 kh5 qh5 => ?_)
          have v := v h5 fh5 kh5 qh5
          obtain ⟨o7, v⟩ := v
          refine s_iinc 3 C dX0_collectChain_75 rfl (by decide) o7 (fun z6 ez6 => ?_)
          have v := v z6 ez6
          show Wh X 78 [(4, vi z6), (0, vr 4), (2, vi x2), (3, vi x3)] [] h5 0
          refine r_goto (tgt := 46) C dX0_collectChain_78 (by decide) ?_
          obtain ⟨n', hn', hI'⟩ := v
          exact s_sub [1, 2, 3, 0] rfl (ih_46 n' hn' _ _ _ _ hI')
  have B_2 : ∀ (n_2 : Nat) (h : Hp) (x1 : Int) (x2 : Int) (x3 : Int), I_2 n_2 h x1 x2 x3 → Wh X 2 [(0, vr 4), (1, vi x1), (2, vi x2), (3, vi x3)] [] h 0 := by
    intro n_2
    induction n_2 using Nat.strongRecOn with
    | _ n_2 ih_2 =>
      intro h x1 x2 x3 hI
      refine s_use fun hR hF hL => ?_
      have v := o_2 n_2 h x1 x2 x3 hR (by rw [hXM, hXh] at hF; exact hF) (hL (1, vi x1) (by simp)) (hL (2, vi x2) (by simp)) (hL (3, vi x3) (by simp)) hI
      unfold V_X0_collectChain_2 at v
      refine r_iload_n 3 C dX0_collectChain_2 rfl ?_
      refine r_aload_n 0 C dX0_collectChain_3 rfl ?_
      refine gf_X0_38 C dX0_collectChain_4 ?_
      refine gf_X0_42 C dX0_collectChain_7 ?_
      refine r_icmp_ge (tgt := 26) C dX0_collectChain_10 (by decide) (fun c8 => ?_) (fun c8 => ?_)
      · have v := v.1 c8
        refine r_aload_n 0 C dX0_collectChain_26 rfl ?_
        refine gf_X0_9 C dX0_collectChain_27 ?_
        refine r_iload_n 1 C dX0_collectChain_30 rfl ?_
        obtain ⟨o9, v⟩ := v
        refine r_iaload (r := 20) (N := 30) C dX0_collectChain_31 rfl o9 ?_
        refine s_istore_n C dX0_collectChain_32 (by decide) (fun z10 ez10 => ?_)
        have v := v z10 ez10
        show Wh X 33 [(3, vi z10), (0, vr 4), (1, vi x1), (2, vi x2)] [] h 0
        refine r_aload_n 1 C dX0_collectChain_33 rfl ?_
        refine r_iconst C dX0_collectChain_34 ⟨by decide, by decide⟩ ?_
        refine pf_X0_31 C dX0_collectChain_35 hXM (by decide) (fun h11 eh11 => ?_)
        have v := v h11 eh11
        refine r_aload_n 1 C dX0_collectChain_38 rfl ?_
        refine r_iload_n 2 C dX0_collectChain_39 rfl ?_
        obtain ⟨o12, v⟩ := v
        refine s_callv [x1] [] C dX0_collectChain_40 ck_X0_93 (r := 4) (fY := 0) (nY := 0) rfl rfl (by decide) (by decide) (Nat.le_of_ble_eq_true rfl) rfl (MY := [4, 24, 25]) hXM (by decide) (by rw [hXl]; exact c_X0_addToChain x1 h11 o12) (fun h13 fh13 kh13 qh13 => ?_)
        have v := v h13 fh13 kh13 qh13
        refine r_iconst C dX0_collectChain_43 ⟨by decide, by decide⟩ ?_
        refine s_istore C dX0_collectChain_44 (by decide) (fun z14 ez14 => ?_)
        have v := v z14 ez14
        show Wh X 46 [(4, vi z14), (3, vi z10), (0, vr 4), (1, vi x1), (2, vi x2)] [] h13 0
        obtain ⟨n', hI'⟩ := v
        exact s_sub [2, 4, 1, 0] rfl (B_46 n' _ _ _ _ hI')
      · have v := v.2 c8
        refine r_aload_n 0 C dX0_collectChain_13 rfl ?_
        refine gf_X0_25 C dX0_collectChain_14 ?_
        refine r_iload_n 3 C dX0_collectChain_17 rfl ?_
        refine r_iconst C dX0_collectChain_18 ⟨by decide, by decide⟩ ?_
        obtain ⟨o15, v⟩ := v
        refine s_bastore (r := 24) (N := 30) C dX0_collectChain_19 rfl hXM (by decide) o15 (by decide) (fun h16 eh16 => ?_)
        have v := v h16 eh16
        obtain ⟨o18, v⟩ := v
        refine s_iinc 3 C dX0_collectChain_20 rfl (by decide) o18 (fun z17 ez17 => ?_)
        have v := v z17 ez17
        show Wh X 23 [(3, vi z17), (0, vr 4), (1, vi x1), (2, vi x2)] [] h16 0
        refine r_goto (tgt := 2) C dX0_collectChain_23 (by decide) ?_
        obtain ⟨n', hn', hI'⟩ := v
        exact s_sub [1, 2, 3, 0] rfl (ih_2 n' hn' _ _ _ _ hI')
  show Wh X 0 [(0, vr 4), (1, vi a1), (2, vi a2)] [] h0 0
  have v := hmain
  unfold V_X0_collectChain at v
  refine r_iconst C dX0_collectChain_0 ⟨by decide, by decide⟩ ?_
  refine s_istore_n C dX0_collectChain_1 (by decide) (fun z19 ez19 => ?_)
  have v := v z19 ez19
  show Wh X 2 [(3, vi z19), (0, vr 4), (1, vi a1), (2, vi a2)] [] h0 0
  obtain ⟨n', hI'⟩ := v
  exact s_sub [1, 2, 3, 0] rfl (B_2 n' _ _ _ _ hI')

def V_X0_addNeighboursOf_76 (P : Int → Hp → Prop) (p_X2_target : Int → Hp → Prop) (q_X2_target : Int → Hp → Int → Prop) (p_X0_addToChain : Int → Hp → Prop) (q_X0_addToChain : Int → Hp → Hp → Prop) (I_14 : Nat → Hp → Int → Int → Int → Int → Int → Prop) (n_14 : Nat) (h : Hp) (x1 : Int) (x2 : Int) (x3 : Int) (x4 : Int) (x5 : Int) : Prop :=
  ((0 : Int) ≤ x4 ∧ (x4 : Int) < 200) ∧ (∀ z2 : Int, z2 = (h 7 x4) → (InR (x5 + 1) ∧ (∀ z3 : Int, z3 = x5 + 1 → (∃ n', n' < n_14 ∧ I_14 n' h x1 x2 x3 z2 z3))))
def V_X0_addNeighboursOf_70 (P : Int → Hp → Prop) (p_X2_target : Int → Hp → Prop) (q_X2_target : Int → Hp → Int → Prop) (p_X0_addToChain : Int → Hp → Prop) (q_X0_addToChain : Int → Hp → Hp → Prop) (I_14 : Nat → Hp → Int → Int → Int → Int → Int → Prop) (n_14 : Nat) (h : Hp) (x1 : Int) (x2 : Int) (x3 : Int) (x4 : Int) (x5 : Int) (x6 : Int) : Prop :=
  p_X0_addToChain x6 h ∧ (∀ h6 : Hp, Fr [4, 24, 25] h h6 → RH h6 → q_X0_addToChain x6 h h6 → (V_X0_addNeighboursOf_76 P p_X2_target q_X2_target p_X0_addToChain q_X0_addToChain I_14 n_14 h6 x1 x2 x3 x4 x5))
def V_X0_addNeighboursOf_14 (P : Int → Hp → Prop) (p_X2_target : Int → Hp → Prop) (q_X2_target : Int → Hp → Int → Prop) (p_X0_addToChain : Int → Hp → Prop) (q_X0_addToChain : Int → Hp → Hp → Prop) (I_14 : Nat → Hp → Int → Int → Int → Int → Int → Prop) (n_14 : Nat) (h : Hp) (x1 : Int) (x2 : Int) (x3 : Int) (x4 : Int) (x5 : Int) : Prop :=
  ((0 : Int) ≤ x1 ∧ (x1 : Int) < 30) ∧ (((h 11 x1) ≤ x5 → P 0 h) ∧ (¬ (h 11 x1) ≤ x5 → p_X2_target x4 h ∧ (∀ r10 : Int, InR r10 → q_X2_target x4 h r10 → (∀ z11 : Int, z11 = r10 → (((0 : Int) ≤ z11 ∧ (z11 : Int) < 30) ∧ (∀ z13 : Int, z13 = (h 20 z11) → (((0 : Int) ≤ z11 ∧ (z11 : Int) < 30) ∧ ((¬ (h 24 z11) = 0 → V_X0_addNeighboursOf_76 P p_X2_target q_X2_target p_X0_addToChain q_X0_addToChain I_14 n_14 h x1 x2 x3 x4 x5) ∧ ((h 24 z11) = 0 → (z13 = x2 → V_X0_addNeighboursOf_70 P p_X2_target q_X2_target p_X0_addToChain q_X0_addToChain I_14 n_14 h x1 x2 x3 x4 x5 z11) ∧ (¬ z13 = x2 → (¬ z13 = x3 → V_X0_addNeighboursOf_76 P p_X2_target q_X2_target p_X0_addToChain q_X0_addToChain I_14 n_14 h x1 x2 x3 x4 x5) ∧ (z13 = x3 → V_X0_addNeighboursOf_70 P p_X2_target q_X2_target p_X0_addToChain q_X0_addToChain I_14 n_14 h x1 x2 x3 x4 x5 z11)))))))))))
def V_X0_addNeighboursOf (P : Int → Hp → Prop) (p_X2_target : Int → Hp → Prop) (q_X2_target : Int → Hp → Int → Prop) (p_X0_addToChain : Int → Hp → Prop) (q_X0_addToChain : Int → Hp → Hp → Prop) (I_14 : Nat → Hp → Int → Int → Int → Int → Int → Prop) (h0 : Hp) (a1 : Int) (a2 : Int) (a3 : Int) : Prop :=
  ((0 : Int) ≤ a1 ∧ (a1 : Int) < 30) ∧ (∀ z19 : Int, z19 = (h0 10 a1) → (∀ z20 : Int, z20 = 0 → (∃ n', I_14 n' h0 a1 a2 a3 z19 z20)))
set_option maxHeartbeats 4000000 in
set_option maxRecDepth 100000 in
theorem w_X0_addNeighboursOf {l : Launch} (P : Int → Hp → Prop) (p_X2_target : Int → Hp → Prop) (q_X2_target : Int → Hp → Int → Prop) (p_X0_addToChain : Int → Hp → Prop) (q_X0_addToChain : Int → Hp → Hp → Prop) (I_14 : Nat → Hp → Int → Int → Int → Int → Int → Prop) (h0 : Hp) (a1 : Int) (a2 : Int) (a3 : Int)
    (c_X2_target : ∀ (b1 : Int) (h : Hp), p_X2_target b1 h → Ct l yX2_target cX2_target 2 (some .int) 0 0 0 [vr 1, vi b1] h [] (fun r _ => q_X2_target b1 h r) (fun _ => False))
    (c_X0_addToChain : ∀ (b1 : Int) (h : Hp), p_X0_addToChain b1 h → Ct l yX0_addToChain cX0_addToChain 2 none 0 0 0 [vr 4, vi b1] h [4, 24, 25] (fun _ h1 => q_X0_addToChain b1 h h1) (fun _ => False))
    (o_14 : ∀ (n_14 : Nat) (h : Hp) (x1 : Int) (x2 : Int) (x3 : Int) (x4 : Int) (x5 : Int), RH h → Fr [4, 24, 25] h0 h → InR x1 → InR x2 → InR x3 → InR x4 → InR x5 → I_14 n_14 h x1 x2 x3 x4 x5 → V_X0_addNeighboursOf_14 P p_X2_target q_X2_target p_X0_addToChain q_X0_addToChain I_14 n_14 h x1 x2 x3 x4 x5)
    (o : RH h0 → InR a1 → InR a2 → InR a3 → V_X0_addNeighboursOf P p_X2_target q_X2_target p_X0_addToChain q_X0_addToChain I_14 h0 a1 a2 a3) :
    Ct l yX0_addNeighboursOf cX0_addNeighboursOf 8 none 1 21 0 [vr 4, vi a1, vi a2, vi a3] h0 [4, 24, 25] P (fun _ => False) := by
  refine Ct.of (own := RX0) (by decide) rfl (Nat.le_of_ble_eq_true rfl) ?_
  intro X C hXl hXM hXh hXP hXX hXc hXr hav hR0
  have hmain : V_X0_addNeighboursOf P p_X2_target q_X2_target p_X0_addToChain q_X0_addToChain I_14 h0 a1 a2 a3 := o hR0 (hav (vi a1) (by simp)) (hav (vi a2) (by simp)) (hav (vi a3) (by simp))
  have B_14 : ∀ (n_14 : Nat) (h : Hp) (x1 : Int) (x2 : Int) (x3 : Int) (x4 : Int) (x5 : Int), I_14 n_14 h x1 x2 x3 x4 x5 → Wh X 14 [(0, vr 4), (1, vi x1), (2, vi x2), (3, vi x3), (4, vi x4), (5, vi x5)] [] h 0 := by
    intro n_14
    induction n_14 using Nat.strongRecOn with
    | _ n_14 ih_14 =>
      intro h x1 x2 x3 x4 x5 hI
      refine s_use fun hR hF hL => ?_
      have v := o_14 n_14 h x1 x2 x3 x4 x5 hR (by rw [hXM, hXh] at hF; exact hF) (hL (1, vi x1) (by simp)) (hL (2, vi x2) (by simp)) (hL (3, vi x3) (by simp)) (hL (4, vi x4) (by simp)) (hL (5, vi x5) (by simp)) hI
      unfold V_X0_addNeighboursOf_14 at v
      have B_76 : ∀ (h : Hp) (x1 : Int) (x2 : Int) (x3 : Int) (x4 : Int) (x5 : Int), V_X0_addNeighboursOf_76 P p_X2_target q_X2_target p_X0_addToChain q_X0_addToChain I_14 n_14 h x1 x2 x3 x4 x5 → Wh X 76 [(0, vr 4), (1, vi x1), (2, vi x2), (3, vi x3), (4, vi x4), (5, vi x5)] [] h 0 := by
        intro h x1 x2 x3 x4 x5 v
        unfold V_X0_addNeighboursOf_76 at v
        refine r_aload_n 0 C dX0_addNeighboursOf_76 rfl ?_
        refine gf_X0_38 C dX0_addNeighboursOf_77 ?_
        refine gf_X0_74 C dX0_addNeighboursOf_80 ?_
        refine r_iload 4 C dX0_addNeighboursOf_83 rfl ?_
        obtain ⟨o1, v⟩ := v
        refine r_iaload (r := 7) (N := 200) C dX0_addNeighboursOf_85 rfl o1 ?_
        refine s_istore C dX0_addNeighboursOf_86 (by decide) (fun z2 ez2 => ?_)
        have v := v z2 ez2
        show Wh X 88 [(4, vi z2), (0, vr 4), (1, vi x1), (2, vi x2), (3, vi x3), (5, vi x5)] [] h 0
        obtain ⟨o4, v⟩ := v
        refine s_iinc 5 C dX0_addNeighboursOf_88 rfl (by decide) o4 (fun z3 ez3 => ?_)
        have v := v z3 ez3
        show Wh X 91 [(5, vi z3), (4, vi z2), (0, vr 4), (1, vi x1), (2, vi x2), (3, vi x3)] [] h 0
        refine r_goto (tgt := 14) C dX0_addNeighboursOf_91 (by decide) ?_
        obtain ⟨n', hn', hI'⟩ := v
        exact s_sub [2, 3, 4, 5, 1, 0] rfl (ih_14 n' hn' _ _ _ _ _ _ hI')
      have B_70 : ∀ (h : Hp) (x1 : Int) (x2 : Int) (x3 : Int) (x4 : Int) (x5 : Int) (x6 : Int), V_X0_addNeighboursOf_70 P p_X2_target q_X2_target p_X0_addToChain q_X0_addToChain I_14 n_14 h x1 x2 x3 x4 x5 x6 → Wh X 70 [(0, vr 4), (1, vi x1), (2, vi x2), (3, vi x3), (4, vi x4), (5, vi x5), (6, vi x6)] [] h 0 := by
        intro h x1 x2 x3 x4 x5 x6 v
        unfold V_X0_addNeighboursOf_70 at v
        refine r_aload_n 0 C dX0_addNeighboursOf_70 rfl ?_
        refine r_iload 6 C dX0_addNeighboursOf_71 rfl ?_
        obtain ⟨o5, v⟩ := v
        refine s_callv [x6] [] C dX0_addNeighboursOf_73 ck_X0_93 (r := 4) (fY := 0) (nY := 0) rfl rfl (by decide) (by decide) (Nat.le_of_ble_eq_true rfl) rfl (MY := [4, 24, 25]) hXM (by decide) (by rw [hXl]; exact c_X0_addToChain x6 h o5) (fun h6 fh6 kh6 qh6 => ?_)
        have v := v h6 fh6 kh6 qh6
        exact s_sub [0, 1, 2, 3, 4, 5] rfl (B_76 _ _ _ _ _ _ v)
      refine r_iload 5 C dX0_addNeighboursOf_14 rfl ?_
      refine r_aload_n 0 C dX0_addNeighboursOf_16 rfl ?_
      refine gf_X0_38 C dX0_addNeighboursOf_17 ?_
      refine gf_X0_68 C dX0_addNeighboursOf_20 ?_
      refine r_iload_n 1 C dX0_addNeighboursOf_23 rfl ?_
      obtain ⟨o7, v⟩ := v
      refine r_iaload (r := 11) (N := 30) C dX0_addNeighboursOf_24 rfl o7 ?_
      refine r_icmp_ge (tgt := 94) C dX0_addNeighboursOf_25 (by decide) (fun c8 => ?_) (fun c8 => ?_)
      · have v := v.1 c8
        exact r_return C dX0_addNeighboursOf_94 hXr (Nat.zero_le _) (by rw [hXP]; exact v)
      · have v := v.2 c8
        refine r_aload_n 0 C dX0_addNeighboursOf_28 rfl ?_
        refine gf_X0_38 C dX0_addNeighboursOf_29 ?_
        refine r_iload 4 C dX0_addNeighboursOf_32 rfl ?_
        obtain ⟨o9, v⟩ := v
        refine s_calli0 [x4] [] C dX0_addNeighboursOf_34 ck_X0_71 (r := 1) (fY := 0) (nY := 0) rfl rfl (by decide) (by decide) (Nat.le_of_ble_eq_true rfl) rfl (by rw [hXl]; exact c_X2_target x4 h o9) (fun r10 gr10 qr10 => ?_)
        have v := v r10 gr10 qr10
        refine s_istore C dX0_addNeighboursOf_37 (by decide) (fun z11 ez11 => ?_)
        have v := v z11 ez11
        show Wh X 39 [(6, vi z11), (0, vr 4), (1, vi x1), (2, vi x2), (3, vi x3), (4, vi x4), (5, vi x5)] [] h 0
        refine r_aload_n 1 C dX0_addNeighboursOf_39 rfl ?_
        refine gf_X0_9 C dX0_addNeighboursOf_40 ?_
        refine r_iload 0 C dX0_addNeighboursOf_43 rfl ?_
        obtain ⟨o12, v⟩ := v
        refine r_iaload (r := 20) (N := 30) C dX0_addNeighboursOf_45 rfl o12 ?_
        refine s_istore C dX0_addNeighboursOf_46 (by decide) (fun z13 ez13 => ?_)
        have v := v z13 ez13
        show Wh X 48 [(7, vi z13), (6, vi z11), (0, vr 4), (1, vi x1), (2, vi x2), (3, vi x3), (4, vi x4), (5, vi x5)] [] h 0
        refine r_aload_n 2 C dX0_addNeighboursOf_48 rfl ?_
        refine gf_X0_25 C dX0_addNeighboursOf_49 ?_
        refine r_iload 1 C dX0_addNeighboursOf_52 rfl ?_
        obtain ⟨o14, v⟩ := v
        refine r_baload (r := 24) (N := 30) C dX0_addNeighboursOf_54 rfl o14 ?_
        refine r_if_ne (tgt := 76) C dX0_addNeighboursOf_55 (by decide) (fun c15 => ?_) (fun c15 => ?_)
        · have v := v.1 c15
          exact s_sub [2, 3, 4, 5, 6, 7] rfl (B_76 _ _ _ _ _ _ v)
        · have v := v.2 c15
          refine r_iload 0 C dX0_addNeighboursOf_58 rfl ?_
          refine r_iload_n 4 C dX0_addNeighboursOf_60 rfl ?_
          refine r_icmp_eq (tgt := 70) C dX0_addNeighboursOf_61 (by decide) (fun c16 => ?_) (fun c16 => ?_)
          · have v := v.1 c16
            exact s_sub [2, 3, 4, 5, 6, 7, 1] rfl (B_70 _ _ _ _ _ _ _ v)
          · have v := v.2 c16
            refine r_iload 0 C dX0_addNeighboursOf_64 rfl ?_
            refine r_iload_n 5 C dX0_addNeighboursOf_66 rfl ?_
            refine r_icmp_ne (tgt := 76) C dX0_addNeighboursOf_67 (by decide) (fun c17 => ?_) (fun c17 => ?_)
            · have v := v.1 c17
              exact s_sub [2, 3, 4, 5, 6, 7] rfl (B_76 _ _ _ _ _ _ v)
            · have v := v.2 c17
              exact s_sub [2, 3, 4, 5, 6, 7, 1] rfl (B_70 _ _ _ _ _ _ _ v)
  show Wh X 0 [(0, vr 4), (1, vi a1), (2, vi a2), (3, vi a3)] [] h0 0
  have v := hmain
  unfold V_X0_addNeighboursOf at v
  refine r_aload_n 0 C dX0_addNeighboursOf_0 rfl ?_
  refine gf_X0_38 C dX0_addNeighboursOf_1 ?_
  refine gf_X0_65 C dX0_addNeighboursOf_4 ?_
  refine r_iload_n 1 C dX0_addNeighboursOf_7 rfl ?_
  obtain ⟨o18, v⟩ := v
  refine r_iaload (r := 10) (N := 30) C dX0_addNeighboursOf_8 rfl o18 ?_
  refine s_istore C dX0_addNeighboursOf_9 (by decide) (fun z19 ez19 => ?_)
  have v := v z19 ez19
  show Wh X 11 [(4, vi z19), (0, vr 4), (1, vi a1), (2, vi a2), (3, vi a3)] [] h0 0
  refine r_iconst C dX0_addNeighboursOf_11 ⟨by decide, by decide⟩ ?_
  refine s_istore C dX0_addNeighboursOf_12 (by decide) (fun z20 ez20 => ?_)
  have v := v z20 ez20
  show Wh X 14 [(5, vi z20), (4, vi z19), (0, vr 4), (1, vi a1), (2, vi a2), (3, vi a3)] [] h0 0
  obtain ⟨n', hI'⟩ := v
  exact s_sub [2, 3, 4, 5, 1, 0] rfl (B_14 n' _ _ _ _ _ _ hI')

def V_X0_addToChain (P : Int → Hp → Prop) (h0 : Hp) (a1 : Int) : Prop :=
  ((0 : Int) ≤ a1 ∧ (a1 : Int) < 30) ∧ (∀ h2 : Hp, h2 = hup h0 24 a1 1 → (((0 : Int) ≤ (h2 4 7) ∧ ((h2 4 7) : Int) < 30) ∧ (∀ h4 : Hp, h4 = hup h2 25 (h2 4 7) a1 → (InR ((h4 4 7) + 1) ∧ (∀ h6 : Hp, h6 = hup h4 4 7 ((h4 4 7) + 1) → (P 0 h6))))))
set_option maxHeartbeats 4000000 in
set_option maxRecDepth 100000 in
theorem w_X0_addToChain {l : Launch} (P : Int → Hp → Prop) (h0 : Hp) (a1 : Int)
    (o : RH h0 → InR a1 → V_X0_addToChain P h0 a1) :
    Ct l yX0_addToChain cX0_addToChain 2 none 0 0 0 [vr 4, vi a1] h0 [4, 24, 25] P (fun _ => False) := by
  refine Ct.of (own := RX0) (by decide) rfl (Nat.le_of_ble_eq_true rfl) ?_
  intro X C hXl hXM hXh hXP hXX hXc hXr hav hR0
  have hmain : V_X0_addToChain P h0 a1 := o hR0 (hav (vi a1) (by simp))
  show Wh X 0 [(0, vr 4), (1, vi a1)] [] h0 0
  have v := hmain
  unfold V_X0_addToChain at v
  refine r_aload_n 0 C dX0_addToChain_0 rfl ?_
  refine gf_X0_25 C dX0_addToChain_1 ?_
  refine r_iload_n 1 C dX0_addToChain_4 rfl ?_
  refine r_iconst C dX0_addToChain_5 ⟨by decide, by decide⟩ ?_
  obtain ⟨o1, v⟩ := v
  refine s_bastore (r := 24) (N := 30) C dX0_addToChain_6 rfl hXM (by decide) o1 (by decide) (fun h2 eh2 => ?_)
  have v := v h2 eh2
  refine r_aload_n 0 C dX0_addToChain_7 rfl ?_
  refine gf_X0_28 C dX0_addToChain_8 ?_
  refine r_aload_n 0 C dX0_addToChain_11 rfl ?_
  refine gf_X0_31 C dX0_addToChain_12 ?_
  refine r_iload_n 1 C dX0_addToChain_15 rfl ?_
  obtain ⟨o3, v⟩ := v
  refine s_iastore (r := 25) (N := 30) C dX0_addToChain_16 rfl hXM (by decide) o3 (fun h4 eh4 => ?_)
  have v := v h4 eh4
  refine r_aload_n 0 C dX0_addToChain_17 rfl ?_
  refine r_dup C dX0_addToChain_18 trivial ?_
  refine gf_X0_31 C dX0_addToChain_19 ?_
  refine r_iconst C dX0_addToChain_22 ⟨by decide, by decide⟩ ?_
  obtain ⟨o5, v⟩ := v
  refine r_iadd C dX0_addToChain_23 o5 ?_
  refine pf_X0_31 C dX0_addToChain_24 hXM (by decide) (fun h6 eh6 => ?_)
  have v := v h6 eh6
  exact r_return C dX0_addToChain_27 hXr (Nat.zero_le _) (by rw [hXP]; exact v)

def V_X0_swapChain_40 (P : Int → Hp → Prop) (I_2 : Nat → Hp → Int → Int → Int → Prop) (n_2 : Nat) (h : Hp) (x1 : Int) (x2 : Int) (x3 : Int) (y1 : Int) (y2 : Int) : Prop :=
  ((0 : Int) ≤ y1 ∧ (y1 : Int) < 30) ∧ (∀ h2 : Hp, h2 = hup h 20 y1 y2 → (InR (x3 + 1) ∧ (∀ z3 : Int, z3 = x3 + 1 → (∃ n', n' < n_2 ∧ I_2 n' h2 x1 x2 z3))))
def V_X0_swapChain_2 (P : Int → Hp → Prop) (I_2 : Nat → Hp → Int → Int → Int → Prop) (n_2 : Nat) (h : Hp) (x1 : Int) (x2 : Int) (x3 : Int) : Prop :=
  ((h 4 7) ≤ x3 → P 0 h) ∧ (¬ (h 4 7) ≤ x3 → ((0 : Int) ≤ x3 ∧ (x3 : Int) < 30) ∧ (∀ z7 : Int, z7 = (h 25 x3) → (((0 : Int) ≤ z7 ∧ (z7 : Int) < 30) ∧ ((¬ (h 20 z7) = x1 → V_X0_swapChain_40 P I_2 n_2 h x1 x2 x3 z7 x1) ∧ ((h 20 z7) = x1 → V_X0_swapChain_40 P I_2 n_2 h x1 x2 x3 z7 x2)))))
def V_X0_swapChain (P : Int → Hp → Prop) (I_2 : Nat → Hp → Int → Int → Int → Prop) (h0 : Hp) (a1 : Int) (a2 : Int) : Prop :=
  ∀ z10 : Int, z10 = 0 → (∃ n', I_2 n' h0 a1 a2 z10)
set_option maxHeartbeats 4000000 in
set_option maxRecDepth 100000 in
theorem w_X0_swapChain {l : Launch} (P : Int → Hp → Prop) (I_2 : Nat → Hp → Int → Int → Int → Prop) (h0 : Hp) (a1 : Int) (a2 : Int)
    (o_2 : ∀ (n_2 : Nat) (h : Hp) (x1 : Int) (x2 : Int) (x3 : Int), RH h → Fr [20] h0 h → InR x1 → InR x2 → InR x3 → I_2 n_2 h x1 x2 x3 → V_X0_swapChain_2 P I_2 n_2 h x1 x2 x3)
    (o : RH h0 → InR a1 → InR a2 → V_X0_swapChain P I_2 h0 a1 a2) :
    Ct l yX0_swapChain cX0_swapChain 5 none 0 0 0 [vr 4, vi a1, vi a2] h0 [20] P (fun _ => False) := by
  refine Ct.of (own := RX0) (by decide) rfl (Nat.le_of_ble_eq_true rfl) ?_
  intro X C hXl hXM hXh hXP hXX hXc hXr hav hR0
  have hmain : V_X0_swapChain P I_2 h0 a1 a2 := o hR0 (hav (vi a1) (by simp)) (hav (vi a2) (by simp))
  have B_2 : ∀ (n_2 : Nat) (h : Hp) (x1 : Int) (x2 : Int) (x3 : Int), I_2 n_2 h x1 x2 x3 → Wh X 2 [(0, vr 4), (1, vi x1), (2, vi x2), (3, vi x3)] [] h 0 := by
    intro n_2
    induction n_2 using Nat.strongRecOn with
    | _ n_2 ih_2 =>
      intro h x1 x2 x3 hI
      refine s_use fun hR hF hL => ?_
      have v := o_2 n_2 h x1 x2 x3 hR (by rw [hXM, hXh] at hF; exact hF) (hL (1, vi x1) (by simp)) (hL (2, vi x2) (by simp)) (hL (3, vi x3) (by simp)) hI
      unfold V_X0_swapChain_2 at v
      have B_40 : ∀ (h : Hp) (x1 : Int) (x2 : Int) (x3 : Int) (y1 : Int) (y2 : Int), V_X0_swapChain_40 P I_2 n_2 h x1 x2 x3 y1 y2 → Wh X 40 [(0, vr 4), (1, vi x1), (2, vi x2), (3, vi x3)] [vi y2, vi y1, vr 20] h 0 := by
        intro h x1 x2 x3 y1 y2 v
        unfold V_X0_swapChain_40 at v
        obtain ⟨o1, v⟩ := v
        refine s_iastore (r := 20) (N := 30) C dX0_swapChain_40 rfl hXM (by decide) o1 (fun h2 eh2 => ?_)
        have v := v h2 eh2
        obtain ⟨o4, v⟩ := v
        refine s_iinc 3 C dX0_swapChain_41 rfl (by decide) o4 (fun z3 ez3 => ?_)
        have v := v z3 ez3
        show Wh X 44 [(3, vi z3), (0, vr 4), (1, vi x1), (2, vi x2)] [] h2 0
        refine r_goto (tgt := 2) C dX0_swapChain_44 (by decide) ?_
        obtain ⟨n', hn', hI'⟩ := v
        exact s_sub [1, 2, 3, 0] rfl (ih_2 n' hn' _ _ _ _ hI')
      refine r_iload_n 3 C dX0_swapChain_2 rfl ?_
      refine r_aload_n 0 C dX0_swapChain_3 rfl ?_
      refine gf_X0_31 C dX0_swapChain_4 ?_
      refine r_icmp_ge (tgt := 47) C dX0_swapChain_7 (by decide) (fun c5 => ?_) (fun c5 => ?_)
      · have v := v.1 c5
        exact r_return C dX0_swapChain_47 hXr (Nat.zero_le _) (by rw [hXP]; exact v)
      · have v := v.2 c5
        refine r_aload_n 0 C dX0_swapChain_10 rfl ?_
        refine gf_X0_28 C dX0_swapChain_11 ?_
        refine r_iload_n 3 C dX0_swapChain_14 rfl ?_
        obtain ⟨o6, v⟩ := v
        refine r_iaload (r := 25) (N := 30) C dX0_swapChain_15 rfl o6 ?_
        refine s_istore C dX0_swapChain_16 (by decide) (fun z7 ez7 => ?_)
        have v := v z7 ez7
        show Wh X 18 [(4, vi z7), (0, vr 4), (1, vi x1), (2, vi x2), (3, vi x3)] [] h 0
        refine r_aload_n 1 C dX0_swapChain_18 rfl ?_
        refine gf_X0_9 C dX0_swapChain_19 ?_
        refine r_iload 0 C dX0_swapChain_22 rfl ?_
        refine r_aload_n 1 C dX0_swapChain_24 rfl ?_
        refine gf_X0_9 C dX0_swapChain_25 ?_
        refine r_iload 0 C dX0_swapChain_28 rfl ?_
        obtain ⟨o8, v⟩ := v
        refine r_iaload (r := 20) (N := 30) C dX0_swapChain_30 rfl o8 ?_
        refine r_iload_n 2 C dX0_swapChain_31 rfl ?_
        refine r_icmp_ne (tgt := 39) C dX0_swapChain_32 (by decide) (fun c9 => ?_) (fun c9 => ?_)
        · have v := v.1 c9
          refine r_iload_n 2 C dX0_swapChain_39 rfl ?_
          exact s_sub [1, 2, 3, 4] rfl (B_40 _ _ _ _ _ _ v)
        · have v := v.2 c9
          refine r_iload_n 3 C dX0_swapChain_35 rfl ?_
          refine r_goto (tgt := 40) C dX0_swapChain_36 (by decide) ?_
          exact s_sub [1, 2, 3, 4] rfl (B_40 _ _ _ _ _ _ v)
  show Wh X 0 [(0, vr 4), (1, vi a1), (2, vi a2)] [] h0 0
  have v := hmain
  unfold V_X0_swapChain at v
  refine r_iconst C dX0_swapChain_0 ⟨by decide, by decide⟩ ?_
  refine s_istore_n C dX0_swapChain_1 (by decide) (fun z10 ez10 => ?_)
  have v := v z10 ez10
  show Wh X 2 [(3, vi z10), (0, vr 4), (1, vi a1), (2, vi a2)] [] h0 0
  obtain ⟨n', hI'⟩ := v
  exact s_sub [1, 2, 3, 0] rfl (B_2 n' _ _ _ _ hI')

def V_X0_coloursUsed_4 (P : Int → Hp → Prop) (p_J6_bitCount_0f7a4 : Int → Hp → Prop) (q_J6_bitCount_0f7a4 : Int → Hp → Int → Prop) (I_4 : Nat → Hp → Int → Int → Prop) (n_4 : Nat) (h : Hp) (x1 : Int) (x2 : Int) : Prop :=
  ((h 1 6) ≤ x2 → p_J6_bitCount_0f7a4 (jshr x1 1) h ∧ (∀ r3 : Int, InR r3 → q_J6_bitCount_0f7a4 (jshr x1 1) h r3 → (P r3 h))) ∧ (¬ (h 1 6) ≤ x2 → ((0 : Int) ≤ x2 ∧ (x2 : Int) < 30) ∧ (∀ z5 : Int, z5 = (jor x1 (jshl 1 (h 20 x2))) → (InR (x2 + 1) ∧ (∀ z6 : Int, z6 = x2 + 1 → (∃ n', n' < n_4 ∧ I_4 n' h z5 z6)))))
def V_X0_coloursUsed (P : Int → Hp → Prop) (p_J6_bitCount_0f7a4 : Int → Hp → Prop) (q_J6_bitCount_0f7a4 : Int → Hp → Int → Prop) (I_4 : Nat → Hp → Int → Int → Prop) (h0 : Hp) : Prop :=
  ∀ z8 : Int, z8 = 0 → (∀ z9 : Int, z9 = 0 → (∃ n', I_4 n' h0 z8 z9))
set_option maxHeartbeats 4000000 in
set_option maxRecDepth 100000 in
theorem w_X0_coloursUsed {l : Launch} (P : Int → Hp → Prop) (p_J6_bitCount_0f7a4 : Int → Hp → Prop) (q_J6_bitCount_0f7a4 : Int → Hp → Int → Prop) (I_4 : Nat → Hp → Int → Int → Prop) (h0 : Hp)
    (c_J6_bitCount_0f7a4 : ∀ (b1 : Int) (h : Hp), p_J6_bitCount_0f7a4 b1 h → Ct l yJ6_bitCount_0f7a4 cJ6_bitCount_0f7a4 1 (some .int) 0 0 0 [vi b1] h [] (fun r _ => q_J6_bitCount_0f7a4 b1 h r) (fun _ => False))
    (o_4 : ∀ (n_4 : Nat) (h : Hp) (x1 : Int) (x2 : Int), RH h → Fr [] h0 h → InR x1 → InR x2 → I_4 n_4 h x1 x2 → V_X0_coloursUsed_4 P p_J6_bitCount_0f7a4 q_J6_bitCount_0f7a4 I_4 n_4 h x1 x2)
    (o : RH h0 → V_X0_coloursUsed P p_J6_bitCount_0f7a4 q_J6_bitCount_0f7a4 I_4 h0) :
    Ct l yX0_coloursUsed cX0_coloursUsed 3 (some .int) 1 20 0 [vr 4] h0 [] P (fun _ => False) := by
  refine Ct.of (own := RX0) (by decide) rfl (Nat.le_of_ble_eq_true rfl) ?_
  intro X C hXl hXM hXh hXP hXX hXc hXr hav hR0
  have hmain : V_X0_coloursUsed P p_J6_bitCount_0f7a4 q_J6_bitCount_0f7a4 I_4 h0 := o hR0 
  have B_4 : ∀ (n_4 : Nat) (h : Hp) (x1 : Int) (x2 : Int), I_4 n_4 h x1 x2 → Wh X 4 [(0, vr 4), (1, vi x1), (2, vi x2)] [] h 0 := by
    intro n_4
    induction n_4 using Nat.strongRecOn with
    | _ n_4 ih_4 =>
      intro h x1 x2 hI
      refine s_use fun hR hF hL => ?_
      have v := o_4 n_4 h x1 x2 hR (by rw [hXM, hXh] at hF; exact hF) (hL (1, vi x1) (by simp)) (hL (2, vi x2) (by simp)) hI
      unfold V_X0_coloursUsed_4 at v
      refine r_iload_n 2 C dX0_coloursUsed_4 rfl ?_
      refine r_aload_n 0 C dX0_coloursUsed_5 rfl ?_
      refine gf_X0_38 C dX0_coloursUsed_6 ?_
      refine gf_X0_42 C dX0_coloursUsed_9 ?_
      refine r_icmp_ge (tgt := 32) C dX0_coloursUsed_12 (by decide) (fun c1 => ?_) (fun c1 => ?_)
      · have v := v.1 c1
        refine r_iload_n 1 C dX0_coloursUsed_32 rfl ?_
        refine r_iconst C dX0_coloursUsed_33 ⟨by decide, by decide⟩ ?_
        refine r_ishr C dX0_coloursUsed_34 ?_
        obtain ⟨o2, v⟩ := v
        refine s_calls0 (y := yJ6_bitCount_0f7a4) (ccY := cJ6_bitCount_0f7a4) (nLY := 1) (tyY := .int) [(jshr x1 1)] [] C dX0_coloursUsed_35 ⟨by decide, by decide, by show Option.map _ _ = some 1; decide +kernel⟩ (by decide +kernel) (by decide +kernel) (by decide +kernel) (by decide +kernel) (fY := 0) (nY := 0) (by decide) (by decide) (Nat.le_of_ble_eq_true rfl) rfl (by rw [hXl]; exact c_J6_bitCount_0f7a4 (jshr x1 1) h o2) (fun r3 gr3 qr3 => ?_)
        have v := v r3 gr3 qr3
        exact r_ireturn C dX0_coloursUsed_38 hXr (Nat.zero_le _) (by rw [hXP]; exact v)
      · have v := v.2 c1
        refine r_iload_n 1 C dX0_coloursUsed_15 rfl ?_
        refine r_iconst C dX0_coloursUsed_16 ⟨by decide, by decide⟩ ?_
        refine r_aload_n 0 C dX0_coloursUsed_17 rfl ?_
        refine gf_X0_9 C dX0_coloursUsed_18 ?_
        refine r_iload_n 2 C dX0_coloursUsed_21 rfl ?_
        obtain ⟨o4, v⟩ := v
        refine r_iaload (r := 20) (N := 30) C dX0_coloursUsed_22 rfl o4 ?_
        refine r_ishl C dX0_coloursUsed_23 ?_
        refine r_ior C dX0_coloursUsed_24 ?_
        refine s_istore_n C dX0_coloursUsed_25 (by decide) (fun z5 ez5 => ?_)
        have v := v z5 ez5
        show Wh X 26 [(1, vi z5), (0, vr 4), (2, vi x2)] [] h 0
        obtain ⟨o7, v⟩ := v
        refine s_iinc 2 C dX0_coloursUsed_26 rfl (by decide) o7 (fun z6 ez6 => ?_)
        have v := v z6 ez6
        show Wh X 29 [(2, vi z6), (1, vi z5), (0, vr 4)] [] h 0
        refine r_goto (tgt := 4) C dX0_coloursUsed_29 (by decide) ?_
        obtain ⟨n', hn', hI'⟩ := v
        exact s_sub [2, 1, 0] rfl (ih_4 n' hn' _ _ _ hI')
  show Wh X 0 [(0, vr 4)] [] h0 0
  have v := hmain
  unfold V_X0_coloursUsed at v
  refine r_iconst C dX0_coloursUsed_0 ⟨by decide, by decide⟩ ?_
  refine s_istore_n C dX0_coloursUsed_1 (by decide) (fun z8 ez8 => ?_)
  have v := v z8 ez8
  show Wh X 2 [(1, vi z8), (0, vr 4)] [] h0 0
  refine r_iconst C dX0_coloursUsed_2 ⟨by decide, by decide⟩ ?_
  refine s_istore_n C dX0_coloursUsed_3 (by decide) (fun z9 ez9 => ?_)
  have v := v z9 ez9
  show Wh X 4 [(2, vi z9), (1, vi z8), (0, vr 4)] [] h0 0
  obtain ⟨n', hI'⟩ := v
  exact s_sub [2, 1, 0] rfl (B_4 n' _ _ _ hI')

def V_X0_equalEnds_73 (P : Int → Hp → Prop) (I_4 : Nat → Hp → Int → Int → Prop) (n_4 : Nat) (h : Hp) (x1 : Int) (x2 : Int) : Prop :=
  InR (x2 + 1) ∧ (∀ z1 : Int, z1 = x2 + 1 → (∃ n', n' < n_4 ∧ I_4 n' h x1 z1))
def V_X0_equalEnds_4 (P : Int → Hp → Prop) (I_4 : Nat → Hp → Int → Int → Prop) (n_4 : Nat) (h : Hp) (x1 : Int) (x2 : Int) : Prop :=
  ((h 1 7) ≤ x2 → P x1 h) ∧ (¬ (h 1 7) ≤ x2 → ((0 : Int) ≤ x2 ∧ (x2 : Int) < 100) ∧ (((h 9 x2) = 0 → V_X0_equalEnds_73 P I_4 n_4 h x1 x2) ∧ (¬ (h 9 x2) = 0 → InR (2 * x2) ∧ (((0 : Int) ≤ (2 * x2) ∧ ((2 * x2) : Int) < 200) ∧ (((0 : Int) ≤ (h 6 (2 * x2)) ∧ ((h 6 (2 * x2)) : Int) < 30) ∧ (∀ z9 : Int, z9 = (h 20 (h 6 (2 * x2))) → ((z9 = 0 → V_X0_equalEnds_73 P I_4 n_4 h x1 x2) ∧ (¬ z9 = 0 → InR (2 * x2) ∧ (InR ((2 * x2) + 1) ∧ (((0 : Int) ≤ ((2 * x2) + 1) ∧ (((2 * x2) + 1) : Int) < 200) ∧ (((0 : Int) ≤ (h 6 ((2 * x2) + 1)) ∧ ((h 6 ((2 * x2) + 1)) : Int) < 30) ∧ ((¬ z9 = (h 20 (h 6 ((2 * x2) + 1))) → V_X0_equalEnds_73 P I_4 n_4 h x1 x2) ∧ (z9 = (h 20 (h 6 ((2 * x2) + 1))) → InR (x1 + 1) ∧ (∀ z16 : Int, z16 = x1 + 1 → (V_X0_equalEnds_73 P I_4 n_4 h z16 x2)))))))))))))))
def V_X0_equalEnds (P : Int → Hp → Prop) (I_4 : Nat → Hp → Int → Int → Prop) (h0 : Hp) : Prop :=
  ∀ z18 : Int, z18 = 0 → (∀ z19 : Int, z19 = 0 → (∃ n', I_4 n' h0 z18 z19))
set_option maxHeartbeats 4000000 in
set_option maxRecDepth 100000 in
theorem w_X0_equalEnds {l : Launch} (P : Int → Hp → Prop) (I_4 : Nat → Hp → Int → Int → Prop) (h0 : Hp)
    (o_4 : ∀ (n_4 : Nat) (h : Hp) (x1 : Int) (x2 : Int), RH h → Fr [] h0 h → InR x1 → InR x2 → I_4 n_4 h x1 x2 → V_X0_equalEnds_4 P I_4 n_4 h x1 x2)
    (o : RH h0 → V_X0_equalEnds P I_4 h0) :
    Ct l yX0_equalEnds cX0_equalEnds 4 (some .int) 0 0 0 [vr 4] h0 [] P (fun _ => False) := by
  refine Ct.of (own := RX0) (by decide) rfl (Nat.le_of_ble_eq_true rfl) ?_
  intro X C hXl hXM hXh hXP hXX hXc hXr hav hR0
  have hmain : V_X0_equalEnds P I_4 h0 := o hR0 
  have B_4 : ∀ (n_4 : Nat) (h : Hp) (x1 : Int) (x2 : Int), I_4 n_4 h x1 x2 → Wh X 4 [(0, vr 4), (1, vi x1), (2, vi x2)] [] h 0 := by
    intro n_4
    induction n_4 using Nat.strongRecOn with
    | _ n_4 ih_4 =>
      intro h x1 x2 hI
      refine s_use fun hR hF hL => ?_
      have v := o_4 n_4 h x1 x2 hR (by rw [hXM, hXh] at hF; exact hF) (hL (1, vi x1) (by simp)) (hL (2, vi x2) (by simp)) hI
      unfold V_X0_equalEnds_4 at v
      have B_73 : ∀ (h : Hp) (x1 : Int) (x2 : Int), V_X0_equalEnds_73 P I_4 n_4 h x1 x2 → Wh X 73 [(0, vr 4), (1, vi x1), (2, vi x2)] [] h 0 := by
        intro h x1 x2 v
        unfold V_X0_equalEnds_73 at v
        obtain ⟨o2, v⟩ := v
        refine s_iinc 2 C dX0_equalEnds_73 rfl (by decide) o2 (fun z1 ez1 => ?_)
        have v := v z1 ez1
        show Wh X 76 [(2, vi z1), (0, vr 4), (1, vi x1)] [] h 0
        refine r_goto (tgt := 4) C dX0_equalEnds_76 (by decide) ?_
        obtain ⟨n', hn', hI'⟩ := v
        exact s_sub [1, 2, 0] rfl (ih_4 n' hn' _ _ _ hI')
      refine r_iload_n 2 C dX0_equalEnds_4 rfl ?_
      refine r_aload_n 0 C dX0_equalEnds_5 rfl ?_
      refine gf_X0_38 C dX0_equalEnds_6 ?_
      refine gf_X0_105 C dX0_equalEnds_9 ?_
      refine r_icmp_ge (tgt := 79) C dX0_equalEnds_12 (by decide) (fun c3 => ?_) (fun c3 => ?_)
      · have v := v.1 c3
        refine r_iload_n 1 C dX0_equalEnds_79 rfl ?_
        exact r_ireturn C dX0_equalEnds_80 hXr (Nat.zero_le _) (by rw [hXP]; exact v)
      · have v := v.2 c3
        refine r_aload_n 0 C dX0_equalEnds_15 rfl ?_
        refine gf_X0_38 C dX0_equalEnds_16 ?_
        refine gf_X0_108 C dX0_equalEnds_19 ?_
        refine r_iload_n 2 C dX0_equalEnds_22 rfl ?_
        obtain ⟨o4, v⟩ := v
        refine r_baload (r := 9) (N := 100) C dX0_equalEnds_23 rfl o4 ?_
        refine r_if_eq (tgt := 73) C dX0_equalEnds_24 (by decide) (fun c5 => ?_) (fun c5 => ?_)
        · have v := v.1 c5
          exact s_sub [0, 1, 2] rfl (B_73 _ _ _ v)
        · have v := v.2 c5
          refine r_aload_n 0 C dX0_equalEnds_27 rfl ?_
          refine gf_X0_9 C dX0_equalEnds_28 ?_
          refine r_aload_n 0 C dX0_equalEnds_31 rfl ?_
          refine gf_X0_38 C dX0_equalEnds_32 ?_
          refine gf_X0_111 C dX0_equalEnds_35 ?_
          refine r_iconst C dX0_equalEnds_38 ⟨by decide, by decide⟩ ?_
          refine r_iload_n 2 C dX0_equalEnds_39 rfl ?_
          obtain ⟨o6, v⟩ := v
          refine r_imul C dX0_equalEnds_40 o6 ?_
          obtain ⟨o7, v⟩ := v
          refine r_iaload (r := 6) (N := 200) C dX0_equalEnds_41 rfl o7 ?_
          obtain ⟨o8, v⟩ := v
          refine r_iaload (r := 20) (N := 30) C dX0_equalEnds_42 rfl o8 ?_
          refine s_istore_n C dX0_equalEnds_43 (by decide) (fun z9 ez9 => ?_)
          have v := v z9 ez9
          show Wh X 44 [(3, vi z9), (0, vr 4), (1, vi x1), (2, vi x2)] [] h 0
          refine r_iload_n 0 C dX0_equalEnds_44 rfl ?_
          refine r_if_eq (tgt := 73) C dX0_equalEnds_45 (by decide) (fun c10 => ?_) (fun c10 => ?_)
          · have v := v.1 c10
            exact s_sub [1, 2, 3] rfl (B_73 _ _ _ v)
          · have v := v.2 c10
            refine r_iload_n 0 C dX0_equalEnds_48 rfl ?_
            refine r_aload_n 1 C dX0_equalEnds_49 rfl ?_
            refine gf_X0_9 C dX0_equalEnds_50 ?_
            refine r_aload_n 1 C dX0_equalEnds_53 rfl ?_
            refine gf_X0_38 C dX0_equalEnds_54 ?_
            refine gf_X0_111 C dX0_equalEnds_57 ?_
            refine r_iconst C dX0_equalEnds_60 ⟨by decide, by decide⟩ ?_
            refine r_iload_n 3 C dX0_equalEnds_61 rfl ?_
            obtain ⟨o11, v⟩ := v
            refine r_imul C dX0_equalEnds_62 o11 ?_
            refine r_iconst C dX0_equalEnds_63 ⟨by decide, by decide⟩ ?_
            obtain ⟨o12, v⟩ := v
            refine r_iadd C dX0_equalEnds_64 o12 ?_
            obtain ⟨o13, v⟩ := v
            refine r_iaload (r := 6) (N := 200) C dX0_equalEnds_65 rfl o13 ?_
            obtain ⟨o14, v⟩ := v
            refine r_iaload (r := 20) (N := 30) C dX0_equalEnds_66 rfl o14 ?_
            refine r_icmp_ne (tgt := 73) C dX0_equalEnds_67 (by decide) (fun c15 => ?_) (fun c15 => ?_)
            · have v := v.1 c15
              exact s_sub [1, 2, 3] rfl (B_73 _ _ _ v)
            · have v := v.2 c15
              obtain ⟨o17, v⟩ := v
              refine s_iinc 2 C dX0_equalEnds_70 rfl (by decide) o17 (fun z16 ez16 => ?_)
              have v := v z16 ez16
              show Wh X 73 [(1, vi z16), (3, vi z9), (0, vr 4), (2, vi x2)] [] h 0
              exact s_sub [2, 0, 3] rfl (B_73 _ _ _ v)
  show Wh X 0 [(0, vr 4)] [] h0 0
  have v := hmain
  unfold V_X0_equalEnds at v
  refine r_iconst C dX0_equalEnds_0 ⟨by decide, by decide⟩ ?_
  refine s_istore_n C dX0_equalEnds_1 (by decide) (fun z18 ez18 => ?_)
  have v := v z18 ez18
  show Wh X 2 [(1, vi z18), (0, vr 4)] [] h0 0
  refine r_iconst C dX0_equalEnds_2 ⟨by decide, by decide⟩ ?_
  refine s_istore_n C dX0_equalEnds_3 (by decide) (fun z19 ez19 => ?_)
  have v := v z19 ez19
  show Wh X 4 [(2, vi z19), (1, vi z18), (0, vr 4)] [] h0 0
  obtain ⟨n', hI'⟩ := v
  exact s_sub [2, 1, 0] rfl (B_4 n' _ _ _ hI')


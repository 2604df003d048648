def V_X6_colourCount_62 (P : Int → Hp → Prop) (I_4 : Nat → Hp → Int → Int → Prop) (I_15 : Nat → Nat → Hp → Int → Int → Int → Int → Prop) (n_4 : Nat) (h : Hp) (x2 : Int) (y0 : Int) : Prop :=
  ∀ z1 : Int, z1 = y0 → (InR (x2 + 1) ∧ (∀ z2 : Int, z2 = x2 + 1 → (∃ n', n' < n_4 ∧ I_4 n' h z1 z2)))
def V_X6_colourCount_44 (P : Int → Hp → Prop) (I_4 : Nat → Hp → Int → Int → Prop) (I_15 : Nat → Nat → Hp → Int → Int → Int → Int → Prop) (n_4 : Nat) (n_15 : Nat) (h : Hp) (x1 : Int) (x2 : Int) (x4 : Int) (y0 : Int) : Prop :=
  ∀ z4 : Int, z4 = y0 → (InR (x4 + 1) ∧ (∀ z5 : Int, z5 = x4 + 1 → (∃ n', n' < n_15 ∧ I_15 n_4 n' h x1 x2 z4 z5)))
def V_X6_colourCount_39 (P : Int → Hp → Prop) (I_4 : Nat → Hp → Int → Int → Prop) (I_15 : Nat → Nat → Hp → Int → Int → Int → Int → Prop) (n_4 : Nat) (n_15 : Nat) (h : Hp) (x1 : Int) (x2 : Int) (x4 : Int) : Prop :=
  V_X6_colourCount_44 P I_4 I_15 n_4 n_15 h x1 x2 x4 1
def V_X6_colourCount_15 (P : Int → Hp → Prop) (I_4 : Nat → Hp → Int → Int → Prop) (I_15 : Nat → Nat → Hp → Int → Int → Int → Int → Prop) (n_4 : Nat) (n_15 : Nat) (h : Hp) (x1 : Int) (x2 : Int) (x3 : Int) (x4 : Int) : Prop :=
  ((h 30 1) ≤ x4 → (x3 = 0 → V_X6_colourCount_62 P I_4 I_15 n_4 h x2 x1) ∧ (¬ x3 = 0 → InR (x1 + 1) ∧ (V_X6_colourCount_62 P I_4 I_15 n_4 h x2 (x1 + 1)))) ∧ (¬ (h 30 1) ≤ x4 → (¬ x3 = 0 → V_X6_colourCount_39 P I_4 I_15 n_4 n_15 h x1 x2 x4) ∧ (x3 = 0 → ((0 : Int) ≤ x4 ∧ (x4 : Int) < 30) ∧ ((¬ (h 36 x4) = x2 → V_X6_colourCount_44 P I_4 I_15 n_4 n_15 h x1 x2 x4 0) ∧ ((h 36 x4) = x2 → V_X6_colourCount_39 P I_4 I_15 n_4 n_15 h x1 x2 x4))))
def V_X6_colourCount_4 (P : Int → Hp → Prop) (I_4 : Nat → Hp → Int → Int → Prop) (I_15 : Nat → Nat → Hp → Int → Int → Int → Int → Prop) (n_4 : Nat) (h : Hp) (x1 : Int) (x2 : Int) : Prop :=
  (6 ≤ x2 → P x1 h) ∧ (¬ 6 ≤ x2 → ∀ z14 : Int, z14 = 0 → (∀ z15 : Int, z15 = 0 → (∃ n', I_15 n_4 n' h x1 x2 z14 z15)))
def V_X6_colourCount (P : Int → Hp → Prop) (I_4 : Nat → Hp → Int → Int → Prop) (I_15 : Nat → Nat → Hp → Int → Int → Int → Int → Prop) (h0 : Hp) : Prop :=
  ∀ z16 : Int, z16 = 0 → (∀ z17 : Int, z17 = 1 → (∃ n', I_4 n' h0 z16 z17))
set_option maxHeartbeats 4000000 in
set_option maxRecDepth 100000 in
theorem w_X6_colourCount {l : Launch} (P : Int → Hp → Prop) (I_4 : Nat → Hp → Int → Int → Prop) (I_15 : Nat → Nat → Hp → Int → Int → Int → Int → Prop) (h0 : Hp)
    (o_4 : ∀ (n_4 : Nat) (h : Hp) (x1 : Int) (x2 : Int), RH h → Fr [] h0 h → InR x1 → InR x2 → I_4 n_4 h x1 x2 → V_X6_colourCount_4 P I_4 I_15 n_4 h x1 x2)
    (o_15 : ∀ (n_4 n_15 : Nat) (h : Hp) (x1 : Int) (x2 : Int) (x3 : Int) (x4 : Int), RH h → Fr [] h0 h → InR x1 → InR x2 → InR x3 → InR x4 → I_15 n_4 n_15 h x1 x2 x3 x4 → V_X6_colourCount_15 P I_4 I_15 n_4 n_15 h x1 x2 x3 x4)
    (o : RH h0 → V_X6_colourCount P I_4 I_15 h0) :
    Ct l yX6_colourCount cX6_colourCount 5 (some .int) 0 0 0 [vr 30] h0 [] P (fun _ => False) := by
  refine Ct.of (own := RX6) (by decide) rfl (Nat.le_of_ble_eq_true rfl) ?_
  intro X C hXl hXM hXh hXP hXX hXc hXr hav hR0
  have hmain : V_X6_colourCount P I_4 I_15 h0 := o hR0 
  have B_4 : ∀ (n_4 : Nat) (h : Hp) (x1 : Int) (x2 : Int), I_4 n_4 h x1 x2 → Wh X 4 [(0, vr 30), (1, vi x1), (2, vi x2)] [] h 0 := by
    intro n_4
    induction n_4 using Nat.strongRecOn with
    | _ n_4 ih_4 =>
      intro h x1 x2 hI
      refine s_use fun hR hF hL => ?_
      have v := o_4 n_4 h x1 x2 hR (by rw [hXM, hXh] at hF; exact hF) (hL (1, vi x1) (by simp)) (hL (2, vi x2) (by simp)) hI
      unfold V_X6_colourCount_4 at v
      have B_62 : ∀ (h : Hp) (x2 : Int) (y0 : Int), V_X6_colourCount_62 P I_4 I_15 n_4 h x2 y0 → Wh X 62 [(0, vr 30), (2, vi x2)] [vi y0] h 0 := by
        intro h x2 y0 v
        unfold V_X6_colourCount_62 at v
        refine s_istore_n C dX6_colourCount_62 (by decide) (fun z1 ez1 => ?_)
        have v := v z1 ez1
        show Wh X 63 [(1, vi z1), (0, vr 30), (2, vi x2)] [] h 0
        obtain ⟨o3, v⟩ := v
        refine s_iinc 2 C dX6_colourCount_63 rfl (by decide) o3 (fun z2 ez2 => ?_)
        have v := v z2 ez2
        show Wh X 66 [(2, vi z2), (1, vi z1), (0, vr 30)] [] h 0
        refine r_goto (tgt := 4) C dX6_colourCount_66 (by decide) ?_
        obtain ⟨n', hn', hI'⟩ := v
        exact s_sub [2, 1, 0] rfl (ih_4 n' hn' _ _ _ hI')
      have B_15 : ∀ (n_15 : Nat) (h : Hp) (x1 : Int) (x2 : Int) (x3 : Int) (x4 : Int), I_15 n_4 n_15 h x1 x2 x3 x4 → Wh X 15 [(0, vr 30), (1, vi x1), (2, vi x2), (3, vi x3), (4, vi x4)] [] h 0 := by
        intro n_15
        induction n_15 using Nat.strongRecOn with
        | _ n_15 ih_15 =>
          intro h x1 x2 x3 x4 hI
          refine s_use fun hR hF hL => ?_
          have v := o_15 n_4 n_15 h x1 x2 x3 x4 hR (by rw [hXM, hXh] at hF; exact hF) (hL (1, vi x1) (by simp)) (hL (2, vi x2) (by simp)) (hL (3, vi x3) (by simp)) (hL (4, vi x4) (by simp)) hI
          unfold V_X6_colourCount_15 at v
          have B_44 : ∀ (h : Hp) (x1 : Int) (x2 : Int) (x4 : Int) (y0 : Int), V_X6_colourCount_44 P I_4 I_15 n_4 n_15 h x1 x2 x4 y0 → Wh X 44 [(0, vr 30), (1, vi x1), (2, vi x2), (4, vi x4)] [vi y0] h 0 := by
            intro h x1 x2 x4 y0 v
            unfold V_X6_colourCount_44 at v
            refine s_istore_n C dX6_colourCount_44 (by decide) (fun z4 ez4 => ?_)
            have v := v z4 ez4
            show Wh X 45 [(3, vi z4), (0, vr 30), (1, vi x1), (2, vi x2), (4, vi x4)] [] h 0
            obtain ⟨o6, v⟩ := v
            refine s_iinc 4 C dX6_colourCount_45 rfl (by decide) o6 (fun z5 ez5 => ?_)
            have v := v z5 ez5
            show Wh X 48 [(4, vi z5), (3, vi z4), (0, vr 30), (1, vi x1), (2, vi x2)] [] h 0
            refine r_goto (tgt := 15) C dX6_colourCount_48 (by decide) ?_
            obtain ⟨n', hn', hI'⟩ := v
            exact s_sub [2, 3, 4, 1, 0] rfl (ih_15 n' hn' _ _ _ _ _ hI')
          have B_39 : ∀ (h : Hp) (x1 : Int) (x2 : Int) (x4 : Int), V_X6_colourCount_39 P I_4 I_15 n_4 n_15 h x1 x2 x4 → Wh X 39 [(0, vr 30), (1, vi x1), (2, vi x2), (4, vi x4)] [] h 0 := by
            intro h x1 x2 x4 v
            unfold V_X6_colourCount_39 at v
            refine r_iconst C dX6_colourCount_39 ⟨by decide, by decide⟩ ?_
            refine r_goto (tgt := 44) C dX6_colourCount_40 (by decide) ?_
            exact s_sub [0, 1, 2, 3] rfl (B_44 _ _ _ _ _ v)
          refine r_iload 4 C dX6_colourCount_15 rfl ?_
          refine r_aload_n 0 C dX6_colourCount_17 rfl ?_
          refine gf_X6_63 C dX6_colourCount_18 ?_
          refine r_icmp_ge (tgt := 51) C dX6_colourCount_21 (by decide) (fun c7 => ?_) (fun c7 => ?_)
          · have v := v.1 c7
            refine r_iload_n 3 C dX6_colourCount_51 rfl ?_
            refine r_if_eq (tgt := 61) C dX6_colourCount_52 (by decide) (fun c8 => ?_) (fun c8 => ?_)
            · have v := v.1 c8
              refine r_iload_n 1 C dX6_colourCount_61 rfl ?_
              exact s_sub [0, 2] rfl (B_62 _ _ _ v)
            · have v := v.2 c8
              refine r_iload_n 1 C dX6_colourCount_55 rfl ?_
              refine r_iconst C dX6_colourCount_56 ⟨by decide, by decide⟩ ?_
              obtain ⟨o9, v⟩ := v
              refine r_iadd C dX6_colourCount_57 o9 ?_
              refine r_goto (tgt := 62) C dX6_colourCount_58 (by decide) ?_
              exact s_sub [0, 2] rfl (B_62 _ _ _ v)
          · have v := v.2 c7
            refine r_iload_n 3 C dX6_colourCount_24 rfl ?_
            refine r_if_ne (tgt := 39) C dX6_colourCount_25 (by decide) (fun c10 => ?_) (fun c10 => ?_)
            · have v := v.1 c10
              exact s_sub [0, 1, 2, 4] rfl (B_39 _ _ _ _ v)
            · have v := v.2 c10
              refine r_aload_n 0 C dX6_colourCount_28 rfl ?_
              refine gf_X6_26 C dX6_colourCount_29 ?_
              refine r_iload 4 C dX6_colourCount_32 rfl ?_
              obtain ⟨o11, v⟩ := v
              refine r_iaload (r := 36) (N := 30) C dX6_colourCount_34 rfl o11 ?_
              refine r_iload_n 2 C dX6_colourCount_35 rfl ?_
              refine r_icmp_ne (tgt := 43) C dX6_colourCount_36 (by decide) (fun c12 => ?_) (fun c12 => ?_)
              · have v := v.1 c12
                refine r_iconst C dX6_colourCount_43 ⟨by decide, by decide⟩ ?_
                exact s_sub [0, 1, 2, 4] rfl (B_44 _ _ _ _ _ v)
              · have v := v.2 c12
                exact s_sub [0, 1, 2, 4] rfl (B_39 _ _ _ _ v)
      refine r_iload_n 2 C dX6_colourCount_4 rfl ?_
      refine r_bipush C dX6_colourCount_5 ⟨by decide, by decide⟩ (by decide) ?_
      refine r_icmp_ge (tgt := 69) C dX6_colourCount_7 (by decide) (fun c13 => ?_) (fun c13 => ?_)
      · have v := v.1 c13
        refine r_iload_n 1 C dX6_colourCount_69 rfl ?_
        exact r_ireturn C dX6_colourCount_70 hXr (Nat.zero_le _) (by rw [hXP]; exact v)
      · have v := v.2 c13
        refine r_iconst C dX6_colourCount_10 ⟨by decide, by decide⟩ ?_
        refine s_istore_n C dX6_colourCount_11 (by decide) (fun z14 ez14 => ?_)
        have v := v z14 ez14
        show Wh X 12 [(3, vi z14), (0, vr 30), (1, vi x1), (2, vi x2)] [] h 0
        refine r_iconst C dX6_colourCount_12 ⟨by decide, by decide⟩ ?_
        refine s_istore C dX6_colourCount_13 (by decide) (fun z15 ez15 => ?_)
        have v := v z15 ez15
        show Wh X 15 [(4, vi z15), (3, vi z14), (0, vr 30), (1, vi x1), (2, vi x2)] [] h 0
        obtain ⟨n', hI'⟩ := v
        exact s_sub [2, 3, 4, 1, 0] rfl (B_15 n' _ _ _ _ _ hI')
  show Wh X 0 [(0, vr 30)] [] h0 0
  have v := hmain
  unfold V_X6_colourCount at v
  refine r_iconst C dX6_colourCount_0 ⟨by decide, by decide⟩ ?_
  refine s_istore_n C dX6_colourCount_1 (by decide) (fun z16 ez16 => ?_)
  have v := v z16 ez16
  show Wh X 2 [(1, vi z16), (0, vr 30)] [] h0 0
  refine r_iconst C dX6_colourCount_2 ⟨by decide, by decide⟩ ?_
  refine s_istore_n C dX6_colourCount_3 (by decide) (fun z17 ez17 => ?_)
  have v := v z17 ez17
  show Wh X 4 [(2, vi z17), (1, vi z16), (0, vr 30)] [] h0 0
  obtain ⟨n', hI'⟩ := v
  exact s_sub [2, 1, 0] rfl (B_4 n' _ _ _ hI')

def V_X6_colour_153 (P : Int → Hp → Prop) (p_X6_genusOf : Hp → Prop) (q_X6_genusOf : Hp → Int → Hp → Prop) (p_X6_around : Int → Hp → Prop) (q_X6_around : Int → Hp → Int → Prop) (p_X6_freeColour : Int → Hp → Prop) (q_X6_freeColour : Int → Hp → Int → Prop) (p_X6_makeFree : Int → Hp → Prop) (q_X6_makeFree : Int → Hp → Int → Hp → Prop) (p_X6_colourCount : Hp → Prop) (q_X6_colourCount : Hp → Int → Prop) (I_32 : Nat → Hp → Int → Prop) (I_62 : Nat → Hp → Int → Prop) (I_72 : Nat → Nat → Hp → Int → Int → Prop) (I_123 : Nat → Hp → Int → Prop) (n_123 : Nat) (h : Hp) (x1 : Int) (x2 : Int) (y0 : Int) : Prop :=
  ∀ z1 : Int, z1 = y0 → (((0 : Int) ≤ x2 ∧ (x2 : Int) < 30) ∧ (∀ h3 : Hp, h3 = hup h 36 x2 z1 → (((0 : Int) ≤ x2 ∧ (x2 : Int) < 30) ∧ (∀ h5 : Hp, h5 = hup h3 42 x2 1 → (InR (x1 + (-1)) ∧ (∀ z6 : Int, z6 = x1 + (-1) → (∃ n', n' < n_123 ∧ I_123 n' h5 z6)))))))
def V_X6_colour_123 (P : Int → Hp → Prop) (p_X6_genusOf : Hp → Prop) (q_X6_genusOf : Hp → Int → Hp → Prop) (p_X6_around : Int → Hp → Prop) (q_X6_around : Int → Hp → Int → Prop) (p_X6_freeColour : Int → Hp → Prop) (q_X6_freeColour : Int → Hp → Int → Prop) (p_X6_makeFree : Int → Hp → Prop) (q_X6_makeFree : Int → Hp → Int → Hp → Prop) (p_X6_colourCount : Hp → Prop) (q_X6_colourCount : Hp → Int → Prop) (I_32 : Nat → Hp → Int → Prop) (I_62 : Nat → Hp → Int → Prop) (I_72 : Nat → Nat → Hp → Int → Int → Prop) (I_123 : Nat → Hp → Int → Prop) (n_123 : Nat) (h : Hp) (x1 : Int) : Prop :=
  (x1 < 0 → p_X6_colourCount h ∧ (∀ r10 : Int, InR r10 → q_X6_colourCount h r10 → (P r10 h))) ∧ (¬ x1 < 0 → ((0 : Int) ≤ x1 ∧ (x1 : Int) < 30) ∧ (∀ z12 : Int, z12 = (h 41 x1) → (p_X6_freeColour z12 h ∧ (∀ r14 : Int, InR r14 → q_X6_freeColour z12 h r14 → (∀ z15 : Int, z15 = r14 → ((¬ z15 = 0 → V_X6_colour_153 P p_X6_genusOf q_X6_genusOf p_X6_around q_X6_around p_X6_freeColour q_X6_freeColour p_X6_makeFree q_X6_makeFree p_X6_colourCount q_X6_colourCount I_32 I_62 I_72 I_123 n_123 h x1 z12 z15) ∧ (z15 = 0 → p_X6_makeFree z12 h ∧ (∀ (r18 : Int) (h19 : Hp), Fr [30, 36, 40, 43] h h19 → RH h19 → InR r18 → q_X6_makeFree z12 h r18 h19 → (V_X6_colour_153 P p_X6_genusOf q_X6_genusOf p_X6_around q_X6_around p_X6_freeColour q_X6_freeColour p_X6_makeFree q_X6_makeFree p_X6_colourCount q_X6_colourCount I_32 I_62 I_72 I_123 n_123 h19 x1 z12 r18)))))))))
def V_X6_colour_90 (P : Int → Hp → Prop) (p_X6_genusOf : Hp → Prop) (q_X6_genusOf : Hp → Int → Hp → Prop) (p_X6_around : Int → Hp → Prop) (q_X6_around : Int → Hp → Int → Prop) (p_X6_freeColour : Int → Hp → Prop) (q_X6_freeColour : Int → Hp → Int → Prop) (p_X6_makeFree : Int → Hp → Prop) (q_X6_makeFree : Int → Hp → Int → Hp → Prop) (p_X6_colourCount : Hp → Prop) (q_X6_colourCount : Hp → Int → Prop) (I_32 : Nat → Hp → Int → Prop) (I_62 : Nat → Hp → Int → Prop) (I_72 : Nat → Nat → Hp → Int → Int → Prop) (I_123 : Nat → Hp → Int → Prop) (n_62 : Nat) (n_72 : Nat) (h : Hp) (x1 : Int) (x2 : Int) : Prop :=
  InR (x2 + 1) ∧ (∀ z20 : Int, z20 = x2 + 1 → (∃ n', n' < n_72 ∧ I_72 n_62 n' h x1 z20))
def V_X6_colour_72 (P : Int → Hp → Prop) (p_X6_genusOf : Hp → Prop) (q_X6_genusOf : Hp → Int → Hp → Prop) (p_X6_around : Int → Hp → Prop) (q_X6_around : Int → Hp → Int → Prop) (p_X6_freeColour : Int → Hp → Prop) (q_X6_freeColour : Int → Hp → Int → Prop) (p_X6_makeFree : Int → Hp → Prop) (q_X6_makeFree : Int → Hp → Int → Hp → Prop) (p_X6_colourCount : Hp → Prop) (q_X6_colourCount : Hp → Int → Prop) (I_32 : Nat → Hp → Int → Prop) (I_62 : Nat → Hp → Int → Prop) (I_72 : Nat → Nat → Hp → Int → Int → Prop) (I_123 : Nat → Hp → Int → Prop) (n_62 : Nat) (n_72 : Nat) (h : Hp) (x1 : Int) (x2 : Int) : Prop :=
  ((0 : Int) ≤ x2 ∧ (x2 : Int) < 30) ∧ (((h 42 x2) = 0 → V_X6_colour_90 P p_X6_genusOf q_X6_genusOf p_X6_around q_X6_around p_X6_freeColour q_X6_freeColour p_X6_makeFree q_X6_makeFree p_X6_colourCount q_X6_colourCount I_32 I_62 I_72 I_123 n_62 n_72 h x1 x2) ∧ (¬ (h 42 x2) = 0 → p_X6_around x2 h ∧ (∀ r25 : Int, InR r25 → q_X6_around x2 h r25 → ((r25 ≤ 5 → ((0 : Int) ≤ x2 ∧ (x2 : Int) < 30) ∧ (∀ h28 : Hp, h28 = hup h 42 x2 0 → (((0 : Int) ≤ x1 ∧ (x1 : Int) < 30) ∧ (∀ h30 : Hp, h30 = hup h28 41 x1 x2 → (InR (x1 + 1) ∧ (∀ z31 : Int, z31 = x1 + 1 → (∃ n', n' < n_62 ∧ I_62 n' h30 z31))))))) ∧ (¬ r25 ≤ 5 → V_X6_colour_90 P p_X6_genusOf q_X6_genusOf p_X6_around q_X6_around p_X6_freeColour q_X6_freeColour p_X6_makeFree q_X6_makeFree p_X6_colourCount q_X6_colourCount I_32 I_62 I_72 I_123 n_62 n_72 h x1 x2)))))
def V_X6_colour_62 (P : Int → Hp → Prop) (p_X6_genusOf : Hp → Prop) (q_X6_genusOf : Hp → Int → Hp → Prop) (p_X6_around : Int → Hp → Prop) (q_X6_around : Int → Hp → Int → Prop) (p_X6_freeColour : Int → Hp → Prop) (q_X6_freeColour : Int → Hp → Int → Prop) (p_X6_makeFree : Int → Hp → Prop) (q_X6_makeFree : Int → Hp → Int → Hp → Prop) (p_X6_colourCount : Hp → Prop) (q_X6_colourCount : Hp → Int → Prop) (I_32 : Nat → Hp → Int → Prop) (I_62 : Nat → Hp → Int → Prop) (I_72 : Nat → Nat → Hp → Int → Int → Prop) (I_123 : Nat → Hp → Int → Prop) (n_62 : Nat) (h : Hp) (x1 : Int) : Prop :=
  ((h 30 1) ≤ x1 → InR ((h 30 1) - 1) ∧ (∀ z35 : Int, z35 = ((h 30 1) - 1) → (∃ n', I_123 n' h z35))) ∧ (¬ (h 30 1) ≤ x1 → ∀ z36 : Int, z36 = 0 → (∃ n', I_72 n_62 n' h x1 z36))
def V_X6_colour_32 (P : Int → Hp → Prop) (p_X6_genusOf : Hp → Prop) (q_X6_genusOf : Hp → Int → Hp → Prop) (p_X6_around : Int → Hp → Prop) (q_X6_around : Int → Hp → Int → Prop) (p_X6_freeColour : Int → Hp → Prop) (q_X6_freeColour : Int → Hp → Int → Prop) (p_X6_makeFree : Int → Hp → Prop) (q_X6_makeFree : Int → Hp → Int → Hp → Prop) (p_X6_colourCount : Hp → Prop) (q_X6_colourCount : Hp → Int → Prop) (I_32 : Nat → Hp → Int → Prop) (I_62 : Nat → Hp → Int → Prop) (I_72 : Nat → Nat → Hp → Int → Int → Prop) (I_123 : Nat → Hp → Int → Prop) (n_32 : Nat) (h : Hp) (x1 : Int) : Prop :=
  ((h 30 1) ≤ x1 → ∀ z38 : Int, z38 = 0 → (∃ n', I_62 n' h z38)) ∧ (¬ (h 30 1) ≤ x1 → ((0 : Int) ≤ x1 ∧ (x1 : Int) < 30) ∧ (∀ h40 : Hp, h40 = hup h 42 x1 1 → (((0 : Int) ≤ x1 ∧ (x1 : Int) < 30) ∧ (∀ h42 : Hp, h42 = hup h40 36 x1 0 → (InR (x1 + 1) ∧ (∀ z43 : Int, z43 = x1 + 1 → (∃ n', n' < n_32 ∧ I_32 n' h42 z43)))))))
def V_X6_colour_13 (P : Int → Hp → Prop) (p_X6_genusOf : Hp → Prop) (q_X6_genusOf : Hp → Int → Hp → Prop) (p_X6_around : Int → Hp → Prop) (q_X6_around : Int → Hp → Int → Prop) (p_X6_freeColour : Int → Hp → Prop) (q_X6_freeColour : Int → Hp → Int → Prop) (p_X6_makeFree : Int → Hp → Prop) (q_X6_makeFree : Int → Hp → Int → Hp → Prop) (p_X6_colourCount : Hp → Prop) (q_X6_colourCount : Hp → Int → Prop) (I_32 : Nat → Hp → Int → Prop) (I_62 : Nat → Hp → Int → Prop) (I_72 : Nat → Nat → Hp → Int → Int → Prop) (I_123 : Nat → Hp → Int → Prop) (h : Hp) (y1 : Int) : Prop :=
  ∀ h45 : Hp, h45 = hup h 30 0 y1 → (((h45 30 0) ≤ 0 → ∀ h47 : Hp, h47 = hup h45 30 10 0 → (∀ z48 : Int, z48 = 0 → (∃ n', I_32 n' h47 z48))) ∧ (¬ (h45 30 0) ≤ 0 → P 0 h45))
def V_X6_colour (P : Int → Hp → Prop) (p_X6_genusOf : Hp → Prop) (q_X6_genusOf : Hp → Int → Hp → Prop) (p_X6_around : Int → Hp → Prop) (q_X6_around : Int → Hp → Int → Prop) (p_X6_freeColour : Int → Hp → Prop) (q_X6_freeColour : Int → Hp → Int → Prop) (p_X6_makeFree : Int → Hp → Prop) (q_X6_makeFree : Int → Hp → Int → Hp → Prop) (p_X6_colourCount : Hp → Prop) (q_X6_colourCount : Hp → Int → Prop) (I_32 : Nat → Hp → Int → Prop) (I_62 : Nat → Hp → Int → Prop) (I_72 : Nat → Nat → Hp → Int → Int → Prop) (I_123 : Nat → Hp → Int → Prop) (h0 : Hp) : Prop :=
  p_X6_genusOf h0 ∧ (∀ (r50 : Int) (h51 : Hp), Fr [30, 37, 38, 39, 40] h0 h51 → RH h51 → InR r50 → q_X6_genusOf h0 r50 h51 → ((¬ r50 = 0 → V_X6_colour_13 P p_X6_genusOf q_X6_genusOf p_X6_around q_X6_around p_X6_freeColour q_X6_freeColour p_X6_makeFree q_X6_makeFree p_X6_colourCount q_X6_colourCount I_32 I_62 I_72 I_123 h51 1) ∧ (r50 = 0 → V_X6_colour_13 P p_X6_genusOf q_X6_genusOf p_X6_around q_X6_around p_X6_freeColour q_X6_freeColour p_X6_makeFree q_X6_makeFree p_X6_colourCount q_X6_colourCount I_32 I_62 I_72 I_123 h51 0)))
set_option maxHeartbeats 4000000 in
set_option maxRecDepth 100000 in
theorem w_X6_colour {l : Launch} (P : Int → Hp → Prop) (p_X6_genusOf : Hp → Prop) (q_X6_genusOf : Hp → Int → Hp → Prop) (p_X6_around : Int → Hp → Prop) (q_X6_around : Int → Hp → Int → Prop) (p_X6_freeColour : Int → Hp → Prop) (q_X6_freeColour : Int → Hp → Int → Prop) (p_X6_makeFree : Int → Hp → Prop) (q_X6_makeFree : Int → Hp → Int → Hp → Prop) (p_X6_colourCount : Hp → Prop) (q_X6_colourCount : Hp → Int → Prop) (I_32 : Nat → Hp → Int → Prop) (I_62 : Nat → Hp → Int → Prop) (I_72 : Nat → Nat → Hp → Int → Int → Prop) (I_123 : Nat → Hp → Int → Prop) (h0 : Hp)
    (c_X6_genusOf : ∀ (h : Hp), p_X6_genusOf h → Ct l yX6_genusOf cX6_genusOf 3 (some .int) 3 69 0 [vr 30] h [30, 37, 38, 39, 40] (fun r h1 => q_X6_genusOf h r h1) (fun _ => False))
    (c_X6_around : ∀ (b1 : Int) (h : Hp), p_X6_around b1 h → Ct l yX6_around cX6_around 4 (some .int) 1 22 0 [vr 30, vi b1] h [] (fun r _ => q_X6_around b1 h r) (fun _ => False))
    (c_X6_freeColour : ∀ (b1 : Int) (h : Hp), p_X6_freeColour b1 h → Ct l yX6_freeColour cX6_freeColour 6 (some .int) 1 22 0 [vr 30, vi b1] h [] (fun r _ => q_X6_freeColour b1 h r) (fun _ => False))
    (c_X6_makeFree : ∀ (b1 : Int) (h : Hp), p_X6_makeFree b1 h → Ct l yX6_makeFree cX6_makeFree 5 (some .int) 2 49 0 [vr 30, vi b1] h [30, 36, 40, 43] (fun r h1 => q_X6_makeFree b1 h r h1) (fun _ => False))
    (c_X6_colourCount : ∀ (h : Hp), p_X6_colourCount h → Ct l yX6_colourCount cX6_colourCount 5 (some .int) 0 0 0 [vr 30] h [] (fun r _ => q_X6_colourCount h r) (fun _ => False))
    (o_32 : ∀ (n_32 : Nat) (h : Hp) (x1 : Int), RH h → Fr [30, 36, 37, 38, 39, 40, 41, 42, 43] h0 h → InR x1 → I_32 n_32 h x1 → V_X6_colour_32 P p_X6_genusOf q_X6_genusOf p_X6_around q_X6_around p_X6_freeColour q_X6_freeColour p_X6_makeFree q_X6_makeFree p_X6_colourCount q_X6_colourCount I_32 I_62 I_72 I_123 n_32 h x1)
    (o_62 : ∀ (n_62 : Nat) (h : Hp) (x1 : Int), RH h → Fr [30, 36, 37, 38, 39, 40, 41, 42, 43] h0 h → InR x1 → I_62 n_62 h x1 → V_X6_colour_62 P p_X6_genusOf q_X6_genusOf p_X6_around q_X6_around p_X6_freeColour q_X6_freeColour p_X6_makeFree q_X6_makeFree p_X6_colourCount q_X6_colourCount I_32 I_62 I_72 I_123 n_62 h x1)
    (o_72 : ∀ (n_62 n_72 : Nat) (h : Hp) (x1 : Int) (x2 : Int), RH h → Fr [30, 36, 37, 38, 39, 40, 41, 42, 43] h0 h → InR x1 → InR x2 → I_72 n_62 n_72 h x1 x2 → V_X6_colour_72 P p_X6_genusOf q_X6_genusOf p_X6_around q_X6_around p_X6_freeColour q_X6_freeColour p_X6_makeFree q_X6_makeFree p_X6_colourCount q_X6_colourCount I_32 I_62 I_72 I_123 n_62 n_72 h x1 x2)
    (o_123 : ∀ (n_123 : Nat) (h : Hp) (x1 : Int), RH h → Fr [30, 36, 37, 38, 39, 40, 41, 42, 43] h0 h → InR x1 → I_123 n_123 h x1 → V_X6_colour_123 P p_X6_genusOf q_X6_genusOf p_X6_around q_X6_around p_X6_freeColour q_X6_freeColour p_X6_makeFree q_X6_makeFree p_X6_colourCount q_X6_colourCount I_32 I_62 I_72 I_123 n_123 h x1)
    (o : RH h0 → V_X6_colour P p_X6_genusOf q_X6_genusOf p_X6_around q_X6_around p_X6_freeColour q_X6_freeColour p_X6_makeFree q_X6_makeFree p_X6_colourCount q_X6_colourCount I_32 I_62 I_72 I_123 h0) :
    Ct l yX6_colour cX6_colour 4 (some .int) 4 91 0 [vr 30] h0 [30, 36, 37, 38, 39, 40, 41, 42, 43] P (fun _ => False) := by
  refine Ct.of (own := RX6) (by decide) rfl (Nat.le_of_ble_eq_true rfl) ?_
  intro X C hXl hXM hXh hXP hXX hXc hXr hav hR0
  have hmain : V_X6_colour P p_X6_genusOf q_X6_genusOf p_X6_around q_X6_around p_X6_freeColour q_X6_freeColour p_X6_makeFree q_X6_makeFree p_X6_colourCount q_X6_colourCount I_32 I_62 I_72 I_123 h0 := o hR0 
  have B_123 : ∀ (n_123 : Nat) (h : Hp) (x1 : Int), I_123 n_123 h x1 → Wh X 123 [(0, vr 30), (1, vi x1)] [] h 0 := by
    intro n_123
    induction n_123 using Nat.strongRecOn with
    | _ n_123 ih_123 =>
      intro h x1 hI
      refine s_use fun hR hF hL => ?_
      have v := o_123 n_123 h x1 hR (by rw [hXM, hXh] at hF; exact hF) (hL (1, vi x1) (by simp)) hI
      unfold V_X6_colour_123 at v
      have B_153 : ∀ (h : Hp) (x1 : Int) (x2 : Int) (y0 : Int), V_X6_colour_153 P p_X6_genusOf q_X6_genusOf p_X6_around q_X6_around p_X6_freeColour q_X6_freeColour p_X6_makeFree q_X6_makeFree p_X6_colourCount q_X6_colourCount I_32 I_62 I_72 I_123 n_123 h x1 x2 y0 → Wh X 153 [(0, vr 30), (1, vi x1), (2, vi x2)] [vi y0] h 0 := by
        intro h x1 x2 y0 v
        unfold V_X6_colour_153 at v
        refine s_istore_n C dX6_colour_153 (by decide) (fun z1 ez1 => ?_)
        have v := v z1 ez1
        show Wh X 154 [(3, vi z1), (0, vr 30), (1, vi x1), (2, vi x2)] [] h 0
        refine r_aload_n 1 C dX6_colour_154 rfl ?_
        refine gf_X6_26 C dX6_colour_155 ?_
        refine r_iload_n 3 C dX6_colour_158 rfl ?_
        refine r_iload_n 0 C dX6_colour_159 rfl ?_
        obtain ⟨o2, v⟩ := v
        refine s_iastore (r := 36) (N := 30) C dX6_colour_160 rfl hXM (by decide) o2 (fun h3 eh3 => ?_)
        have v := v h3 eh3
        refine r_aload_n 1 C dX6_colour_161 rfl ?_
        refine gf_X6_44 C dX6_colour_162 ?_
        refine r_iload_n 3 C dX6_colour_165 rfl ?_
        refine r_iconst C dX6_colour_166 ⟨by decide, by decide⟩ ?_
        obtain ⟨o4, v⟩ := v
        refine s_bastore (r := 42) (N := 30) C dX6_colour_167 rfl hXM (by decide) o4 (by decide) (fun h5 eh5 => ?_)
        have v := v h5 eh5
        obtain ⟨o7, v⟩ := v
        refine s_iinc 2 C dX6_colour_168 rfl (by decide) o7 (fun z6 ez6 => ?_)
        have v := v z6 ez6
        show Wh X 171 [(1, vi z6), (3, vi z1), (0, vr 30), (2, vi x2)] [] h5 0
        refine r_goto (tgt := 123) C dX6_colour_171 (by decide) ?_
        obtain ⟨n', hn', hI'⟩ := v
        exact s_sub [2, 0] rfl (ih_123 n' hn' _ _ hI')
      refine r_iload_n 1 C dX6_colour_123 rfl ?_
      refine r_if_lt (tgt := 174) C dX6_colour_124 (by decide) (fun c8 => ?_) (fun c8 => ?_)
      · have v := v.1 c8
        refine r_aload_n 0 C dX6_colour_174 rfl ?_
        obtain ⟨o9, v⟩ := v
        refine s_calli0 [] [] C dX6_colour_175 ck_X6_161 (r := 30) (fY := 0) (nY := 0) rfl rfl (by decide) (by decide) (Nat.le_of_ble_eq_true rfl) rfl (by rw [hXl]; exact c_X6_colourCount h o9) (fun r10 gr10 qr10 => ?_)
        have v := v r10 gr10 qr10
        exact r_ireturn C dX6_colour_178 hXr (Nat.zero_le _) (by rw [hXP]; exact v)
      · have v := v.2 c8
        refine r_aload_n 0 C dX6_colour_127 rfl ?_
        refine gf_X6_41 C dX6_colour_128 ?_
        refine r_iload_n 1 C dX6_colour_131 rfl ?_
        obtain ⟨o11, v⟩ := v
        refine r_iaload (r := 41) (N := 30) C dX6_colour_132 rfl o11 ?_
        refine s_istore_n C dX6_colour_133 (by decide) (fun z12 ez12 => ?_)
        have v := v z12 ez12
        show Wh X 134 [(2, vi z12), (0, vr 30), (1, vi x1)] [] h 0
        refine r_aload_n 1 C dX6_colour_134 rfl ?_
        refine r_iload_n 0 C dX6_colour_135 rfl ?_
        obtain ⟨o13, v⟩ := v
        refine s_calli0 [z12] [] C dX6_colour_136 ck_X6_155 (r := 30) (fY := 1) (nY := 22) rfl rfl (by decide) (by decide) (Nat.le_of_ble_eq_true rfl) rfl (by rw [hXl]; exact c_X6_freeColour z12 h o13) (fun r14 gr14 qr14 => ?_)
        have v := v r14 gr14 qr14
        refine s_istore_n C dX6_colour_139 (by decide) (fun z15 ez15 => ?_)
        have v := v z15 ez15
        show Wh X 140 [(3, vi z15), (2, vi z12), (0, vr 30), (1, vi x1)] [] h 0
        refine r_iload_n 0 C dX6_colour_140 rfl ?_
        refine r_if_ne (tgt := 152) C dX6_colour_141 (by decide) (fun c16 => ?_) (fun c16 => ?_)
        · have v := v.1 c16
          refine r_iload_n 0 C dX6_colour_152 rfl ?_
          exact s_sub [2, 3, 1] rfl (B_153 _ _ _ _ v)
        · have v := v.2 c16
          refine r_aload_n 2 C dX6_colour_144 rfl ?_
          refine r_iload_n 1 C dX6_colour_145 rfl ?_
          obtain ⟨o17, v⟩ := v
          refine s_calli [z12] [] C dX6_colour_146 ck_X6_158 (r := 30) (fY := 2) (nY := 49) rfl rfl (by decide) (by decide) (Nat.le_of_ble_eq_true rfl) rfl (MY := [30, 36, 40, 43]) hXM (by decide) (by rw [hXl]; exact c_X6_makeFree z12 h o17) (fun r18 h19 fr18 kr18 gr18 qr18 => ?_)
          have v := v r18 h19 fr18 kr18 gr18 qr18
          refine r_goto (tgt := 153) C dX6_colour_149 (by decide) ?_
          exact s_sub [2, 3, 1] rfl (B_153 _ _ _ _ v)
  have B_62 : ∀ (n_62 : Nat) (h : Hp) (x1 : Int), I_62 n_62 h x1 → Wh X 62 [(0, vr 30), (1, vi x1)] [] h 0 := by
    intro n_62
    induction n_62 using Nat.strongRecOn with
    | _ n_62 ih_62 =>
      intro h x1 hI
      refine s_use fun hR hF hL => ?_
      have v := o_62 n_62 h x1 hR (by rw [hXM, hXh] at hF; exact hF) (hL (1, vi x1) (by simp)) hI
      unfold V_X6_colour_62 at v
      have B_72 : ∀ (n_72 : Nat) (h : Hp) (x1 : Int) (x2 : Int), I_72 n_62 n_72 h x1 x2 → Wh X 72 [(0, vr 30), (1, vi x1), (2, vi x2)] [] h 0 := by
        intro n_72
        induction n_72 using Nat.strongRecOn with
        | _ n_72 ih_72 =>
          intro h x1 x2 hI
          refine s_use fun hR hF hL => ?_
          have v := o_72 n_62 n_72 h x1 x2 hR (by rw [hXM, hXh] at hF; exact hF) (hL (1, vi x1) (by simp)) (hL (2, vi x2) (by simp)) hI
          unfold V_X6_colour_72 at v
          have B_90 : ∀ (h : Hp) (x1 : Int) (x2 : Int), V_X6_colour_90 P p_X6_genusOf q_X6_genusOf p_X6_around q_X6_around p_X6_freeColour q_X6_freeColour p_X6_makeFree q_X6_makeFree p_X6_colourCount q_X6_colourCount I_32 I_62 I_72 I_123 n_62 n_72 h x1 x2 → Wh X 90 [(0, vr 30), (1, vi x1), (2, vi x2)] [] h 0 := by
            intro h x1 x2 v
            unfold V_X6_colour_90 at v
            obtain ⟨o21, v⟩ := v
            refine s_iinc 2 C dX6_colour_90 rfl (by decide) o21 (fun z20 ez20 => ?_)
            have v := v z20 ez20
            show Wh X 93 [(2, vi z20), (0, vr 30), (1, vi x1)] [] h 0
            refine r_goto (tgt := 72) C dX6_colour_93 (by decide) ?_
            obtain ⟨n', hn', hI'⟩ := v
            exact s_sub [1, 2, 0] rfl (ih_72 n' hn' _ _ _ hI')
          refine r_aload_n 0 C dX6_colour_72 rfl ?_
          refine gf_X6_44 C dX6_colour_73 ?_
          refine r_iload_n 2 C dX6_colour_76 rfl ?_
          obtain ⟨o22, v⟩ := v
          refine r_baload (r := 42) (N := 30) C dX6_colour_77 rfl o22 ?_
          refine r_if_eq (tgt := 90) C dX6_colour_78 (by decide) (fun c23 => ?_) (fun c23 => ?_)
          · have v := v.1 c23
            exact s_sub [0, 1, 2] rfl (B_90 _ _ _ v)
          · have v := v.2 c23
            refine r_aload_n 0 C dX6_colour_81 rfl ?_
            refine r_iload_n 2 C dX6_colour_82 rfl ?_
            obtain ⟨o24, v⟩ := v
            refine s_calli0 [x2] [] C dX6_colour_83 ck_X6_152 (r := 30) (fY := 1) (nY := 22) rfl rfl (by decide) (by decide) (Nat.le_of_ble_eq_true rfl) rfl (by rw [hXl]; exact c_X6_around x2 h o24) (fun r25 gr25 qr25 => ?_)
            have v := v r25 gr25 qr25
            refine r_iconst C dX6_colour_86 ⟨by decide, by decide⟩ ?_
            refine r_icmp_le (tgt := 96) C dX6_colour_87 (by decide) (fun c26 => ?_) (fun c26 => ?_)
            · have v := v.1 c26
              refine r_aload_n 0 C dX6_colour_96 rfl ?_
              refine gf_X6_44 C dX6_colour_97 ?_
              refine r_iload_n 2 C dX6_colour_100 rfl ?_
              refine r_iconst C dX6_colour_101 ⟨by decide, by decide⟩ ?_
              obtain ⟨o27, v⟩ := v
              refine s_bastore (r := 42) (N := 30) C dX6_colour_102 rfl hXM (by decide) o27 (by decide) (fun h28 eh28 => ?_)
              have v := v h28 eh28
              refine r_aload_n 0 C dX6_colour_103 rfl ?_
              refine gf_X6_41 C dX6_colour_104 ?_
              refine r_iload_n 1 C dX6_colour_107 rfl ?_
              refine r_iload_n 2 C dX6_colour_108 rfl ?_
              obtain ⟨o29, v⟩ := v
              refine s_iastore (r := 41) (N := 30) C dX6_colour_109 rfl hXM (by decide) o29 (fun h30 eh30 => ?_)
              have v := v h30 eh30
              obtain ⟨o32, v⟩ := v
              refine s_iinc 1 C dX6_colour_110 rfl (by decide) o32 (fun z31 ez31 => ?_)
              have v := v z31 ez31
              show Wh X 113 [(1, vi z31), (0, vr 30), (2, vi x2)] [] h30 0
              refine r_goto (tgt := 62) C dX6_colour_113 (by decide) ?_
              obtain ⟨n', hn', hI'⟩ := v
              exact s_sub [1, 0] rfl (ih_62 n' hn' _ _ hI')
            · have v := v.2 c26
              exact s_sub [0, 1, 2] rfl (B_90 _ _ _ v)
      refine r_iload_n 1 C dX6_colour_62 rfl ?_
      refine r_aload_n 0 C dX6_colour_63 rfl ?_
      refine gf_X6_63 C dX6_colour_64 ?_
      refine r_icmp_ge (tgt := 116) C dX6_colour_67 (by decide) (fun c33 => ?_) (fun c33 => ?_)
      · have v := v.1 c33
        refine r_aload_n 0 C dX6_colour_116 rfl ?_
        refine gf_X6_63 C dX6_colour_117 ?_
        refine r_iconst C dX6_colour_120 ⟨by decide, by decide⟩ ?_
        obtain ⟨o34, v⟩ := v
        refine r_isub C dX6_colour_121 o34 ?_
        refine s_istore_n C dX6_colour_122 (by decide) (fun z35 ez35 => ?_)
        have v := v z35 ez35
        show Wh X 123 [(1, vi z35), (0, vr 30)] [] h 0
        obtain ⟨n', hI'⟩ := v
        exact s_sub [1, 0] rfl (B_123 n' _ _ hI')
      · have v := v.2 c33
        refine r_iconst C dX6_colour_70 ⟨by decide, by decide⟩ ?_
        refine s_istore_n C dX6_colour_71 (by decide) (fun z36 ez36 => ?_)
        have v := v z36 ez36
        show Wh X 72 [(2, vi z36), (0, vr 30), (1, vi x1)] [] h 0
        obtain ⟨n', hI'⟩ := v
        exact s_sub [1, 2, 0] rfl (B_72 n' _ _ _ hI')
  have B_32 : ∀ (n_32 : Nat) (h : Hp) (x1 : Int), I_32 n_32 h x1 → Wh X 32 [(0, vr 30), (1, vi x1)] [] h 0 := by
    intro n_32
    induction n_32 using Nat.strongRecOn with
    | _ n_32 ih_32 =>
      intro h x1 hI
      refine s_use fun hR hF hL => ?_
      have v := o_32 n_32 h x1 hR (by rw [hXM, hXh] at hF; exact hF) (hL (1, vi x1) (by simp)) hI
      unfold V_X6_colour_32 at v
      refine r_iload_n 1 C dX6_colour_32 rfl ?_
      refine r_aload_n 0 C dX6_colour_33 rfl ?_
      refine gf_X6_63 C dX6_colour_34 ?_
      refine r_icmp_ge (tgt := 60) C dX6_colour_37 (by decide) (fun c37 => ?_) (fun c37 => ?_)
      · have v := v.1 c37
        refine r_iconst C dX6_colour_60 ⟨by decide, by decide⟩ ?_
        refine s_istore_n C dX6_colour_61 (by decide) (fun z38 ez38 => ?_)
        have v := v z38 ez38
        show Wh X 62 [(1, vi z38), (0, vr 30)] [] h 0
        obtain ⟨n', hI'⟩ := v
        exact s_sub [1, 0] rfl (B_62 n' _ _ hI')
      · have v := v.2 c37
        refine r_aload_n 0 C dX6_colour_40 rfl ?_
        refine gf_X6_44 C dX6_colour_41 ?_
        refine r_iload_n 1 C dX6_colour_44 rfl ?_
        refine r_iconst C dX6_colour_45 ⟨by decide, by decide⟩ ?_
        obtain ⟨o39, v⟩ := v
        refine s_bastore (r := 42) (N := 30) C dX6_colour_46 rfl hXM (by decide) o39 (by decide) (fun h40 eh40 => ?_)
        have v := v h40 eh40
        refine r_aload_n 0 C dX6_colour_47 rfl ?_
        refine gf_X6_26 C dX6_colour_48 ?_
        refine r_iload_n 1 C dX6_colour_51 rfl ?_
        refine r_iconst C dX6_colour_52 ⟨by decide, by decide⟩ ?_
        obtain ⟨o41, v⟩ := v
        refine s_iastore (r := 36) (N := 30) C dX6_colour_53 rfl hXM (by decide) o41 (fun h42 eh42 => ?_)
        have v := v h42 eh42
        obtain ⟨o44, v⟩ := v
        refine s_iinc 1 C dX6_colour_54 rfl (by decide) o44 (fun z43 ez43 => ?_)
        have v := v z43 ez43
        show Wh X 57 [(1, vi z43), (0, vr 30)] [] h42 0
        refine r_goto (tgt := 32) C dX6_colour_57 (by decide) ?_
        obtain ⟨n', hn', hI'⟩ := v
        exact s_sub [1, 0] rfl (ih_32 n' hn' _ _ hI')
  have B_13 : ∀ (h : Hp) (y1 : Int), V_X6_colour_13 P p_X6_genusOf q_X6_genusOf p_X6_around q_X6_around p_X6_freeColour q_X6_freeColour p_X6_makeFree q_X6_makeFree p_X6_colourCount q_X6_colourCount I_32 I_62 I_72 I_123 h y1 → Wh X 13 [(0, vr 30)] [vi y1, vr 30] h 0 := by
    intro h y1 v
    unfold V_X6_colour_13 at v
    refine pf_X6_59 C dX6_colour_13 hXM (by decide) (fun h45 eh45 => ?_)
    have v := v h45 eh45
    refine r_aload_n 0 C dX6_colour_16 rfl ?_
    refine gf_X6_59 C dX6_colour_17 ?_
    refine r_if_le (tgt := 25) C dX6_colour_20 (by decide) (fun c46 => ?_) (fun c46 => ?_)
    · have v := v.1 c46
      refine r_aload_n 0 C dX6_colour_25 rfl ?_
      refine r_iconst C dX6_colour_26 ⟨by decide, by decide⟩ ?_
      refine pf_X6_73 C dX6_colour_27 hXM (by decide) (fun h47 eh47 => ?_)
      have v := v h47 eh47
      refine r_iconst C dX6_colour_30 ⟨by decide, by decide⟩ ?_
      refine s_istore_n C dX6_colour_31 (by decide) (fun z48 ez48 => ?_)
      have v := v z48 ez48
      show Wh X 32 [(1, vi z48), (0, vr 30)] [] h47 0
      obtain ⟨n', hI'⟩ := v
      exact s_sub [1, 0] rfl (B_32 n' _ _ hI')
    · have v := v.2 c46
      refine r_iconst C dX6_colour_23 ⟨by decide, by decide⟩ ?_
      exact r_ireturn C dX6_colour_24 hXr (Nat.zero_le _) (by rw [hXP]; exact v)
  show Wh X 0 [(0, vr 30)] [] h0 0
  have v := hmain
  unfold V_X6_colour at v
  refine r_aload_n 0 C dX6_colour_0 rfl ?_
  refine r_aload_n 0 C dX6_colour_1 rfl ?_
  obtain ⟨o49, v⟩ := v
  refine s_calli [] [vr 30] C dX6_colour_2 ck_X6_136 (r := 30) (fY := 3) (nY := 69) rfl rfl (by decide) (by decide) (Nat.le_of_ble_eq_true rfl) rfl (MY := [30, 37, 38, 39, 40]) hXM (by decide) (by rw [hXl]; exact c_X6_genusOf h0 o49) (fun r50 h51 fr50 kr50 gr50 qr50 => ?_)
  have v := v r50 h51 fr50 kr50 gr50 qr50
  refine r_if_ne (tgt := 12) C dX6_colour_5 (by decide) (fun c52 => ?_) (fun c52 => ?_)
  · have v := v.1 c52
    refine r_iconst C dX6_colour_12 ⟨by decide, by decide⟩ ?_
    exact s_sub [0] rfl (B_13 _ _ v)
  · have v := v.2 c52
    refine r_iconst C dX6_colour_8 ⟨by decide, by decide⟩ ?_
    refine r_goto (tgt := 13) C dX6_colour_9 (by decide) ?_
    exact s_sub [0] rfl (B_13 _ _ v)

def V_X6_colourOf_34 (P : Int → Hp → Prop) (p_X6_isVertex : Int → Hp → Prop) (q_X6_isVertex : Int → Hp → Int → Prop) (h : Hp) (y0 : Int) : Prop :=
  P y0 h
def V_X6_colourOf_14 (P : Int → Hp → Prop) (p_X6_isVertex : Int → Hp → Prop) (q_X6_isVertex : Int → Hp → Int → Prop) (h : Hp) (x1 : Int) (y1 : Int) : Prop :=
  ∀ h1 : Hp, h1 = hup h 30 0 y1 → (((h1 30 0) ≤ 0 → ((0 : Int) ≤ x1 ∧ (x1 : Int) < 30) ∧ (V_X6_colourOf_34 P p_X6_isVertex q_X6_isVertex h1 (h1 36 x1))) ∧ (¬ (h1 30 0) ≤ 0 → V_X6_colourOf_34 P p_X6_isVertex q_X6_isVertex h1 0))
def V_X6_colourOf (P : Int → Hp → Prop) (p_X6_isVertex : Int → Hp → Prop) (q_X6_isVertex : Int → Hp → Int → Prop) (h0 : Hp) (a1 : Int) : Prop :=
  p_X6_isVertex a1 h0 ∧ (∀ r5 : Int, InR r5 → q_X6_isVertex a1 h0 r5 → ((r5 = 0 → V_X6_colourOf_14 P p_X6_isVertex q_X6_isVertex h0 a1 1) ∧ (¬ r5 = 0 → V_X6_colourOf_14 P p_X6_isVertex q_X6_isVertex h0 a1 0)))
set_option maxHeartbeats 4000000 in
set_option maxRecDepth 100000 in
theorem w_X6_colourOf {l : Launch} (P : Int → Hp → Prop) (p_X6_isVertex : Int → Hp → Prop) (q_X6_isVertex : Int → Hp → Int → Prop) (h0 : Hp) (a1 : Int)
    (c_X6_isVertex : ∀ (b1 : Int) (h : Hp), p_X6_isVertex b1 h → Ct l yX6_isVertex cX6_isVertex 2 (some .boolean) 0 0 0 [vr 30, vi b1] h [] (fun r _ => q_X6_isVertex b1 h r) (fun _ => False))
    (o : RH h0 → InR a1 → V_X6_colourOf P p_X6_isVertex q_X6_isVertex h0 a1) :
    Ct l yX6_colourOf cX6_colourOf 2 (some .int) 1 21 0 [vr 30, vi a1] h0 [30] P (fun _ => False) := by
  refine Ct.of (own := RX6) (by decide) rfl (Nat.le_of_ble_eq_true rfl) ?_
  intro X C hXl hXM hXh hXP hXX hXc hXr hav hR0
  have hmain : V_X6_colourOf P p_X6_isVertex q_X6_isVertex h0 a1 := o hR0 (hav (vi a1) (by simp))
  have B_34 : ∀ (h : Hp) (y0 : Int), V_X6_colourOf_34 P p_X6_isVertex q_X6_isVertex h y0 → Wh X 34 [(0, vr 30)] [vi y0] h 0 := by
    intro h y0 v
    unfold V_X6_colourOf_34 at v
    exact r_ireturn C dX6_colourOf_34 hXr (Nat.zero_le _) (by rw [hXP]; exact v)
  have B_14 : ∀ (h : Hp) (x1 : Int) (y1 : Int), V_X6_colourOf_14 P p_X6_isVertex q_X6_isVertex h x1 y1 → Wh X 14 [(0, vr 30), (1, vi x1)] [vi y1, vr 30] h 0 := by
    intro h x1 y1 v
    unfold V_X6_colourOf_14 at v
    refine pf_X6_59 C dX6_colourOf_14 hXM (by decide) (fun h1 eh1 => ?_)
    have v := v h1 eh1
    refine r_aload_n 0 C dX6_colourOf_17 rfl ?_
    refine gf_X6_59 C dX6_colourOf_18 ?_
    refine r_if_le (tgt := 28) C dX6_colourOf_21 (by decide) (fun c2 => ?_) (fun c2 => ?_)
    · have v := v.1 c2
      refine r_aload_n 0 C dX6_colourOf_28 rfl ?_
      refine gf_X6_26 C dX6_colourOf_29 ?_
      refine r_iload_n 1 C dX6_colourOf_32 rfl ?_
      obtain ⟨o3, v⟩ := v
      refine r_iaload (r := 36) (N := 30) C dX6_colourOf_33 rfl o3 ?_
      exact s_sub [0] rfl (B_34 _ _ v)
    · have v := v.2 c2
      refine r_iconst C dX6_colourOf_24 ⟨by decide, by decide⟩ ?_
      refine r_goto (tgt := 34) C dX6_colourOf_25 (by decide) ?_
      exact s_sub [0] rfl (B_34 _ _ v)
  show Wh X 0 [(0, vr 30), (1, vi a1)] [] h0 0
  have v := hmain
  unfold V_X6_colourOf at v
  refine r_aload_n 0 C dX6_colourOf_0 rfl ?_
  refine r_aload_n 0 C dX6_colourOf_1 rfl ?_
  refine r_iload_n 1 C dX6_colourOf_2 rfl ?_
  obtain ⟨o4, v⟩ := v
  refine s_calli0 [a1] [vr 30] C dX6_colourOf_3 ck_X6_79 (r := 30) (fY := 0) (nY := 0) rfl rfl (by decide) (by decide) (Nat.le_of_ble_eq_true rfl) rfl (by rw [hXl]; exact c_X6_isVertex a1 h0 o4) (fun r5 gr5 qr5 => ?_)
  have v := v r5 gr5 qr5
  refine r_if_eq (tgt := 13) C dX6_colourOf_6 (by decide) (fun c6 => ?_) (fun c6 => ?_)
  · have v := v.1 c6
    refine r_iconst C dX6_colourOf_13 ⟨by decide, by decide⟩ ?_
    exact s_sub [0, 1] rfl (B_14 _ _ _ v)
  · have v := v.2 c6
    refine r_iconst C dX6_colourOf_9 ⟨by decide, by decide⟩ ?_
    refine r_goto (tgt := 14) C dX6_colourOf_10 (by decide) ?_
    exact s_sub [0, 1] rfl (B_14 _ _ _ v)

def V_X6_exchanges (P : Int → Hp → Prop) (h0 : Hp) : Prop :=
  ∀ h1 : Hp, h1 = hup h0 30 0 0 → (P (h1 30 10) h1)
set_option maxHeartbeats 4000000 in
set_option maxRecDepth 100000 in
theorem w_X6_exchanges {l : Launch} (P : Int → Hp → Prop) (h0 : Hp)
    (o : RH h0 → V_X6_exchanges P h0) :
    Ct l yX6_exchanges cX6_exchanges 1 (some .int) 0 0 0 [vr 30] h0 [30] P (fun _ => False) := by
  refine Ct.of (own := RX6) (by decide) rfl (Nat.le_of_ble_eq_true rfl) ?_
  intro X C hXl hXM hXh hXP hXX hXc hXr hav hR0
  have hmain : V_X6_exchanges P h0 := o hR0 
  show Wh X 0 [(0, vr 30)] [] h0 0
  have v := hmain
  unfold V_X6_exchanges at v
  refine r_aload_n 0 C dX6_exchanges_0 rfl ?_
  refine r_iconst C dX6_exchanges_1 ⟨by decide, by decide⟩ ?_
  refine pf_X6_59 C dX6_exchanges_2 hXM (by decide) (fun h1 eh1 => ?_)
  have v := v h1 eh1
  refine r_aload_n 0 C dX6_exchanges_5 rfl ?_
  refine gf_X6_73 C dX6_exchanges_6 ?_
  exact r_ireturn C dX6_exchanges_9 hXr (Nat.zero_le _) (by rw [hXP]; exact v)

def V_X6_exchange_61 (P : Int → Hp → Prop) (p_X6_isVertex : Int → Hp → Prop) (q_X6_isVertex : Int → Hp → Int → Prop) (p_X6_findChain : Int → Int → Int → Hp → Prop) (q_X6_findChain : Int → Int → Int → Hp → Hp → Prop) (p_X6_changeChain : Int → Int → Hp → Prop) (q_X6_changeChain : Int → Int → Hp → Hp → Prop) (I_61 : Nat → Hp → Int → Int → Int → Prop) (n_61 : Nat) (h : Hp) (x1 : Int) (x2 : Int) (x3 : Int) : Prop :=
  ((h 30 1) ≤ x3 → ((0 : Int) ≤ x1 ∧ (x1 : Int) < 30) ∧ (∀ z3 : Int, z3 = (h 36 x1) → (p_X6_findChain x1 z3 x2 h ∧ (∀ h5 : Hp, Fr [30, 40, 43] h h5 → RH h5 → q_X6_findChain x1 z3 x2 h h5 → (p_X6_changeChain z3 x2 h5 ∧ (∀ h7 : Hp, Fr [36] h5 h7 → RH h7 → q_X6_changeChain z3 x2 h5 h7 → (P (h7 30 20) h7))))))) ∧ (¬ (h 30 1) ≤ x3 → ((0 : Int) ≤ x3 ∧ (x3 : Int) < 30) ∧ (∀ h9 : Hp, h9 = hup h 42 x3 1 → (InR (x3 + 1) ∧ (∀ z10 : Int, z10 = x3 + 1 → (∃ n', n' < n_61 ∧ I_61 n' h9 x1 x2 z10)))))
def V_X6_exchange_47 (P : Int → Hp → Prop) (p_X6_isVertex : Int → Hp → Prop) (q_X6_isVertex : Int → Hp → Int → Prop) (p_X6_findChain : Int → Int → Int → Hp → Prop) (q_X6_findChain : Int → Int → Int → Hp → Hp → Prop) (p_X6_changeChain : Int → Int → Hp → Prop) (q_X6_changeChain : Int → Int → Hp → Hp → Prop) (I_61 : Nat → Hp → Int → Int → Int → Prop) (h : Hp) (x1 : Int) (x2 : Int) (y1 : Int) : Prop :=
  ∀ h12 : Hp, h12 = hup h 30 0 y1 → (((h12 30 0) ≤ 0 → ∀ z14 : Int, z14 = 0 → (∃ n', I_61 n' h12 x1 x2 z14)) ∧ (¬ (h12 30 0) ≤ 0 → P 0 h12))
def V_X6_exchange_42 (P : Int → Hp → Prop) (p_X6_isVertex : Int → Hp → Prop) (q_X6_isVertex : Int → Hp → Int → Prop) (p_X6_findChain : Int → Int → Int → Hp → Prop) (q_X6_findChain : Int → Int → Int → Hp → Hp → Prop) (p_X6_changeChain : Int → Int → Hp → Prop) (q_X6_changeChain : Int → Int → Hp → Hp → Prop) (I_61 : Nat → Hp → Int → Int → Int → Prop) (h : Hp) (x1 : Int) (x2 : Int) : Prop :=
  V_X6_exchange_47 P p_X6_isVertex q_X6_isVertex p_X6_findChain q_X6_findChain p_X6_changeChain q_X6_changeChain I_61 h x1 x2 2
def V_X6_exchange (P : Int → Hp → Prop) (p_X6_isVertex : Int → Hp → Prop) (q_X6_isVertex : Int → Hp → Int → Prop) (p_X6_findChain : Int → Int → Int → Hp → Prop) (q_X6_findChain : Int → Int → Int → Hp → Hp → Prop) (p_X6_changeChain : Int → Int → Hp → Prop) (q_X6_changeChain : Int → Int → Hp → Hp → Prop) (I_61 : Nat → Hp → Int → Int → Int → Prop) (h0 : Hp) (a1 : Int) (a2 : Int) : Prop :=
  p_X6_isVertex a1 h0 ∧ (∀ r16 : Int, InR r16 → q_X6_isVertex a1 h0 r16 → ((¬ r16 = 0 → ((0 : Int) ≤ a1 ∧ (a1 : Int) < 30) ∧ (((h0 36 a1) = 0 → V_X6_exchange_42 P p_X6_isVertex q_X6_isVertex p_X6_findChain q_X6_findChain p_X6_changeChain q_X6_changeChain I_61 h0 a1 a2) ∧ (¬ (h0 36 a1) = 0 → (a2 < 1 → V_X6_exchange_42 P p_X6_isVertex q_X6_isVertex p_X6_findChain q_X6_findChain p_X6_changeChain q_X6_changeChain I_61 h0 a1 a2) ∧ (¬ a2 < 1 → (5 < a2 → V_X6_exchange_42 P p_X6_isVertex q_X6_isVertex p_X6_findChain q_X6_findChain p_X6_changeChain q_X6_changeChain I_61 h0 a1 a2) ∧ (¬ 5 < a2 → ((0 : Int) ≤ a1 ∧ (a1 : Int) < 30) ∧ ((¬ a2 = (h0 36 a1) → V_X6_exchange_47 P p_X6_isVertex q_X6_isVertex p_X6_findChain q_X6_findChain p_X6_changeChain q_X6_changeChain I_61 h0 a1 a2 0) ∧ (a2 = (h0 36 a1) → V_X6_exchange_42 P p_X6_isVertex q_X6_isVertex p_X6_findChain q_X6_findChain p_X6_changeChain q_X6_changeChain I_61 h0 a1 a2))))))) ∧ (r16 = 0 → V_X6_exchange_47 P p_X6_isVertex q_X6_isVertex p_X6_findChain q_X6_findChain p_X6_changeChain q_X6_changeChain I_61 h0 a1 a2 1)))
set_option maxHeartbeats 4000000 in
set_option maxRecDepth 100000 in
theorem w_X6_exchange {l : Launch} (P : Int → Hp → Prop) (p_X6_isVertex : Int → Hp → Prop) (q_X6_isVertex : Int → Hp → Int → Prop) (p_X6_findChain : Int → Int → Int → Hp → Prop) (q_X6_findChain : Int → Int → Int → Hp → Hp → Prop) (p_X6_changeChain : Int → Int → Hp → Prop) (q_X6_changeChain : Int → Int → Hp → Hp → Prop) (I_61 : Nat → Hp → Int → Int → Int → Prop) (h0 : Hp) (a1 : Int) (a2 : Int)
    (c_X6_isVertex : ∀ (b1 : Int) (h : Hp), p_X6_isVertex b1 h → Ct l yX6_isVertex cX6_isVertex 2 (some .boolean) 0 0 0 [vr 30, vi b1] h [] (fun r _ => q_X6_isVertex b1 h r) (fun _ => False))
    (c_X6_findChain : ∀ (b1 : Int) (b2 : Int) (b3 : Int) (h : Hp), p_X6_findChain b1 b2 b3 h → Ct l yX6_findChain cX6_findChain 8 none 1 22 0 [vr 30, vi b1, vi b2, vi b3] h [30, 40, 43] (fun _ h1 => q_X6_findChain b1 b2 b3 h h1) (fun _ => False))
    (c_X6_changeChain : ∀ (b1 : Int) (b2 : Int) (h : Hp), p_X6_changeChain b1 b2 h → Ct l yX6_changeChain cX6_changeChain 4 none 0 0 0 [vr 30, vi b1, vi b2] h [36] (fun _ h1 => q_X6_changeChain b1 b2 h h1) (fun _ => False))
    (o_61 : ∀ (n_61 : Nat) (h : Hp) (x1 : Int) (x2 : Int) (x3 : Int), RH h → Fr [30, 36, 40, 42, 43] h0 h → InR x1 → InR x2 → InR x3 → I_61 n_61 h x1 x2 x3 → V_X6_exchange_61 P p_X6_isVertex q_X6_isVertex p_X6_findChain q_X6_findChain p_X6_changeChain q_X6_changeChain I_61 n_61 h x1 x2 x3)
    (o : RH h0 → InR a1 → InR a2 → V_X6_exchange P p_X6_isVertex q_X6_isVertex p_X6_findChain q_X6_findChain p_X6_changeChain q_X6_changeChain I_61 h0 a1 a2) :
    Ct l yX6_exchange cX6_exchange 4 (some .int) 2 49 0 [vr 30, vi a1, vi a2] h0 [30, 36, 40, 42, 43] P (fun _ => False) := by
  refine Ct.of (own := RX6) (by decide) rfl (Nat.le_of_ble_eq_true rfl) ?_
  intro X C hXl hXM hXh hXP hXX hXc hXr hav hR0
  have hmain : V_X6_exchange P p_X6_isVertex q_X6_isVertex p_X6_findChain q_X6_findChain p_X6_changeChain q_X6_changeChain I_61 h0 a1 a2 := o hR0 (hav (vi a1) (by simp)) (hav (vi a2) (by simp))
  have B_61 : ∀ (n_61 : Nat) (h : Hp) (x1 : Int) (x2 : Int) (x3 : Int), I_61 n_61 h x1 x2 x3 → Wh X 61 [(0, vr 30), (1, vi x1), (2, vi x2), (3, vi x3)] [] h 0 := by
    intro n_61
    induction n_61 using Nat.strongRecOn with
    | _ n_61 ih_61 =>
      intro h x1 x2 x3 hI
      refine s_use fun hR hF hL => ?_
      have v := o_61 n_61 h x1 x2 x3 hR (by rw [hXM, hXh] at hF; exact hF) (hL (1, vi x1) (by simp)) (hL (2, vi x2) (by simp)) (hL (3, vi x3) (by simp)) hI
      unfold V_X6_exchange_61 at v
      refine r_iload_n 3 C dX6_exchange_61 rfl ?_
      refine r_aload_n 0 C dX6_exchange_62 rfl ?_
      refine gf_X6_63 C dX6_exchange_63 ?_
      refine r_icmp_ge (tgt := 82) C dX6_exchange_66 (by decide) (fun c1 => ?_) (fun c1 => ?_)
      · have v := v.1 c1
        refine r_aload_n 0 C dX6_exchange_82 rfl ?_
        refine gf_X6_26 C dX6_exchange_83 ?_
        refine r_iload_n 1 C dX6_exchange_86 rfl ?_
        obtain ⟨o2, v⟩ := v
        refine r_iaload (r := 36) (N := 30) C dX6_exchange_87 rfl o2 ?_
        refine s_istore_n C dX6_exchange_88 (by decide) (fun z3 ez3 => ?_)
        have v := v z3 ez3
        show Wh X 89 [(3, vi z3), (0, vr 30), (1, vi x1), (2, vi x2)] [] h 0
        refine r_aload_n 1 C dX6_exchange_89 rfl ?_
        refine r_iload_n 2 C dX6_exchange_90 rfl ?_
        refine r_iload_n 0 C dX6_exchange_91 rfl ?_
        refine r_iload_n 3 C dX6_exchange_92 rfl ?_
        obtain ⟨o4, v⟩ := v
        refine s_callv [x1, z3, x2] [] C dX6_exchange_93 ck_X6_146 (r := 30) (fY := 1) (nY := 22) rfl rfl (by decide) (by decide) (Nat.le_of_ble_eq_true rfl) rfl (MY := [30, 40, 43]) hXM (by decide) (by rw [hXl]; exact c_X6_findChain x1 z3 x2 h o4) (fun h5 fh5 kh5 qh5 => ?_)
        have v := v h5 fh5 kh5 qh5
        refine r_aload_n 1 C dX6_exchange_96 rfl ?_
        refine r_iload_n 0 C dX6_exchange_97 rfl ?_
        refine r_iload_n 3 C dX6_exchange_98 rfl ?_
        obtain ⟨o6, v⟩ := v
        refine s_callv [z3, x2] [] C dX6_exchange_99 ck_X6_149 (r := 30) (fY := 0) (nY := 0) rfl rfl (by decide) (by decide) (Nat.le_of_ble_eq_true rfl) rfl (MY := [36]) hXM (by decide) (by rw [hXl]; exact c_X6_changeChain z3 x2 h5 o6) (fun h7 fh7 kh7 qh7 => ?_)
        have v := v h7 fh7 kh7 qh7
        refine r_aload_n 1 C dX6_exchange_102 rfl ?_
        refine gf_X6_140 C dX6_exchange_103 ?_
        exact r_ireturn C dX6_exchange_106 hXr (Nat.zero_le _) (by rw [hXP]; exact v)
      · have v := v.2 c1
        refine r_aload_n 0 C dX6_exchange_69 rfl ?_
        refine gf_X6_44 C dX6_exchange_70 ?_
        refine r_iload_n 3 C dX6_exchange_73 rfl ?_
        refine r_iconst C dX6_exchange_74 ⟨by decide, by decide⟩ ?_
        obtain ⟨o8, v⟩ := v
        refine s_bastore (r := 42) (N := 30) C dX6_exchange_75 rfl hXM (by decide) o8 (by decide) (fun h9 eh9 => ?_)
        have v := v h9 eh9
        obtain ⟨o11, v⟩ := v
        refine s_iinc 3 C dX6_exchange_76 rfl (by decide) o11 (fun z10 ez10 => ?_)
        have v := v z10 ez10
        show Wh X 79 [(3, vi z10), (0, vr 30), (1, vi x1), (2, vi x2)] [] h9 0
        refine r_goto (tgt := 61) C dX6_exchange_79 (by decide) ?_
        obtain ⟨n', hn', hI'⟩ := v
        exact s_sub [1, 2, 3, 0] rfl (ih_61 n' hn' _ _ _ _ hI')
  have B_47 : ∀ (h : Hp) (x1 : Int) (x2 : Int) (y1 : Int), V_X6_exchange_47 P p_X6_isVertex q_X6_isVertex p_X6_findChain q_X6_findChain p_X6_changeChain q_X6_changeChain I_61 h x1 x2 y1 → Wh X 47 [(0, vr 30), (1, vi x1), (2, vi x2)] [vi y1, vr 30] h 0 := by
    intro h x1 x2 y1 v
    unfold V_X6_exchange_47 at v
    refine pf_X6_59 C dX6_exchange_47 hXM (by decide) (fun h12 eh12 => ?_)
    have v := v h12 eh12
    refine r_aload_n 0 C dX6_exchange_50 rfl ?_
    refine gf_X6_59 C dX6_exchange_51 ?_
    refine r_if_le (tgt := 59) C dX6_exchange_54 (by decide) (fun c13 => ?_) (fun c13 => ?_)
    · have v := v.1 c13
      refine r_iconst C dX6_exchange_59 ⟨by decide, by decide⟩ ?_
      refine s_istore_n C dX6_exchange_60 (by decide) (fun z14 ez14 => ?_)
      have v := v z14 ez14
      show Wh X 61 [(3, vi z14), (0, vr 30), (1, vi x1), (2, vi x2)] [] h12 0
      obtain ⟨n', hI'⟩ := v
      exact s_sub [1, 2, 3, 0] rfl (B_61 n' _ _ _ _ hI')
    · have v := v.2 c13
      refine r_iconst C dX6_exchange_57 ⟨by decide, by decide⟩ ?_
      exact r_ireturn C dX6_exchange_58 hXr (Nat.zero_le _) (by rw [hXP]; exact v)
  have B_42 : ∀ (h : Hp) (x1 : Int) (x2 : Int), V_X6_exchange_42 P p_X6_isVertex q_X6_isVertex p_X6_findChain q_X6_findChain p_X6_changeChain q_X6_changeChain I_61 h x1 x2 → Wh X 42 [(0, vr 30), (1, vi x1), (2, vi x2)] [vr 30] h 0 := by
    intro h x1 x2 v
    unfold V_X6_exchange_42 at v
    refine r_iconst C dX6_exchange_42 ⟨by decide, by decide⟩ ?_
    refine r_goto (tgt := 47) C dX6_exchange_43 (by decide) ?_
    exact s_sub [0, 1, 2] rfl (B_47 _ _ _ _ v)
  show Wh X 0 [(0, vr 30), (1, vi a1), (2, vi a2)] [] h0 0
  have v := hmain
  unfold V_X6_exchange at v
  refine r_aload_n 0 C dX6_exchange_0 rfl ?_
  refine r_aload_n 0 C dX6_exchange_1 rfl ?_
  refine r_iload_n 1 C dX6_exchange_2 rfl ?_
  obtain ⟨o15, v⟩ := v
  refine s_calli0 [a1] [vr 30] C dX6_exchange_3 ck_X6_79 (r := 30) (fY := 0) (nY := 0) rfl rfl (by decide) (by decide) (Nat.le_of_ble_eq_true rfl) rfl (by rw [hXl]; exact c_X6_isVertex a1 h0 o15) (fun r16 gr16 qr16 => ?_)
  have v := v r16 gr16 qr16
  refine r_if_ne (tgt := 13) C dX6_exchange_6 (by decide) (fun c17 => ?_) (fun c17 => ?_)
  · have v := v.1 c17
    refine r_aload_n 0 C dX6_exchange_13 rfl ?_
    refine gf_X6_26 C dX6_exchange_14 ?_
    refine r_iload_n 1 C dX6_exchange_17 rfl ?_
    obtain ⟨o18, v⟩ := v
    refine r_iaload (r := 36) (N := 30) C dX6_exchange_18 rfl o18 ?_
    refine r_if_eq (tgt := 42) C dX6_exchange_19 (by decide) (fun c19 => ?_) (fun c19 => ?_)
    · have v := v.1 c19
      exact s_sub [0, 1, 2] rfl (B_42 _ _ _ v)
    · have v := v.2 c19
      refine r_iload_n 2 C dX6_exchange_22 rfl ?_
      refine r_iconst C dX6_exchange_23 ⟨by decide, by decide⟩ ?_
      refine r_icmp_lt (tgt := 42) C dX6_exchange_24 (by decide) (fun c20 => ?_) (fun c20 => ?_)
      · have v := v.1 c20
        exact s_sub [0, 1, 2] rfl (B_42 _ _ _ v)
      · have v := v.2 c20
        refine r_iload_n 2 C dX6_exchange_27 rfl ?_
        refine r_iconst C dX6_exchange_28 ⟨by decide, by decide⟩ ?_
        refine r_icmp_gt (tgt := 42) C dX6_exchange_29 (by decide) (fun c21 => ?_) (fun c21 => ?_)
        · have v := v.1 c21
          exact s_sub [0, 1, 2] rfl (B_42 _ _ _ v)
        · have v := v.2 c21
          refine r_iload_n 2 C dX6_exchange_32 rfl ?_
          refine r_aload_n 0 C dX6_exchange_33 rfl ?_
          refine gf_X6_26 C dX6_exchange_34 ?_
          refine r_iload_n 1 C dX6_exchange_37 rfl ?_
          obtain ⟨o22, v⟩ := v
          refine r_iaload (r := 36) (N := 30) C dX6_exchange_38 rfl o22 ?_
          refine r_icmp_ne (tgt := 46) C dX6_exchange_39 (by decide) (fun c23 => ?_) (fun c23 => ?_)
          · have v := v.1 c23
            refine r_iconst C dX6_exchange_46 ⟨by decide, by decide⟩ ?_
            exact s_sub [0, 1, 2] rfl (B_47 _ _ _ _ v)
          · have v := v.2 c23
            exact s_sub [0, 1, 2] rfl (B_42 _ _ _ v)
  · have v := v.2 c17
    refine r_iconst C dX6_exchange_9 ⟨by decide, by decide⟩ ?_
    refine r_goto (tgt := 47) C dX6_exchange_10 (by decide) ?_
    exact s_sub [0, 1, 2] rfl (B_47 _ _ _ _ v)

def V_X6_clashes_72 (P : Int → Hp → Prop) (I_9 : Nat → Hp → Int → Int → Prop) (n_9 : Nat) (h : Hp) (x2 : Int) (y0 : Int) : Prop :=
  ∀ z1 : Int, z1 = y0 → (InR (x2 + 1) ∧ (∀ z2 : Int, z2 = x2 + 1 → (∃ n', n' < n_9 ∧ I_9 n' h z1 z2)))
def V_X6_clashes_71 (P : Int → Hp → Prop) (I_9 : Nat → Hp → Int → Int → Prop) (n_9 : Nat) (h : Hp) (x1 : Int) (x2 : Int) : Prop :=
  V_X6_clashes_72 P I_9 n_9 h x2 x1
def V_X6_clashes_9 (P : Int → Hp → Prop) (I_9 : Nat → Hp → Int → Int → Prop) (n_9 : Nat) (h : Hp) (x1 : Int) (x2 : Int) : Prop :=
  ((h 30 2) ≤ x2 → P x1 h) ∧ (¬ (h 30 2) ≤ x2 → ((0 : Int) ≤ x2 ∧ (x2 : Int) < 100) ∧ ((¬ (h 33 x2) = 0 → V_X6_clashes_71 P I_9 n_9 h x1 x2) ∧ ((h 33 x2) = 0 → ((0 : Int) ≤ x2 ∧ (x2 : Int) < 100) ∧ (((0 : Int) ≤ (h 31 x2) ∧ ((h 31 x2) : Int) < 30) ∧ (((h 36 (h 31 x2)) ≤ 0 → V_X6_clashes_71 P I_9 n_9 h x1 x2) ∧ (¬ (h 36 (h 31 x2)) ≤ 0 → ((0 : Int) ≤ x2 ∧ (x2 : Int) < 100) ∧ (((0 : Int) ≤ (h 31 x2) ∧ ((h 31 x2) : Int) < 30) ∧ (((0 : Int) ≤ x2 ∧ (x2 : Int) < 100) ∧ (((0 : Int) ≤ (h 32 x2) ∧ ((h 32 x2) : Int) < 30) ∧ ((¬ (h 36 (h 31 x2)) = (h 36 (h 32 x2)) → V_X6_clashes_71 P I_9 n_9 h x1 x2) ∧ ((h 36 (h 31 x2)) = (h 36 (h 32 x2)) → InR (x1 + 1) ∧ (V_X6_clashes_72 P I_9 n_9 h x2 (x1 + 1)))))))))))))
def V_X6_clashes (P : Int → Hp → Prop) (I_9 : Nat → Hp → Int → Int → Prop) (h0 : Hp) : Prop :=
  ∀ h16 : Hp, h16 = hup h0 30 0 0 → (∀ z17 : Int, z17 = 0 → (∀ z18 : Int, z18 = 0 → (∃ n', I_9 n' h16 z17 z18)))
set_option maxHeartbeats 4000000 in
set_option maxRecDepth 100000 in
theorem w_X6_clashes {l : Launch} (P : Int → Hp → Prop) (I_9 : Nat → Hp → Int → Int → Prop) (h0 : Hp)
    (o_9 : ∀ (n_9 : Nat) (h : Hp) (x1 : Int) (x2 : Int), RH h → Fr [30] h0 h → InR x1 → InR x2 → I_9 n_9 h x1 x2 → V_X6_clashes_9 P I_9 n_9 h x1 x2)
    (o : RH h0 → V_X6_clashes P I_9 h0) :
    Ct l yX6_clashes cX6_clashes 3 (some .int) 0 0 0 [vr 30] h0 [30] P (fun _ => False) := by
  refine Ct.of (own := RX6) (by decide) rfl (Nat.le_of_ble_eq_true rfl) ?_
  intro X C hXl hXM hXh hXP hXX hXc hXr hav hR0
  have hmain : V_X6_clashes P I_9 h0 := o hR0 
  have B_9 : ∀ (n_9 : Nat) (h : Hp) (x1 : Int) (x2 : Int), I_9 n_9 h x1 x2 → Wh X 9 [(0, vr 30), (1, vi x1), (2, vi x2)] [] h 0 := by
    intro n_9
    induction n_9 using Nat.strongRecOn with
    | _ n_9 ih_9 =>
      intro h x1 x2 hI
      refine s_use fun hR hF hL => ?_
      have v := o_9 n_9 h x1 x2 hR (by rw [hXM, hXh] at hF; exact hF) (hL (1, vi x1) (by simp)) (hL (2, vi x2) (by simp)) hI
      unfold V_X6_clashes_9 at v
      have B_72 : ∀ (h : Hp) (x2 : Int) (y0 : Int), V_X6_clashes_72 P I_9 n_9 h x2 y0 → Wh X 72 [(0, vr 30), (2, vi x2)] [vi y0] h 0 := by
        intro h x2 y0 v
        unfold V_X6_clashes_72 at v
        refine s_istore_n C dX6_clashes_72 (by decide) (fun z1 ez1 => ?_)
        have v := v z1 ez1
        show Wh X 73 [(1, vi z1), (0, vr 30), (2, vi x2)] [] h 0
        obtain ⟨o3, v⟩ := v
        refine s_iinc 2 C dX6_clashes_73 rfl (by decide) o3 (fun z2 ez2 => ?_)
        have v := v z2 ez2
        show Wh X 76 [(2, vi z2), (1, vi z1), (0, vr 30)] [] h 0
        refine r_goto (tgt := 9) C dX6_clashes_76 (by decide) ?_
        obtain ⟨n', hn', hI'⟩ := v
        exact s_sub [2, 1, 0] rfl (ih_9 n' hn' _ _ _ hI')
      have B_71 : ∀ (h : Hp) (x1 : Int) (x2 : Int), V_X6_clashes_71 P I_9 n_9 h x1 x2 → Wh X 71 [(0, vr 30), (1, vi x1), (2, vi x2)] [] h 0 := by
        intro h x1 x2 v
        unfold V_X6_clashes_71 at v
        refine r_iload_n 1 C dX6_clashes_71 rfl ?_
        exact s_sub [0, 2] rfl (B_72 _ _ _ v)
      refine r_iload_n 2 C dX6_clashes_9 rfl ?_
      refine r_aload_n 0 C dX6_clashes_10 rfl ?_
      refine gf_X6_66 C dX6_clashes_11 ?_
      refine r_icmp_ge (tgt := 79) C dX6_clashes_14 (by decide) (fun c4 => ?_) (fun c4 => ?_)
      · have v := v.1 c4
        refine r_iload_n 1 C dX6_clashes_79 rfl ?_
        exact r_ireturn C dX6_clashes_80 hXr (Nat.zero_le _) (by rw [hXP]; exact v)
      · have v := v.2 c4
        refine r_aload_n 0 C dX6_clashes_17 rfl ?_
        refine gf_X6_16 C dX6_clashes_18 ?_
        refine r_iload_n 2 C dX6_clashes_21 rfl ?_
        obtain ⟨o5, v⟩ := v
        refine r_baload (r := 33) (N := 100) C dX6_clashes_22 rfl o5 ?_
        refine r_if_ne (tgt := 71) C dX6_clashes_23 (by decide) (fun c6 => ?_) (fun c6 => ?_)
        · have v := v.1 c6
          exact s_sub [0, 1, 2] rfl (B_71 _ _ _ v)
        · have v := v.2 c6
          refine r_aload_n 0 C dX6_clashes_26 rfl ?_
          refine gf_X6_26 C dX6_clashes_27 ?_
          refine r_aload_n 0 C dX6_clashes_30 rfl ?_
          refine gf_X6_7 C dX6_clashes_31 ?_
          refine r_iload_n 2 C dX6_clashes_34 rfl ?_
          obtain ⟨o7, v⟩ := v
          refine r_iaload (r := 31) (N := 100) C dX6_clashes_35 rfl o7 ?_
          obtain ⟨o8, v⟩ := v
          refine r_iaload (r := 36) (N := 30) C dX6_clashes_36 rfl o8 ?_
          refine r_if_le (tgt := 71) C dX6_clashes_37 (by decide) (fun c9 => ?_) (fun c9 => ?_)
          · have v := v.1 c9
            exact s_sub [0, 1, 2] rfl (B_71 _ _ _ v)
          · have v := v.2 c9
            refine r_aload_n 0 C dX6_clashes_40 rfl ?_
            refine gf_X6_26 C dX6_clashes_41 ?_
            refine r_aload_n 0 C dX6_clashes_44 rfl ?_
            refine gf_X6_7 C dX6_clashes_45 ?_
            refine r_iload_n 2 C dX6_clashes_48 rfl ?_
            obtain ⟨o10, v⟩ := v
            refine r_iaload (r := 31) (N := 100) C dX6_clashes_49 rfl o10 ?_
            obtain ⟨o11, v⟩ := v
            refine r_iaload (r := 36) (N := 30) C dX6_clashes_50 rfl o11 ?_
            refine r_aload_n 0 C dX6_clashes_51 rfl ?_
            refine gf_X6_26 C dX6_clashes_52 ?_
            refine r_aload_n 0 C dX6_clashes_55 rfl ?_
            refine gf_X6_13 C dX6_clashes_56 ?_
            refine r_iload_n 2 C dX6_clashes_59 rfl ?_
            obtain ⟨o12, v⟩ := v
            refine r_iaload (r := 32) (N := 100) C dX6_clashes_60 rfl o12 ?_
            obtain ⟨o13, v⟩ := v
            refine r_iaload (r := 36) (N := 30) C dX6_clashes_61 rfl o13 ?_
            refine r_icmp_ne (tgt := 71) C dX6_clashes_62 (by decide) (fun c14 => ?_) (fun c14 => ?_)
            · have v := v.1 c14
              exact s_sub [0, 1, 2] rfl (B_71 _ _ _ v)
            · have v := v.2 c14
              refine r_iload_n 1 C dX6_clashes_65 rfl ?_
              refine r_iconst C dX6_clashes_66 ⟨by decide, by decide⟩ ?_
              obtain ⟨o15, v⟩ := v
              refine r_iadd C dX6_clashes_67 o15 ?_
              refine r_goto (tgt := 72) C dX6_clashes_68 (by decide) ?_
              exact s_sub [0, 2] rfl (B_72 _ _ _ v)
  show Wh X 0 [(0, vr 30)] [] h0 0
  have v := hmain
  unfold V_X6_clashes at v
  refine r_aload_n 0 C dX6_clashes_0 rfl ?_
  refine r_iconst C dX6_clashes_1 ⟨by decide, by decide⟩ ?_
  refine pf_X6_59 C dX6_clashes_2 hXM (by decide) (fun h16 eh16 => ?_)
  have v := v h16 eh16
  refine r_iconst C dX6_clashes_5 ⟨by decide, by decide⟩ ?_
  refine s_istore_n C dX6_clashes_6 (by decide) (fun z17 ez17 => ?_)
  have v := v z17 ez17
  show Wh X 7 [(1, vi z17), (0, vr 30)] [] h16 0
  refine r_iconst C dX6_clashes_7 ⟨by decide, by decide⟩ ?_
  refine s_istore_n C dX6_clashes_8 (by decide) (fun z18 ez18 => ?_)
  have v := v z18 ez18
  show Wh X 9 [(2, vi z18), (1, vi z17), (0, vr 30)] [] h16 0
  obtain ⟨n', hI'⟩ := v
  exact s_sub [2, 1, 0] rfl (B_9 n' _ _ _ hI')

def V_X6_isTree_45 (P : Int → Hp → Prop) (h : Hp) (y0 : Int) : Prop :=
  (y0 = 0 ∨ y0 = 1) ∧ P y0 h
def V_X6_isTree_40 (P : Int → Hp → Prop) (h : Hp) : Prop :=
  V_X6_isTree_45 P h 1
def V_X6_isTree (P : Int → Hp → Prop) (h0 : Hp) (a1 : Int) : Prop :=
  ((0 : Int) ≤ a1 ∧ (a1 : Int) < 100) ∧ (((0 : Int) ≤ (h0 31 a1) ∧ ((h0 31 a1) : Int) < 30) ∧ (((0 : Int) ≤ a1 ∧ (a1 : Int) < 100) ∧ (((h0 38 (h0 31 a1)) = (h0 32 a1) → V_X6_isTree_40 P h0) ∧ (¬ (h0 38 (h0 31 a1)) = (h0 32 a1) → ((0 : Int) ≤ a1 ∧ (a1 : Int) < 100) ∧ (((0 : Int) ≤ (h0 32 a1) ∧ ((h0 32 a1) : Int) < 30) ∧ (((0 : Int) ≤ a1 ∧ (a1 : Int) < 100) ∧ ((¬ (h0 38 (h0 32 a1)) = (h0 31 a1) → V_X6_isTree_45 P h0 0) ∧ ((h0 38 (h0 32 a1)) = (h0 31 a1) → V_X6_isTree_40 P h0))))))))
set_option maxHeartbeats 4000000 in
set_option maxRecDepth 100000 in
theorem w_X6_isTree {l : Launch} (P : Int → Hp → Prop) (h0 : Hp) (a1 : Int)
    (o : RH h0 → InR a1 → V_X6_isTree P h0 a1) :
    Ct l yX6_isTree cX6_isTree 2 (some .boolean) 0 0 0 [vr 30, vi a1] h0 [] P (fun _ => False) := by
  refine Ct.of (own := RX6) (by decide) rfl (Nat.le_of_ble_eq_true rfl) ?_
  intro X C hXl hXM hXh hXP hXX hXc hXr hav hR0
  have hmain : V_X6_isTree P h0 a1 := o hR0 (hav (vi a1) (by simp))
  have B_45 : ∀ (h : Hp) (y0 : Int), V_X6_isTree_45 P h y0 → Wh X 45 [(0, vr 30)] [vi y0] h 0 := by
    intro h y0 v
    unfold V_X6_isTree_45 at v
    exact r_zreturn C dX6_isTree_45 hXr (Nat.zero_le _) v.1 (by rw [hXP]; exact v.2)
  have B_40 : ∀ (h : Hp), V_X6_isTree_40 P h → Wh X 40 [(0, vr 30)] [] h 0 := by
    intro h v
    unfold V_X6_isTree_40 at v
    refine r_iconst C dX6_isTree_40 ⟨by decide, by decide⟩ ?_
    refine r_goto (tgt := 45) C dX6_isTree_41 (by decide) ?_
    exact s_sub [0] rfl (B_45 _ _ v)
  show Wh X 0 [(0, vr 30), (1, vi a1)] [] h0 0
  have v := hmain
  unfold V_X6_isTree at v
  refine r_aload_n 0 C dX6_isTree_0 rfl ?_
  refine gf_X6_32 C dX6_isTree_1 ?_
  refine r_aload_n 0 C dX6_isTree_4 rfl ?_
  refine gf_X6_7 C dX6_isTree_5 ?_
  refine r_iload_n 1 C dX6_isTree_8 rfl ?_
  obtain ⟨o1, v⟩ := v
  refine r_iaload (r := 31) (N := 100) C dX6_isTree_9 rfl o1 ?_
  obtain ⟨o2, v⟩ := v
  refine r_iaload (r := 38) (N := 30) C dX6_isTree_10 rfl o2 ?_
  refine r_aload_n 0 C dX6_isTree_11 rfl ?_
  refine gf_X6_13 C dX6_isTree_12 ?_
  refine r_iload_n 1 C dX6_isTree_15 rfl ?_
  obtain ⟨o3, v⟩ := v
  refine r_iaload (r := 32) (N := 100) C dX6_isTree_16 rfl o3 ?_
  refine r_icmp_eq (tgt := 40) C dX6_isTree_17 (by decide) (fun c4 => ?_) (fun c4 => ?_)
  · have v := v.1 c4
    exact s_sub [0] rfl (B_40 _ v)
  · have v := v.2 c4
    refine r_aload_n 0 C dX6_isTree_20 rfl ?_
    refine gf_X6_32 C dX6_isTree_21 ?_
    refine r_aload_n 0 C dX6_isTree_24 rfl ?_
    refine gf_X6_13 C dX6_isTree_25 ?_
    refine r_iload_n 1 C dX6_isTree_28 rfl ?_
    obtain ⟨o5, v⟩ := v
    refine r_iaload (r := 32) (N := 100) C dX6_isTree_29 rfl o5 ?_
    obtain ⟨o6, v⟩ := v
    refine r_iaload (r := 38) (N := 30) C dX6_isTree_30 rfl o6 ?_
    refine r_aload_n 0 C dX6_isTree_31 rfl ?_
    refine gf_X6_7 C dX6_isTree_32 ?_
    refine r_iload_n 1 C dX6_isTree_35 rfl ?_
    obtain ⟨o7, v⟩ := v
    refine r_iaload (r := 31) (N := 100) C dX6_isTree_36 rfl o7 ?_
    refine r_icmp_ne (tgt := 44) C dX6_isTree_37 (by decide) (fun c8 => ?_) (fun c8 => ?_)
    · have v := v.1 c8
      refine r_iconst C dX6_isTree_44 ⟨by decide, by decide⟩ ?_
      exact s_sub [0] rfl (B_45 _ _ v)
    · have v := v.2 c8
      exact s_sub [0] rfl (B_40 _ v)

def V_X6_depth_4 (P : Int → Hp → Prop) (I_4 : Nat → Hp → Int → Int → Prop) (n_4 : Nat) (h : Hp) (x2 : Int) (x3 : Int) : Prop :=
  ((0 : Int) ≤ x3 ∧ (x3 : Int) < 30) ∧ (((h 38 x3) = (-1) → P x2 h) ∧ (¬ (h 38 x3) = (-1) → InR (x2 + 1) ∧ (∀ z3 : Int, z3 = x2 + 1 → (((0 : Int) ≤ x3 ∧ (x3 : Int) < 30) ∧ (∀ z6 : Int, z6 = (h 38 x3) → (∃ n', n' < n_4 ∧ I_4 n' h z3 z6))))))
def V_X6_depth (P : Int → Hp → Prop) (I_4 : Nat → Hp → Int → Int → Prop) (h0 : Hp) (a1 : Int) : Prop :=
  ∀ z7 : Int, z7 = 0 → (∀ z8 : Int, z8 = a1 → (∃ n', I_4 n' h0 z7 z8))
set_option maxHeartbeats 4000000 in
set_option maxRecDepth 100000 in
theorem w_X6_depth {l : Launch} (P : Int → Hp → Prop) (I_4 : Nat → Hp → Int → Int → Prop) (h0 : Hp) (a1 : Int)
    (o_4 : ∀ (n_4 : Nat) (h : Hp) (x2 : Int) (x3 : Int), RH h → Fr [] h0 h → InR x2 → InR x3 → I_4 n_4 h x2 x3 → V_X6_depth_4 P I_4 n_4 h x2 x3)
    (o : RH h0 → InR a1 → V_X6_depth P I_4 h0 a1) :
    Ct l yX6_depth cX6_depth 4 (some .int) 0 0 0 [vr 30, vi a1] h0 [] P (fun _ => False) := by
  refine Ct.of (own := RX6) (by decide) rfl (Nat.le_of_ble_eq_true rfl) ?_
  intro X C hXl hXM hXh hXP hXX hXc hXr hav hR0
  have hmain : V_X6_depth P I_4 h0 a1 := o hR0 (hav (vi a1) (by simp))
  have B_4 : ∀ (n_4 : Nat) (h : Hp) (x2 : Int) (x3 : Int), I_4 n_4 h x2 x3 → Wh X 4 [(0, vr 30), (2, vi x2), (3, vi x3)] [] h 0 := by
    intro n_4
    induction n_4 using Nat.strongRecOn with
    | _ n_4 ih_4 =>
      intro h x2 x3 hI
      refine s_use fun hR hF hL => ?_
      have v := o_4 n_4 h x2 x3 hR (by rw [hXM, hXh] at hF; exact hF) (hL (2, vi x2) (by simp)) (hL (3, vi x3) (by simp)) hI
      unfold V_X6_depth_4 at v
      refine r_aload_n 0 C dX6_depth_4 rfl ?_
      refine gf_X6_32 C dX6_depth_5 ?_
      refine r_iload_n 2 C dX6_depth_8 rfl ?_
      obtain ⟨o1, v⟩ := v
      refine r_iaload (r := 38) (N := 30) C dX6_depth_9 rfl o1 ?_
      refine r_iconst C dX6_depth_10 ⟨by decide, by decide⟩ ?_
      refine r_icmp_eq (tgt := 27) C dX6_depth_11 (by decide) (fun c2 => ?_) (fun c2 => ?_)
      · have v := v.1 c2
        refine r_iload_n 1 C dX6_depth_27 rfl ?_
        exact r_ireturn C dX6_depth_28 hXr (Nat.zero_le _) (by rw [hXP]; exact v)
      · have v := v.2 c2
        obtain ⟨o4, v⟩ := v
        refine s_iinc 1 C dX6_depth_14 rfl (by decide) o4 (fun z3 ez3 => ?_)
        have v := v z3 ez3
        show Wh X 17 [(2, vi z3), (0, vr 30), (3, vi x3)] [] h 0
        refine r_aload_n 1 C dX6_depth_17 rfl ?_
        refine gf_X6_32 C dX6_depth_18 ?_
        refine r_iload_n 2 C dX6_depth_21 rfl ?_
        obtain ⟨o5, v⟩ := v
        refine r_iaload (r := 38) (N := 30) C dX6_depth_22 rfl o5 ?_
        refine s_istore_n C dX6_depth_23 (by decide) (fun z6 ez6 => ?_)
        have v := v z6 ez6
        show Wh X 24 [(3, vi z6), (2, vi z3), (0, vr 30)] [] h 0
        refine r_goto (tgt := 4) C dX6_depth_24 (by decide) ?_
        obtain ⟨n', hn', hI'⟩ := v
        exact s_sub [2, 1, 0] rfl (ih_4 n' hn' _ _ _ hI')
  show Wh X 0 [(0, vr 30), (1, vi a1)] [] h0 0
  have v := hmain
  unfold V_X6_depth at v
  refine r_iconst C dX6_depth_0 ⟨by decide, by decide⟩ ?_
  refine s_istore_n C dX6_depth_1 (by decide) (fun z7 ez7 => ?_)
  have v := v z7 ez7
  show Wh X 2 [(2, vi z7), (0, vr 30), (1, vi a1)] [] h0 0
  refine r_iload_n 2 C dX6_depth_2 rfl ?_
  refine s_istore_n C dX6_depth_3 (by decide) (fun z8 ez8 => ?_)
  have v := v z8 ez8
  show Wh X 4 [(3, vi z8), (2, vi z7), (0, vr 30), (1, vi a1)] [] h0 0
  obtain ⟨n', hI'⟩ := v
  exact s_sub [2, 1, 0] rfl (B_4 n' _ _ _ hI')

def V_X6_findCycle_161 (P : Int → Hp → Prop) (p_X6_depth : Int → Hp → Prop) (q_X6_depth : Int → Hp → Int → Prop) (p_X6_between : Int → Int → Hp → Prop) (q_X6_between : Int → Int → Hp → Int → Prop) (I_2 : Nat → Hp → Int → Int → Prop) (I_23 : Nat → Hp → Int → Int → Prop) (I_66 : Nat → Hp → Int → Int → Int → Prop) (n_66 : Nat) (h : Hp) (x2 : Int) (x4 : Int) (y0 : Int) : Prop :=
  ∀ z1 : Int, z1 = y0 → (InR (x4 + 1) ∧ (∀ z2 : Int, z2 = x4 + 1 → (∃ n', n' < n_66 ∧ I_66 n' h x2 z1 z2)))
def V_X6_findCycle_145 (P : Int → Hp → Prop) (p_X6_depth : Int → Hp → Prop) (q_X6_depth : Int → Hp → Int → Prop) (p_X6_between : Int → Int → Hp → Prop) (q_X6_between : Int → Int → Hp → Int → Prop) (I_2 : Nat → Hp → Int → Int → Prop) (I_23 : Nat → Hp → Int → Int → Prop) (I_66 : Nat → Hp → Int → Int → Int → Prop) (n_66 : Nat) (h : Hp) (x3 : Int) (x4 : Int) (x5 : Int) (y0 : Int) : Prop :=
  ∀ z4 : Int, z4 = y0 → ((x5 = 0 → ((0 : Int) ≤ x3 ∧ (x3 : Int) < 30) ∧ (V_X6_findCycle_161 P p_X6_depth q_X6_depth p_X6_between q_X6_between I_2 I_23 I_66 n_66 h z4 x4 (h 38 x3))) ∧ (¬ x5 = 0 → V_X6_findCycle_161 P p_X6_depth q_X6_depth p_X6_between q_X6_between I_2 I_23 I_66 n_66 h z4 x4 x3))
def V_X6_findCycle_101 (P : Int → Hp → Prop) (p_X6_depth : Int → Hp → Prop) (q_X6_depth : Int → Hp → Int → Prop) (p_X6_between : Int → Int → Hp → Prop) (q_X6_between : Int → Int → Hp → Int → Prop) (I_2 : Nat → Hp → Int → Int → Prop) (I_23 : Nat → Hp → Int → Int → Prop) (I_66 : Nat → Hp → Int → Int → Int → Prop) (n_66 : Nat) (h : Hp) (x2 : Int) (x3 : Int) (x4 : Int) (x5 : Int) (y0 : Int) : Prop :=
  ∀ z7 : Int, z7 = y0 → (((0 : Int) ≤ z7 ∧ (z7 : Int) < 30) ∧ (∀ h9 : Hp, h9 = hup h 44 z7 1 → (((0 : Int) ≤ z7 ∧ (z7 : Int) < 30) ∧ (p_X6_between z7 (h9 38 z7) h9 ∧ (∀ r12 : Int, InR r12 → q_X6_between z7 (h9 38 z7) h9 r12 → (((0 : Int) ≤ r12 ∧ (r12 : Int) < 100) ∧ (∀ h14 : Hp, h14 = hup h9 45 r12 1 → ((x5 = 0 → V_X6_findCycle_145 P p_X6_depth q_X6_depth p_X6_between q_X6_between I_2 I_23 I_66 n_66 h14 x3 x4 x5 x2) ∧ (¬ x5 = 0 → ((0 : Int) ≤ x2 ∧ (x2 : Int) < 30) ∧ (V_X6_findCycle_145 P p_X6_depth q_X6_depth p_X6_between q_X6_between I_2 I_23 I_66 n_66 h14 x3 x4 x5 (h14 38 x2)))))))))))
def V_X6_findCycle_89 (P : Int → Hp → Prop) (p_X6_depth : Int → Hp → Prop) (q_X6_depth : Int → Hp → Int → Prop) (p_X6_between : Int → Int → Hp → Prop) (q_X6_between : Int → Int → Hp → Int → Prop) (I_2 : Nat → Hp → Int → Int → Prop) (I_23 : Nat → Hp → Int → Int → Prop) (I_66 : Nat → Hp → Int → Int → Int → Prop) (n_66 : Nat) (h : Hp) (x2 : Int) (x3 : Int) (x4 : Int) (y0 : Int) : Prop :=
  ∀ z17 : Int, z17 = y0 → ((z17 = 0 → V_X6_findCycle_101 P p_X6_depth q_X6_depth p_X6_between q_X6_between I_2 I_23 I_66 n_66 h x2 x3 x4 z17 x3) ∧ (¬ z17 = 0 → V_X6_findCycle_101 P p_X6_depth q_X6_depth p_X6_between q_X6_between I_2 I_23 I_66 n_66 h x2 x3 x4 z17 x2))
def V_X6_findCycle_66 (P : Int → Hp → Prop) (p_X6_depth : Int → Hp → Prop) (q_X6_depth : Int → Hp → Int → Prop) (p_X6_between : Int → Int → Hp → Prop) (q_X6_between : Int → Int → Hp → Int → Prop) (I_2 : Nat → Hp → Int → Int → Prop) (I_23 : Nat → Hp → Int → Int → Prop) (I_66 : Nat → Hp → Int → Int → Int → Prop) (n_66 : Nat) (h : Hp) (x2 : Int) (x3 : Int) (x4 : Int) : Prop :=
  (x2 = x3 → ((0 : Int) ≤ x2 ∧ (x2 : Int) < 30) ∧ (∀ h21 : Hp, h21 = hup h 44 x2 1 → (P x4 h21))) ∧ (¬ x2 = x3 → p_X6_depth x2 h ∧ (∀ r23 : Int, InR r23 → q_X6_depth x2 h r23 → (p_X6_depth x3 h ∧ (∀ r25 : Int, InR r25 → q_X6_depth x3 h r25 → ((r23 < r25 → V_X6_findCycle_89 P p_X6_depth q_X6_depth p_X6_between q_X6_between I_2 I_23 I_66 n_66 h x2 x3 x4 0) ∧ (¬ r23 < r25 → V_X6_findCycle_89 P p_X6_depth q_X6_depth p_X6_between q_X6_between I_2 I_23 I_66 n_66 h x2 x3 x4 1))))))
def V_X6_findCycle_23 (P : Int → Hp → Prop) (p_X6_depth : Int → Hp → Prop) (q_X6_depth : Int → Hp → Int → Prop) (p_X6_between : Int → Int → Hp → Prop) (q_X6_between : Int → Int → Hp → Int → Prop) (I_2 : Nat → Hp → Int → Int → Prop) (I_23 : Nat → Hp → Int → Int → Prop) (I_66 : Nat → Hp → Int → Int → Int → Prop) (n_23 : Nat) (h : Hp) (x1 : Int) (x2 : Int) : Prop :=
  (100 ≤ x2 → ((0 : Int) ≤ x1 ∧ (x1 : Int) < 100) ∧ (∀ h29 : Hp, h29 = hup h 45 x1 1 → (((0 : Int) ≤ x1 ∧ (x1 : Int) < 100) ∧ (∀ z31 : Int, z31 = (h29 31 x1) → (((0 : Int) ≤ x1 ∧ (x1 : Int) < 100) ∧ (∀ z33 : Int, z33 = (h29 32 x1) → (∀ z34 : Int, z34 = 1 → (∃ n', I_66 n' h29 z31 z33 z34)))))))) ∧ (¬ 100 ≤ x2 → ((0 : Int) ≤ x2 ∧ (x2 : Int) < 100) ∧ (∀ h36 : Hp, h36 = hup h 45 x2 0 → (InR (x2 + 1) ∧ (∀ z37 : Int, z37 = x2 + 1 → (∃ n', n' < n_23 ∧ I_23 n' h36 x1 z37)))))
def V_X6_findCycle_2 (P : Int → Hp → Prop) (p_X6_depth : Int → Hp → Prop) (q_X6_depth : Int → Hp → Int → Prop) (p_X6_between : Int → Int → Hp → Prop) (q_X6_between : Int → Int → Hp → Int → Prop) (I_2 : Nat → Hp → Int → Int → Prop) (I_23 : Nat → Hp → Int → Int → Prop) (I_66 : Nat → Hp → Int → Int → Int → Prop) (n_2 : Nat) (h : Hp) (x1 : Int) (x2 : Int) : Prop :=
  (30 ≤ x2 → ∀ z40 : Int, z40 = 0 → (∃ n', I_23 n' h x1 z40)) ∧ (¬ 30 ≤ x2 → ((0 : Int) ≤ x2 ∧ (x2 : Int) < 30) ∧ (∀ h42 : Hp, h42 = hup h 44 x2 0 → (InR (x2 + 1) ∧ (∀ z43 : Int, z43 = x2 + 1 → (∃ n', n' < n_2 ∧ I_2 n' h42 x1 z43)))))
def V_X6_findCycle (P : Int → Hp → Prop) (p_X6_depth : Int → Hp → Prop) (q_X6_depth : Int → Hp → Int → Prop) (p_X6_between : Int → Int → Hp → Prop) (q_X6_between : Int → Int → Hp → Int → Prop) (I_2 : Nat → Hp → Int → Int → Prop) (I_23 : Nat → Hp → Int → Int → Prop) (I_66 : Nat → Hp → Int → Int → Int → Prop) (h0 : Hp) (a1 : Int) : Prop :=
  ∀ z45 : Int, z45 = 0 → (∃ n', I_2 n' h0 a1 z45)
set_option maxHeartbeats 4000000 in
set_option maxRecDepth 100000 in
theorem w_X6_findCycle {l : Launch} (P : Int → Hp → Prop) (p_X6_depth : Int → Hp → Prop) (q_X6_depth : Int → Hp → Int → Prop) (p_X6_between : Int → Int → Hp → Prop) (q_X6_between : Int → Int → Hp → Int → Prop) (I_2 : Nat → Hp → Int → Int → Prop) (I_23 : Nat → Hp → Int → Int → Prop) (I_66 : Nat → Hp → Int → Int → Int → Prop) (h0 : Hp) (a1 : Int)
    (c_X6_depth : ∀ (b1 : Int) (h : Hp), p_X6_depth b1 h → Ct l yX6_depth cX6_depth 4 (some .int) 0 0 0 [vr 30, vi b1] h [] (fun r _ => q_X6_depth b1 h r) (fun _ => False))
    (c_X6_between : ∀ (b1 : Int) (b2 : Int) (h : Hp), p_X6_between b1 b2 h → Ct l yX6_between cX6_between 4 (some .int) 1 22 0 [vr 30, vi b1, vi b2] h [] (fun r _ => q_X6_between b1 b2 h r) (fun _ => False))
    (o_2 : ∀ (n_2 : Nat) (h : Hp) (x1 : Int) (x2 : Int), RH h → Fr [44, 45] h0 h → InR x1 → InR x2 → I_2 n_2 h x1 x2 → V_X6_findCycle_2 P p_X6_depth q_X6_depth p_X6_between q_X6_between I_2 I_23 I_66 n_2 h x1 x2)
    (o_23 : ∀ (n_23 : Nat) (h : Hp) (x1 : Int) (x2 : Int), RH h → Fr [44, 45] h0 h → InR x1 → InR x2 → I_23 n_23 h x1 x2 → V_X6_findCycle_23 P p_X6_depth q_X6_depth p_X6_between q_X6_between I_2 I_23 I_66 n_23 h x1 x2)
    (o_66 : ∀ (n_66 : Nat) (h : Hp) (x2 : Int) (x3 : Int) (x4 : Int), RH h → Fr [44, 45] h0 h → InR x2 → InR x3 → InR x4 → I_66 n_66 h x2 x3 x4 → V_X6_findCycle_66 P p_X6_depth q_X6_depth p_X6_between q_X6_between I_2 I_23 I_66 n_66 h x2 x3 x4)
    (o : RH h0 → InR a1 → V_X6_findCycle P p_X6_depth q_X6_depth p_X6_between q_X6_between I_2 I_23 I_66 h0 a1) :
    Ct l yX6_findCycle cX6_findCycle 7 (some .int) 2 45 0 [vr 30, vi a1] h0 [44, 45] P (fun _ => False) := by
  refine Ct.of (own := RX6) (by decide) rfl (Nat.le_of_ble_eq_true rfl) ?_
  intro X C hXl hXM hXh hXP hXX hXc hXr hav hR0
  have hmain : V_X6_findCycle P p_X6_depth q_X6_depth p_X6_between q_X6_between I_2 I_23 I_66 h0 a1 := o hR0 (hav (vi a1) (by simp))
  have B_66 : ∀ (n_66 : Nat) (h : Hp) (x2 : Int) (x3 : Int) (x4 : Int), I_66 n_66 h x2 x3 x4 → Wh X 66 [(0, vr 30), (2, vi x2), (3, vi x3), (4, vi x4)] [] h 0 := by
    intro n_66
    induction n_66 using Nat.strongRecOn with
    | _ n_66 ih_66 =>
      intro h x2 x3 x4 hI
      refine s_use fun hR hF hL => ?_
      have v := o_66 n_66 h x2 x3 x4 hR (by rw [hXM, hXh] at hF; exact hF) (hL (2, vi x2) (by simp)) (hL (3, vi x3) (by simp)) (hL (4, vi x4) (by simp)) hI
      unfold V_X6_findCycle_66 at v
      have B_161 : ∀ (h : Hp) (x2 : Int) (x4 : Int) (y0 : Int), V_X6_findCycle_161 P p_X6_depth q_X6_depth p_X6_between q_X6_between I_2 I_23 I_66 n_66 h x2 x4 y0 → Wh X 161 [(0, vr 30), (2, vi x2), (4, vi x4)] [vi y0] h 0 := by
        intro h x2 x4 y0 v
        unfold V_X6_findCycle_161 at v
        refine s_istore_n C dX6_findCycle_161 (by decide) (fun z1 ez1 => ?_)
        have v := v z1 ez1
        show Wh X 162 [(3, vi z1), (0, vr 30), (2, vi x2), (4, vi x4)] [] h 0
        obtain ⟨o3, v⟩ := v
        refine s_iinc 3 C dX6_findCycle_162 rfl (by decide) o3 (fun z2 ez2 => ?_)
        have v := v z2 ez2
        show Wh X 165 [(4, vi z2), (3, vi z1), (0, vr 30), (2, vi x2)] [] h 0
        refine r_goto (tgt := 66) C dX6_findCycle_165 (by decide) ?_
        obtain ⟨n', hn', hI'⟩ := v
        exact s_sub [2, 3, 1, 0] rfl (ih_66 n' hn' _ _ _ _ hI')
      have B_145 : ∀ (h : Hp) (x3 : Int) (x4 : Int) (x5 : Int) (y0 : Int), V_X6_findCycle_145 P p_X6_depth q_X6_depth p_X6_between q_X6_between I_2 I_23 I_66 n_66 h x3 x4 x5 y0 → Wh X 145 [(0, vr 30), (3, vi x3), (4, vi x4), (5, vi x5)] [vi y0] h 0 := by
        intro h x3 x4 x5 y0 v
        unfold V_X6_findCycle_145 at v
        refine s_istore_n C dX6_findCycle_145 (by decide) (fun z4 ez4 => ?_)
        have v := v z4 ez4
        show Wh X 146 [(2, vi z4), (0, vr 30), (3, vi x3), (4, vi x4), (5, vi x5)] [] h 0
        refine r_iload 4 C dX6_findCycle_146 rfl ?_
        refine r_if_eq (tgt := 155) C dX6_findCycle_148 (by decide) (fun c5 => ?_) (fun c5 => ?_)
        · have v := v.1 c5
          refine r_aload_n 1 C dX6_findCycle_155 rfl ?_
          refine gf_X6_32 C dX6_findCycle_156 ?_
          refine r_iload_n 2 C dX6_findCycle_159 rfl ?_
          obtain ⟨o6, v⟩ := v
          refine r_iaload (r := 38) (N := 30) C dX6_findCycle_160 rfl o6 ?_
          exact s_sub [1, 0, 3] rfl (B_161 _ _ _ _ v)
        · have v := v.2 c5
          refine r_iload_n 2 C dX6_findCycle_151 rfl ?_
          refine r_goto (tgt := 161) C dX6_findCycle_152 (by decide) ?_
          exact s_sub [1, 0, 3] rfl (B_161 _ _ _ _ v)
      have B_101 : ∀ (h : Hp) (x2 : Int) (x3 : Int) (x4 : Int) (x5 : Int) (y0 : Int), V_X6_findCycle_101 P p_X6_depth q_X6_depth p_X6_between q_X6_between I_2 I_23 I_66 n_66 h x2 x3 x4 x5 y0 → Wh X 101 [(0, vr 30), (2, vi x2), (3, vi x3), (4, vi x4), (5, vi x5)] [vi y0] h 0 := by
        intro h x2 x3 x4 x5 y0 v
        unfold V_X6_findCycle_101 at v
        refine s_istore C dX6_findCycle_101 (by decide) (fun z7 ez7 => ?_)
        have v := v z7 ez7
        show Wh X 103 [(6, vi z7), (0, vr 30), (2, vi x2), (3, vi x3), (4, vi x4), (5, vi x5)] [] h 0
        refine r_aload_n 1 C dX6_findCycle_103 rfl ?_
        refine gf_X6_50 C dX6_findCycle_104 ?_
        refine r_iload 0 C dX6_findCycle_107 rfl ?_
        refine r_iconst C dX6_findCycle_109 ⟨by decide, by decide⟩ ?_
        obtain ⟨o8, v⟩ := v
        refine s_bastore (r := 44) (N := 30) C dX6_findCycle_110 rfl hXM (by decide) o8 (by decide) (fun h9 eh9 => ?_)
        have v := v h9 eh9
        refine r_aload_n 1 C dX6_findCycle_111 rfl ?_
        refine gf_X6_53 C dX6_findCycle_112 ?_
        refine r_aload_n 1 C dX6_findCycle_115 rfl ?_
        refine r_iload 0 C dX6_findCycle_116 rfl ?_
        refine r_aload_n 1 C dX6_findCycle_118 rfl ?_
        refine gf_X6_32 C dX6_findCycle_119 ?_
        refine r_iload 0 C dX6_findCycle_122 rfl ?_
        obtain ⟨o10, v⟩ := v
        refine r_iaload (r := 38) (N := 30) C dX6_findCycle_124 rfl o10 ?_
        obtain ⟨o11, v⟩ := v
        refine s_calli0 [z7, (h9 38 z7)] [vr 45] C dX6_findCycle_125 ck_X6_86 (r := 30) (fY := 1) (nY := 22) rfl rfl (by decide) (by decide) (Nat.le_of_ble_eq_true rfl) rfl (by rw [hXl]; exact c_X6_between z7 (h9 38 z7) h9 o11) (fun r12 gr12 qr12 => ?_)
        have v := v r12 gr12 qr12
        refine r_iconst C dX6_findCycle_128 ⟨by decide, by decide⟩ ?_
        obtain ⟨o13, v⟩ := v
        refine s_bastore (r := 45) (N := 100) C dX6_findCycle_129 rfl hXM (by decide) o13 (by decide) (fun h14 eh14 => ?_)
        have v := v h14 eh14
        refine r_iload 5 C dX6_findCycle_130 rfl ?_
        refine r_if_eq (tgt := 144) C dX6_findCycle_132 (by decide) (fun c15 => ?_) (fun c15 => ?_)
        · have v := v.1 c15
          refine r_iload_n 2 C dX6_findCycle_144 rfl ?_
          exact s_sub [1, 3, 4, 5] rfl (B_145 _ _ _ _ _ v)
        · have v := v.2 c15
          refine r_aload_n 1 C dX6_findCycle_135 rfl ?_
          refine gf_X6_32 C dX6_findCycle_136 ?_
          refine r_iload_n 2 C dX6_findCycle_139 rfl ?_
          obtain ⟨o16, v⟩ := v
          refine r_iaload (r := 38) (N := 30) C dX6_findCycle_140 rfl o16 ?_
          refine r_goto (tgt := 145) C dX6_findCycle_141 (by decide) ?_
          exact s_sub [1, 3, 4, 5] rfl (B_145 _ _ _ _ _ v)
      have B_89 : ∀ (h : Hp) (x2 : Int) (x3 : Int) (x4 : Int) (y0 : Int), V_X6_findCycle_89 P p_X6_depth q_X6_depth p_X6_between q_X6_between I_2 I_23 I_66 n_66 h x2 x3 x4 y0 → Wh X 89 [(0, vr 30), (2, vi x2), (3, vi x3), (4, vi x4)] [vi y0] h 0 := by
        intro h x2 x3 x4 y0 v
        unfold V_X6_findCycle_89 at v
        refine s_istore C dX6_findCycle_89 (by decide) (fun z17 ez17 => ?_)
        have v := v z17 ez17
        show Wh X 91 [(5, vi z17), (0, vr 30), (2, vi x2), (3, vi x3), (4, vi x4)] [] h 0
        refine r_iload 0 C dX6_findCycle_91 rfl ?_
        refine r_if_eq (tgt := 100) C dX6_findCycle_93 (by decide) (fun c18 => ?_) (fun c18 => ?_)
        · have v := v.1 c18
          refine r_iload_n 3 C dX6_findCycle_100 rfl ?_
          exact s_sub [1, 2, 3, 4, 0] rfl (B_101 _ _ _ _ _ _ v)
        · have v := v.2 c18
          refine r_iload_n 2 C dX6_findCycle_96 rfl ?_
          refine r_goto (tgt := 101) C dX6_findCycle_97 (by decide) ?_
          exact s_sub [1, 2, 3, 4, 0] rfl (B_101 _ _ _ _ _ _ v)
      refine r_iload_n 1 C dX6_findCycle_66 rfl ?_
      refine r_iload_n 2 C dX6_findCycle_67 rfl ?_
      refine r_icmp_eq (tgt := 168) C dX6_findCycle_68 (by decide) (fun c19 => ?_) (fun c19 => ?_)
      · have v := v.1 c19
        refine r_aload_n 0 C dX6_findCycle_168 rfl ?_
        refine gf_X6_50 C dX6_findCycle_169 ?_
        refine r_iload_n 1 C dX6_findCycle_172 rfl ?_
        refine r_iconst C dX6_findCycle_173 ⟨by decide, by decide⟩ ?_
        obtain ⟨o20, v⟩ := v
        refine s_bastore (r := 44) (N := 30) C dX6_findCycle_174 rfl hXM (by decide) o20 (by decide) (fun h21 eh21 => ?_)
        have v := v h21 eh21
        refine r_iload 3 C dX6_findCycle_175 rfl ?_
        exact r_ireturn C dX6_findCycle_177 hXr (Nat.zero_le _) (by rw [hXP]; exact v)
      · have v := v.2 c19
        refine r_aload_n 0 C dX6_findCycle_71 rfl ?_
        refine r_iload_n 1 C dX6_findCycle_72 rfl ?_
        obtain ⟨o22, v⟩ := v
        refine s_calli0 [x2] [] C dX6_findCycle_73 ck_X6_164 (r := 30) (fY := 0) (nY := 0) rfl rfl (by decide) (by decide) (Nat.le_of_ble_eq_true rfl) rfl (by rw [hXl]; exact c_X6_depth x2 h o22) (fun r23 gr23 qr23 => ?_)
        have v := v r23 gr23 qr23
        refine r_aload_n 0 C dX6_findCycle_76 rfl ?_
        refine r_iload_n 2 C dX6_findCycle_77 rfl ?_
        obtain ⟨o24, v⟩ := v
        refine s_calli0 [x3] [vi r23] C dX6_findCycle_78 ck_X6_164 (r := 30) (fY := 0) (nY := 0) rfl rfl (by decide) (by decide) (Nat.le_of_ble_eq_true rfl) rfl (by rw [hXl]; exact c_X6_depth x3 h o24) (fun r25 gr25 qr25 => ?_)
        have v := v r25 gr25 qr25
        refine r_icmp_lt (tgt := 88) C dX6_findCycle_81 (by decide) (fun c26 => ?_) (fun c26 => ?_)
        · have v := v.1 c26
          refine r_iconst C dX6_findCycle_88 ⟨by decide, by decide⟩ ?_
          exact s_sub [0, 1, 2, 3] rfl (B_89 _ _ _ _ _ v)
        · have v := v.2 c26
          refine r_iconst C dX6_findCycle_84 ⟨by decide, by decide⟩ ?_
          refine r_goto (tgt := 89) C dX6_findCycle_85 (by decide) ?_
          exact s_sub [0, 1, 2, 3] rfl (B_89 _ _ _ _ _ v)
  have B_23 : ∀ (n_23 : Nat) (h : Hp) (x1 : Int) (x2 : Int), I_23 n_23 h x1 x2 → Wh X 23 [(0, vr 30), (1, vi x1), (2, vi x2)] [] h 0 := by
    intro n_23
    induction n_23 using Nat.strongRecOn with
    | _ n_23 ih_23 =>
      intro h x1 x2 hI
      refine s_use fun hR hF hL => ?_
      have v := o_23 n_23 h x1 x2 hR (by rw [hXM, hXh] at hF; exact hF) (hL (1, vi x1) (by simp)) (hL (2, vi x2) (by simp)) hI
      unfold V_X6_findCycle_23 at v
      refine r_iload_n 2 C dX6_findCycle_23 rfl ?_
      refine r_bipush C dX6_findCycle_24 ⟨by decide, by decide⟩ (by decide) ?_
      refine r_icmp_ge (tgt := 42) C dX6_findCycle_26 (by decide) (fun c27 => ?_) (fun c27 => ?_)
      · have v := v.1 c27
        refine r_aload_n 0 C dX6_findCycle_42 rfl ?_
        refine gf_X6_53 C dX6_findCycle_43 ?_
        refine r_iload_n 1 C dX6_findCycle_46 rfl ?_
        refine r_iconst C dX6_findCycle_47 ⟨by decide, by decide⟩ ?_
        obtain ⟨o28, v⟩ := v
        refine s_bastore (r := 45) (N := 100) C dX6_findCycle_48 rfl hXM (by decide) o28 (by decide) (fun h29 eh29 => ?_)
        have v := v h29 eh29
        refine r_aload_n 0 C dX6_findCycle_49 rfl ?_
        refine gf_X6_7 C dX6_findCycle_50 ?_
        refine r_iload_n 1 C dX6_findCycle_53 rfl ?_
        obtain ⟨o30, v⟩ := v
        refine r_iaload (r := 31) (N := 100) C dX6_findCycle_54 rfl o30 ?_
        refine s_istore_n C dX6_findCycle_55 (by decide) (fun z31 ez31 => ?_)
        have v := v z31 ez31
        show Wh X 56 [(2, vi z31), (0, vr 30), (1, vi x1)] [] h29 0
        refine r_aload_n 1 C dX6_findCycle_56 rfl ?_
        refine gf_X6_13 C dX6_findCycle_57 ?_
        refine r_iload_n 2 C dX6_findCycle_60 rfl ?_
        obtain ⟨o32, v⟩ := v
        refine r_iaload (r := 32) (N := 100) C dX6_findCycle_61 rfl o32 ?_
        refine s_istore_n C dX6_findCycle_62 (by decide) (fun z33 ez33 => ?_)
        have v := v z33 ez33
        show Wh X 63 [(3, vi z33), (2, vi z31), (0, vr 30), (1, vi x1)] [] h29 0
        refine r_iconst C dX6_findCycle_63 ⟨by decide, by decide⟩ ?_
        refine s_istore C dX6_findCycle_64 (by decide) (fun z34 ez34 => ?_)
        have v := v z34 ez34
        show Wh X 66 [(4, vi z34), (3, vi z33), (2, vi z31), (0, vr 30), (1, vi x1)] [] h29 0
        obtain ⟨n', hI'⟩ := v
        exact s_sub [3, 2, 1, 0] rfl (B_66 n' _ _ _ _ hI')
      · have v := v.2 c27
        refine r_aload_n 0 C dX6_findCycle_29 rfl ?_
        refine gf_X6_53 C dX6_findCycle_30 ?_
        refine r_iload_n 2 C dX6_findCycle_33 rfl ?_
        refine r_iconst C dX6_findCycle_34 ⟨by decide, by decide⟩ ?_
        obtain ⟨o35, v⟩ := v
        refine s_bastore (r := 45) (N := 100) C dX6_findCycle_35 rfl hXM (by decide) o35 (by decide) (fun h36 eh36 => ?_)
        have v := v h36 eh36
        obtain ⟨o38, v⟩ := v
        refine s_iinc 2 C dX6_findCycle_36 rfl (by decide) o38 (fun z37 ez37 => ?_)
        have v := v z37 ez37
        show Wh X 39 [(2, vi z37), (0, vr 30), (1, vi x1)] [] h36 0
        refine r_goto (tgt := 23) C dX6_findCycle_39 (by decide) ?_
        obtain ⟨n', hn', hI'⟩ := v
        exact s_sub [1, 2, 0] rfl (ih_23 n' hn' _ _ _ hI')
  have B_2 : ∀ (n_2 : Nat) (h : Hp) (x1 : Int) (x2 : Int), I_2 n_2 h x1 x2 → Wh X 2 [(0, vr 30), (1, vi x1), (2, vi x2)] [] h 0 := by
    intro n_2
    induction n_2 using Nat.strongRecOn with
    | _ n_2 ih_2 =>
      intro h x1 x2 hI
      refine s_use fun hR hF hL => ?_
      have v := o_2 n_2 h x1 x2 hR (by rw [hXM, hXh] at hF; exact hF) (hL (1, vi x1) (by simp)) (hL (2, vi x2) (by simp)) hI
      unfold V_X6_findCycle_2 at v
      refine r_iload_n 2 C dX6_findCycle_2 rfl ?_
      refine r_bipush C dX6_findCycle_3 ⟨by decide, by decide⟩ (by decide) ?_
      refine r_icmp_ge (tgt := 21) C dX6_findCycle_5 (by decide) (fun c39 => ?_) (fun c39 => ?_)
      · have v := v.1 c39
        refine r_iconst C dX6_findCycle_21 ⟨by decide, by decide⟩ ?_
        refine s_istore_n C dX6_findCycle_22 (by decide) (fun z40 ez40 => ?_)
        have v := v z40 ez40
        show Wh X 23 [(2, vi z40), (0, vr 30), (1, vi x1)] [] h 0
        obtain ⟨n', hI'⟩ := v
        exact s_sub [1, 2, 0] rfl (B_23 n' _ _ _ hI')
      · have v := v.2 c39
        refine r_aload_n 0 C dX6_findCycle_8 rfl ?_
        refine gf_X6_50 C dX6_findCycle_9 ?_
        refine r_iload_n 2 C dX6_findCycle_12 rfl ?_
        refine r_iconst C dX6_findCycle_13 ⟨by decide, by decide⟩ ?_
        obtain ⟨o41, v⟩ := v
        refine s_bastore (r := 44) (N := 30) C dX6_findCycle_14 rfl hXM (by decide) o41 (by decide) (fun h42 eh42 => ?_)
        have v := v h42 eh42
        obtain ⟨o44, v⟩ := v
        refine s_iinc 2 C dX6_findCycle_15 rfl (by decide) o44 (fun z43 ez43 => ?_)
        have v := v z43 ez43
        show Wh X 18 [(2, vi z43), (0, vr 30), (1, vi x1)] [] h42 0
        refine r_goto (tgt := 2) C dX6_findCycle_18 (by decide) ?_
        obtain ⟨n', hn', hI'⟩ := v
        exact s_sub [1, 2, 0] rfl (ih_2 n' hn' _ _ _ hI')
  show Wh X 0 [(0, vr 30), (1, vi a1)] [] h0 0
  have v := hmain
  unfold V_X6_findCycle at v
  refine r_iconst C dX6_findCycle_0 ⟨by decide, by decide⟩ ?_
  refine s_istore_n C dX6_findCycle_1 (by decide) (fun z45 ez45 => ?_)
  have v := v z45 ez45
  show Wh X 2 [(2, vi z45), (0, vr 30), (1, vi a1)] [] h0 0
  obtain ⟨n', hI'⟩ := v
  exact s_sub [1, 2, 0] rfl (B_2 n' _ _ _ hI')

def V_X6_cycle_47 (P : Int → Hp → Prop) (p_X6_isEdge : Int → Hp → Prop) (q_X6_isEdge : Int → Hp → Int → Prop) (p_X6_findTree : Hp → Prop) (q_X6_findTree : Hp → Hp → Prop) (p_X6_isTree : Int → Hp → Prop) (q_X6_isTree : Int → Hp → Int → Prop) (p_X6_findCycle : Int → Hp → Prop) (q_X6_findCycle : Int → Hp → Int → Hp → Prop) (h : Hp) (y0 : Int) : Prop :=
  P y0 h
def V_X6_cycle_14 (P : Int → Hp → Prop) (p_X6_isEdge : Int → Hp → Prop) (q_X6_isEdge : Int → Hp → Int → Prop) (p_X6_findTree : Hp → Prop) (q_X6_findTree : Hp → Hp → Prop) (p_X6_isTree : Int → Hp → Prop) (q_X6_isTree : Int → Hp → Int → Prop) (p_X6_findCycle : Int → Hp → Prop) (q_X6_findCycle : Int → Hp → Int → Hp → Prop) (h : Hp) (x1 : Int) (y1 : Int) : Prop :=
  ∀ h1 : Hp, h1 = hup h 30 0 y1 → (((h1 30 0) ≤ 0 → p_X6_findTree h1 ∧ (∀ h4 : Hp, Fr [30, 38, 39, 40] h1 h4 → RH h4 → q_X6_findTree h1 h4 → (p_X6_isTree x1 h4 ∧ (∀ r6 : Int, InR r6 → q_X6_isTree x1 h4 r6 → ((r6 = 0 → p_X6_findCycle x1 h4 ∧ (∀ (r9 : Int) (h10 : Hp), Fr [44, 45] h4 h10 → RH h10 → InR r9 → q_X6_findCycle x1 h4 r9 h10 → (V_X6_cycle_47 P p_X6_isEdge q_X6_isEdge p_X6_findTree q_X6_findTree p_X6_isTree q_X6_isTree p_X6_findCycle q_X6_findCycle h10 r9))) ∧ (¬ r6 = 0 → V_X6_cycle_47 P p_X6_isEdge q_X6_isEdge p_X6_findTree q_X6_findTree p_X6_isTree q_X6_isTree p_X6_findCycle q_X6_findCycle h4 0)))))) ∧ (¬ (h1 30 0) ≤ 0 → P 0 h1))
def V_X6_cycle (P : Int → Hp → Prop) (p_X6_isEdge : Int → Hp → Prop) (q_X6_isEdge : Int → Hp → Int → Prop) (p_X6_findTree : Hp → Prop) (q_X6_findTree : Hp → Hp → Prop) (p_X6_isTree : Int → Hp → Prop) (q_X6_isTree : Int → Hp → Int → Prop) (p_X6_findCycle : Int → Hp → Prop) (q_X6_findCycle : Int → Hp → Int → Hp → Prop) (h0 : Hp) (a1 : Int) : Prop :=
  p_X6_isEdge a1 h0 ∧ (∀ r12 : Int, InR r12 → q_X6_isEdge a1 h0 r12 → ((r12 = 0 → V_X6_cycle_14 P p_X6_isEdge q_X6_isEdge p_X6_findTree q_X6_findTree p_X6_isTree q_X6_isTree p_X6_findCycle q_X6_findCycle h0 a1 1) ∧ (¬ r12 = 0 → V_X6_cycle_14 P p_X6_isEdge q_X6_isEdge p_X6_findTree q_X6_findTree p_X6_isTree q_X6_isTree p_X6_findCycle q_X6_findCycle h0 a1 0)))
set_option maxHeartbeats 4000000 in
set_option maxRecDepth 100000 in
theorem w_X6_cycle {l : Launch} (P : Int → Hp → Prop) (p_X6_isEdge : Int → Hp → Prop) (q_X6_isEdge : Int → Hp → Int → Prop) (p_X6_findTree : Hp → Prop) (q_X6_findTree : Hp → Hp → Prop) (p_X6_isTree : Int → Hp → Prop) (q_X6_isTree : Int → Hp → Int → Prop) (p_X6_findCycle : Int → Hp → Prop) (q_X6_findCycle : Int → Hp → Int → Hp → Prop) (h0 : Hp) (a1 : Int)
    (c_X6_isEdge : ∀ (b1 : Int) (h : Hp), p_X6_isEdge b1 h → Ct l yX6_isEdge cX6_isEdge 2 (some .boolean) 0 0 0 [vr 30, vi b1] h [] (fun r _ => q_X6_isEdge b1 h r) (fun _ => False))
    (c_X6_findTree : ∀ (h : Hp), p_X6_findTree h → Ct l yX6_findTree cX6_findTree 2 none 2 48 0 [vr 30] h [30, 38, 39, 40] (fun _ h1 => q_X6_findTree h h1) (fun _ => False))
    (c_X6_isTree : ∀ (b1 : Int) (h : Hp), p_X6_isTree b1 h → Ct l yX6_isTree cX6_isTree 2 (some .boolean) 0 0 0 [vr 30, vi b1] h [] (fun r _ => q_X6_isTree b1 h r) (fun _ => False))
    (c_X6_findCycle : ∀ (b1 : Int) (h : Hp), p_X6_findCycle b1 h → Ct l yX6_findCycle cX6_findCycle 7 (some .int) 2 45 0 [vr 30, vi b1] h [44, 45] (fun r h1 => q_X6_findCycle b1 h r h1) (fun _ => False))
    (o : RH h0 → InR a1 → V_X6_cycle P p_X6_isEdge q_X6_isEdge p_X6_findTree q_X6_findTree p_X6_isTree q_X6_isTree p_X6_findCycle q_X6_findCycle h0 a1) :
    Ct l yX6_cycle cX6_cycle 2 (some .int) 3 71 0 [vr 30, vi a1] h0 [30, 38, 39, 40, 44, 45] P (fun _ => False) := by
  refine Ct.of (own := RX6) (by decide) rfl (Nat.le_of_ble_eq_true rfl) ?_
  intro X C hXl hXM hXh hXP hXX hXc hXr hav hR0
  have hmain : V_X6_cycle P p_X6_isEdge q_X6_isEdge p_X6_findTree q_X6_findTree p_X6_isTree q_X6_isTree p_X6_findCycle q_X6_findCycle h0 a1 := o hR0 (hav (vi a1) (by simp))
  have B_47 : ∀ (h : Hp) (y0 : Int), V_X6_cycle_47 P p_X6_isEdge q_X6_isEdge p_X6_findTree q_X6_findTree p_X6_isTree q_X6_isTree p_X6_findCycle q_X6_findCycle h y0 → Wh X 47 [(0, vr 30)] [vi y0] h 0 := by
    intro h y0 v
    unfold V_X6_cycle_47 at v
    exact r_ireturn C dX6_cycle_47 hXr (Nat.zero_le _) (by rw [hXP]; exact v)
  have B_14 : ∀ (h : Hp) (x1 : Int) (y1 : Int), V_X6_cycle_14 P p_X6_isEdge q_X6_isEdge p_X6_findTree q_X6_findTree p_X6_isTree q_X6_isTree p_X6_findCycle q_X6_findCycle h x1 y1 → Wh X 14 [(0, vr 30), (1, vi x1)] [vi y1, vr 30] h 0 := by
    intro h x1 y1 v
    unfold V_X6_cycle_14 at v
    refine pf_X6_59 C dX6_cycle_14 hXM (by decide) (fun h1 eh1 => ?_)
    have v := v h1 eh1
    refine r_aload_n 0 C dX6_cycle_17 rfl ?_
    refine gf_X6_59 C dX6_cycle_18 ?_
    refine r_if_le (tgt := 26) C dX6_cycle_21 (by decide) (fun c2 => ?_) (fun c2 => ?_)
    · have v := v.1 c2
      refine r_aload_n 0 C dX6_cycle_26 rfl ?_
      obtain ⟨o3, v⟩ := v
      refine s_callv [] [] C dX6_cycle_27 ck_X6_133 (r := 30) (fY := 2) (nY := 48) rfl rfl (by decide) (by decide) (Nat.le_of_ble_eq_true rfl) rfl (MY := [30, 38, 39, 40]) hXM (by decide) (by rw [hXl]; exact c_X6_findTree h1 o3) (fun h4 fh4 kh4 qh4 => ?_)
      have v := v h4 fh4 kh4 qh4
      refine r_aload_n 0 C dX6_cycle_30 rfl ?_
      refine r_iload_n 1 C dX6_cycle_31 rfl ?_
      obtain ⟨o5, v⟩ := v
      refine s_calli0 [x1] [] C dX6_cycle_32 ck_X6_167 (r := 30) (fY := 0) (nY := 0) rfl rfl (by decide) (by decide) (Nat.le_of_ble_eq_true rfl) rfl (by rw [hXl]; exact c_X6_isTree x1 h4 o5) (fun r6 gr6 qr6 => ?_)
      have v := v r6 gr6 qr6
      refine r_if_eq (tgt := 42) C dX6_cycle_35 (by decide) (fun c7 => ?_) (fun c7 => ?_)
      · have v := v.1 c7
        refine r_aload_n 0 C dX6_cycle_42 rfl ?_
        refine r_iload_n 1 C dX6_cycle_43 rfl ?_
        obtain ⟨o8, v⟩ := v
        refine s_calli [x1] [] C dX6_cycle_44 ck_X6_170 (r := 30) (fY := 2) (nY := 45) rfl rfl (by decide) (by decide) (Nat.le_of_ble_eq_true rfl) rfl (MY := [44, 45]) hXM (by decide) (by rw [hXl]; exact c_X6_findCycle x1 h4 o8) (fun r9 h10 fr9 kr9 gr9 qr9 => ?_)
        have v := v r9 h10 fr9 kr9 gr9 qr9
        exact s_sub [0] rfl (B_47 _ _ v)
      · have v := v.2 c7
        refine r_iconst C dX6_cycle_38 ⟨by decide, by decide⟩ ?_
        refine r_goto (tgt := 47) C dX6_cycle_39 (by decide) ?_
        exact s_sub [0] rfl (B_47 _ _ v)
    · have v := v.2 c2
      refine r_iconst C dX6_cycle_24 ⟨by decide, by decide⟩ ?_
      exact r_ireturn C dX6_cycle_25 hXr (Nat.zero_le _) (by rw [hXP]; exact v)
  show Wh X 0 [(0, vr 30), (1, vi a1)] [] h0 0
  have v := hmain
  unfold V_X6_cycle at v
  refine r_aload_n 0 C dX6_cycle_0 rfl ?_
  refine r_aload_n 0 C dX6_cycle_1 rfl ?_
  refine r_iload_n 1 C dX6_cycle_2 rfl ?_
  obtain ⟨o11, v⟩ := v
  refine s_calli0 [a1] [vr 30] C dX6_cycle_3 ck_X6_83 (r := 30) (fY := 0) (nY := 0) rfl rfl (by decide) (by decide) (Nat.le_of_ble_eq_true rfl) rfl (by rw [hXl]; exact c_X6_isEdge a1 h0 o11) (fun r12 gr12 qr12 => ?_)
  have v := v r12 gr12 qr12
  refine r_if_eq (tgt := 13) C dX6_cycle_6 (by decide) (fun c13 => ?_) (fun c13 => ?_)
  · have v := v.1 c13
    refine r_iconst C dX6_cycle_13 ⟨by decide, by decide⟩ ?_
    exact s_sub [0, 1] rfl (B_14 _ _ _ v)
  · have v := v.2 c13
    refine r_iconst C dX6_cycle_9 ⟨by decide, by decide⟩ ?_
    refine r_goto (tgt := 14) C dX6_cycle_10 (by decide) ?_
    exact s_sub [0, 1] rfl (B_14 _ _ _ v)

def V_X6_findInside_138 (P : Int → Hp → Prop) (I_2 : Nat → Hp → Int → Int → Prop) (I_41 : Nat → Hp → Int → Prop) (I_49 : Nat → Nat → Hp → Int → Int → Prop) (n_41 : Nat) (n_49 : Nat) (h : Hp) (x2 : Int) (x3 : Int) : Prop :=
  InR (x3 + 1) ∧ (∀ z1 : Int, z1 = x3 + 1 → (∃ n', n' < n_49 ∧ I_49 n_41 n' h x2 z1))
def V_X6_findInside_49 (P : Int → Hp → Prop) (I_2 : Nat → Hp → Int → Int → Prop) (I_41 : Nat → Hp → Int → Prop) (I_49 : Nat → Nat → Hp → Int → Int → Prop) (n_41 : Nat) (n_49 : Nat) (h : Hp) (x2 : Int) (x3 : Int) : Prop :=
  ((h 30 2) ≤ x3 → ∃ n', n' < n_41 ∧ I_41 n' h x2) ∧ (¬ (h 30 2) ≤ x3 → ((0 : Int) ≤ x3 ∧ (x3 : Int) < 100) ∧ ((¬ (h 33 x3) = 0 → V_X6_findInside_138 P I_2 I_41 I_49 n_41 n_49 h x2 x3) ∧ ((h 33 x3) = 0 → ((0 : Int) ≤ x3 ∧ (x3 : Int) < 100) ∧ ((¬ (h 45 x3) = 0 → V_X6_findInside_138 P I_2 I_41 I_49 n_41 n_49 h x2 x3) ∧ ((h 45 x3) = 0 → InR (2 * x3) ∧ (((0 : Int) ≤ (2 * x3) ∧ ((2 * x3) : Int) < 200) ∧ (((0 : Int) ≤ (h 37 (2 * x3)) ∧ ((h 37 (2 * x3)) : Int) < 200) ∧ (InR (2 * x3) ∧ (InR ((2 * x3) + 1) ∧ (((0 : Int) ≤ ((2 * x3) + 1) ∧ (((2 * x3) + 1) : Int) < 200) ∧ (((0 : Int) ≤ (h 37 ((2 * x3) + 1)) ∧ ((h 37 ((2 * x3) + 1)) : Int) < 200) ∧ (((h 46 (h 37 (2 * x3))) = (h 46 (h 37 ((2 * x3) + 1))) → V_X6_findInside_138 P I_2 I_41 I_49 n_41 n_49 h x2 x3) ∧ (¬ (h 46 (h 37 (2 * x3))) = (h 46 (h 37 ((2 * x3) + 1))) → InR (2 * x3) ∧ (((0 : Int) ≤ (2 * x3) ∧ ((2 * x3) : Int) < 200) ∧ (((0 : Int) ≤ (h 37 (2 * x3)) ∧ ((h 37 (2 * x3)) : Int) < 200) ∧ (∀ h19 : Hp, h19 = hup h 46 (h 37 (2 * x3)) 1 → (InR (2 * x3) ∧ (InR ((2 * x3) + 1) ∧ (((0 : Int) ≤ ((2 * x3) + 1) ∧ (((2 * x3) + 1) : Int) < 200) ∧ (((0 : Int) ≤ (h19 37 ((2 * x3) + 1)) ∧ ((h19 37 ((2 * x3) + 1)) : Int) < 200) ∧ (∀ h24 : Hp, h24 = hup h19 46 (h19 37 ((2 * x3) + 1)) 1 → (∀ z25 : Int, z25 = 1 → (V_X6_findInside_138 P I_2 I_41 I_49 n_41 n_49 h24 z25 x3)))))))))))))))))))))))
def V_X6_findInside_41 (P : Int → Hp → Prop) (I_2 : Nat → Hp → Int → Int → Prop) (I_41 : Nat → Hp → Int → Prop) (I_49 : Nat → Nat → Hp → Int → Int → Prop) (n_41 : Nat) (h : Hp) (x2 : Int) : Prop :=
  (x2 = 0 → P 0 h) ∧ (¬ x2 = 0 → ∀ z27 : Int, z27 = 0 → (∀ z28 : Int, z28 = 0 → (∃ n', I_49 n_41 n' h z27 z28)))
def V_X6_findInside_32 (P : Int → Hp → Prop) (I_2 : Nat → Hp → Int → Int → Prop) (I_41 : Nat → Hp → Int → Prop) (I_49 : Nat → Nat → Hp → Int → Int → Prop) (n_2 : Nat) (h : Hp) (x1 : Int) (x2 : Int) (y1 : Int) (y2 : Int) : Prop :=
  ((0 : Int) ≤ y1 ∧ (y1 : Int) < 200) ∧ ((y2 = 0 ∨ y2 = 1) ∧ (∀ h30 : Hp, h30 = hup h 46 y1 y2 → (InR (x2 + 1) ∧ (∀ z32 : Int, z32 = x2 + 1 → (∃ n', n' < n_2 ∧ I_2 n' h30 x1 z32)))))
def V_X6_findInside_2 (P : Int → Hp → Prop) (I_2 : Nat → Hp → Int → Int → Prop) (I_41 : Nat → Hp → Int → Prop) (I_49 : Nat → Nat → Hp → Int → Int → Prop) (n_2 : Nat) (h : Hp) (x1 : Int) (x2 : Int) : Prop :=
  ((h 30 12) ≤ x2 → ∀ z35 : Int, z35 = 1 → (∃ n', I_41 n' h z35)) ∧ (¬ (h 30 12) ≤ x2 → InR (2 * x1) ∧ (((0 : Int) ≤ (2 * x1) ∧ ((2 * x1) : Int) < 200) ∧ ((¬ x2 = (h 37 (2 * x1)) → V_X6_findInside_32 P I_2 I_41 I_49 n_2 h x1 x2 x2 0) ∧ (x2 = (h 37 (2 * x1)) → V_X6_findInside_32 P I_2 I_41 I_49 n_2 h x1 x2 x2 1))))
def V_X6_findInside (P : Int → Hp → Prop) (I_2 : Nat → Hp → Int → Int → Prop) (I_41 : Nat → Hp → Int → Prop) (I_49 : Nat → Nat → Hp → Int → Int → Prop) (h0 : Hp) (a1 : Int) : Prop :=
  ∀ z39 : Int, z39 = 0 → (∃ n', I_2 n' h0 a1 z39)
set_option maxHeartbeats 4000000 in
set_option maxRecDepth 100000 in
theorem w_X6_findInside {l : Launch} (P : Int → Hp → Prop) (I_2 : Nat → Hp → Int → Int → Prop) (I_41 : Nat → Hp → Int → Prop) (I_49 : Nat → Nat → Hp → Int → Int → Prop) (h0 : Hp) (a1 : Int)
    (o_2 : ∀ (n_2 : Nat) (h : Hp) (x1 : Int) (x2 : Int), RH h → Fr [46] h0 h → InR x1 → InR x2 → I_2 n_2 h x1 x2 → V_X6_findInside_2 P I_2 I_41 I_49 n_2 h x1 x2)
    (o_41 : ∀ (n_41 : Nat) (h : Hp) (x2 : Int), RH h → Fr [46] h0 h → InR x2 → I_41 n_41 h x2 → V_X6_findInside_41 P I_2 I_41 I_49 n_41 h x2)
    (o_49 : ∀ (n_41 n_49 : Nat) (h : Hp) (x2 : Int) (x3 : Int), RH h → Fr [46] h0 h → InR x2 → InR x3 → I_49 n_41 n_49 h x2 x3 → V_X6_findInside_49 P I_2 I_41 I_49 n_41 n_49 h x2 x3)
    (o : RH h0 → InR a1 → V_X6_findInside P I_2 I_41 I_49 h0 a1) :
    Ct l yX6_findInside cX6_findInside 4 none 0 0 0 [vr 30, vi a1] h0 [46] P (fun _ => False) := by
  refine Ct.of (own := RX6) (by decide) rfl (Nat.le_of_ble_eq_true rfl) ?_
  intro X C hXl hXM hXh hXP hXX hXc hXr hav hR0
  have hmain : V_X6_findInside P I_2 I_41 I_49 h0 a1 := o hR0 (hav (vi a1) (by simp))
  have B_41 : ∀ (n_41 : Nat) (h : Hp) (x2 : Int), I_41 n_41 h x2 → Wh X 41 [(0, vr 30), (2, vi x2)] [] h 0 := by
    intro n_41
    induction n_41 using Nat.strongRecOn with
    | _ n_41 ih_41 =>
      intro h x2 hI
      refine s_use fun hR hF hL => ?_
      have v := o_41 n_41 h x2 hR (by rw [hXM, hXh] at hF; exact hF) (hL (2, vi x2) (by simp)) hI
      unfold V_X6_findInside_41 at v
      have B_49 : ∀ (n_49 : Nat) (h : Hp) (x2 : Int) (x3 : Int), I_49 n_41 n_49 h x2 x3 → Wh X 49 [(0, vr 30), (2, vi x2), (3, vi x3)] [] h 0 := by
        intro n_49
        induction n_49 using Nat.strongRecOn with
        | _ n_49 ih_49 =>
          intro h x2 x3 hI
          refine s_use fun hR hF hL => ?_
          have v := o_49 n_41 n_49 h x2 x3 hR (by rw [hXM, hXh] at hF; exact hF) (hL (2, vi x2) (by simp)) (hL (3, vi x3) (by simp)) hI
          unfold V_X6_findInside_49 at v
          have B_138 : ∀ (h : Hp) (x2 : Int) (x3 : Int), V_X6_findInside_138 P I_2 I_41 I_49 n_41 n_49 h x2 x3 → Wh X 138 [(0, vr 30), (2, vi x2), (3, vi x3)] [] h 0 := by
            intro h x2 x3 v
            unfold V_X6_findInside_138 at v
            obtain ⟨o2, v⟩ := v
            refine s_iinc 2 C dX6_findInside_138 rfl (by decide) o2 (fun z1 ez1 => ?_)
            have v := v z1 ez1
            show Wh X 141 [(3, vi z1), (0, vr 30), (2, vi x2)] [] h 0
            refine r_goto (tgt := 49) C dX6_findInside_141 (by decide) ?_
            obtain ⟨n', hn', hI'⟩ := v
            exact s_sub [1, 2, 0] rfl (ih_49 n' hn' _ _ _ hI')
          refine r_iload_n 2 C dX6_findInside_49 rfl ?_
          refine r_aload_n 0 C dX6_findInside_50 rfl ?_
          refine gf_X6_66 C dX6_findInside_51 ?_
          refine r_icmp_ge (tgt := 144) C dX6_findInside_54 (by decide) (fun c3 => ?_) (fun c3 => ?_)
          · have v := v.1 c3
            refine r_goto (tgt := 41) C dX6_findInside_144 (by decide) ?_
            obtain ⟨n', hn', hI'⟩ := v
            exact s_sub [0, 1] rfl (ih_41 n' hn' _ _ hI')
          · have v := v.2 c3
            refine r_aload_n 0 C dX6_findInside_57 rfl ?_
            refine gf_X6_16 C dX6_findInside_58 ?_
            refine r_iload_n 2 C dX6_findInside_61 rfl ?_
            obtain ⟨o4, v⟩ := v
            refine r_baload (r := 33) (N := 100) C dX6_findInside_62 rfl o4 ?_
            refine r_if_ne (tgt := 138) C dX6_findInside_63 (by decide) (fun c5 => ?_) (fun c5 => ?_)
            · have v := v.1 c5
              exact s_sub [0, 1, 2] rfl (B_138 _ _ _ v)
            · have v := v.2 c5
              refine r_aload_n 0 C dX6_findInside_66 rfl ?_
              refine gf_X6_53 C dX6_findInside_67 ?_
              refine r_iload_n 2 C dX6_findInside_70 rfl ?_
              obtain ⟨o6, v⟩ := v
              refine r_baload (r := 45) (N := 100) C dX6_findInside_71 rfl o6 ?_
              refine r_if_ne (tgt := 138) C dX6_findInside_72 (by decide) (fun c7 => ?_) (fun c7 => ?_)
              · have v := v.1 c7
                exact s_sub [0, 1, 2] rfl (B_138 _ _ _ v)
              · have v := v.2 c7
                refine r_aload_n 0 C dX6_findInside_75 rfl ?_
                refine gf_X6_56 C dX6_findInside_76 ?_
                refine r_aload_n 0 C dX6_findInside_79 rfl ?_
                refine gf_X6_29 C dX6_findInside_80 ?_
                refine r_iconst C dX6_findInside_83 ⟨by decide, by decide⟩ ?_
                refine r_iload_n 2 C dX6_findInside_84 rfl ?_
                obtain ⟨o8, v⟩ := v
                refine r_imul C dX6_findInside_85 o8 ?_
                obtain ⟨o9, v⟩ := v
                refine r_iaload (r := 37) (N := 200) C dX6_findInside_86 rfl o9 ?_
                obtain ⟨o10, v⟩ := v
                refine r_baload (r := 46) (N := 200) C dX6_findInside_87 rfl o10 ?_
                refine r_aload_n 0 C dX6_findInside_88 rfl ?_
                refine gf_X6_56 C dX6_findInside_89 ?_
                refine r_aload_n 0 C dX6_findInside_92 rfl ?_
                refine gf_X6_29 C dX6_findInside_93 ?_
                refine r_iconst C dX6_findInside_96 ⟨by decide, by decide⟩ ?_
                refine r_iload_n 2 C dX6_findInside_97 rfl ?_
                obtain ⟨o11, v⟩ := v
                refine r_imul C dX6_findInside_98 o11 ?_
                refine r_iconst C dX6_findInside_99 ⟨by decide, by decide⟩ ?_
                obtain ⟨o12, v⟩ := v
                refine r_iadd C dX6_findInside_100 o12 ?_
                obtain ⟨o13, v⟩ := v
                refine r_iaload (r := 37) (N := 200) C dX6_findInside_101 rfl o13 ?_
                obtain ⟨o14, v⟩ := v
                refine r_baload (r := 46) (N := 200) C dX6_findInside_102 rfl o14 ?_
                refine r_icmp_eq (tgt := 138) C dX6_findInside_103 (by decide) (fun c15 => ?_) (fun c15 => ?_)
                · have v := v.1 c15
                  exact s_sub [0, 1, 2] rfl (B_138 _ _ _ v)
                · have v := v.2 c15
                  refine r_aload_n 0 C dX6_findInside_106 rfl ?_
                  refine gf_X6_56 C dX6_findInside_107 ?_
                  refine r_aload_n 0 C dX6_findInside_110 rfl ?_
                  refine gf_X6_29 C dX6_findInside_111 ?_
                  refine r_iconst C dX6_findInside_114 ⟨by decide, by decide⟩ ?_
                  refine r_iload_n 2 C dX6_findInside_115 rfl ?_
                  obtain ⟨o16, v⟩ := v
                  refine r_imul C dX6_findInside_116 o16 ?_
                  obtain ⟨o17, v⟩ := v
                  refine r_iaload (r := 37) (N := 200) C dX6_findInside_117 rfl o17 ?_
                  refine r_iconst C dX6_findInside_118 ⟨by decide, by decide⟩ ?_
                  obtain ⟨o18, v⟩ := v
                  refine s_bastore (r := 46) (N := 200) C dX6_findInside_119 rfl hXM (by decide) o18 (by decide) (fun h19 eh19 => ?_)
                  have v := v h19 eh19
                  refine r_aload_n 0 C dX6_findInside_120 rfl ?_
                  refine gf_X6_56 C dX6_findInside_121 ?_
                  refine r_aload_n 0 C dX6_findInside_124 rfl ?_
                  refine gf_X6_29 C dX6_findInside_125 ?_
                  refine r_iconst C dX6_findInside_128 ⟨by decide, by decide⟩ ?_
                  refine r_iload_n 2 C dX6_findInside_129 rfl ?_
                  obtain ⟨o20, v⟩ := v
                  refine r_imul C dX6_findInside_130 o20 ?_
                  refine r_iconst C dX6_findInside_131 ⟨by decide, by decide⟩ ?_
                  obtain ⟨o21, v⟩ := v
                  refine r_iadd C dX6_findInside_132 o21 ?_
                  obtain ⟨o22, v⟩ := v
                  refine r_iaload (r := 37) (N := 200) C dX6_findInside_133 rfl o22 ?_
                  refine r_iconst C dX6_findInside_134 ⟨by decide, by decide⟩ ?_
                  obtain ⟨o23, v⟩ := v
                  refine s_bastore (r := 46) (N := 200) C dX6_findInside_135 rfl hXM (by decide) o23 (by decide) (fun h24 eh24 => ?_)
                  have v := v h24 eh24
                  refine r_iconst C dX6_findInside_136 ⟨by decide, by decide⟩ ?_
                  refine s_istore_n C dX6_findInside_137 (by decide) (fun z25 ez25 => ?_)
                  have v := v z25 ez25
                  show Wh X 138 [(2, vi z25), (0, vr 30), (3, vi x3)] [] h24 0
                  exact s_sub [1, 0, 2] rfl (B_138 _ _ _ v)
      refine r_iload_n 1 C dX6_findInside_41 rfl ?_
      refine r_if_eq (tgt := 147) C dX6_findInside_42 (by decide) (fun c26 => ?_) (fun c26 => ?_)
      · have v := v.1 c26
        exact r_return C dX6_findInside_147 hXr (Nat.zero_le _) (by rw [hXP]; exact v)
      · have v := v.2 c26
        refine r_iconst C dX6_findInside_45 ⟨by decide, by decide⟩ ?_
        refine s_istore_n C dX6_findInside_46 (by decide) (fun z27 ez27 => ?_)
        have v := v z27 ez27
        show Wh X 47 [(2, vi z27), (0, vr 30)] [] h 0
        refine r_iconst C dX6_findInside_47 ⟨by decide, by decide⟩ ?_
        refine s_istore_n C dX6_findInside_48 (by decide) (fun z28 ez28 => ?_)
        have v := v z28 ez28
        show Wh X 49 [(3, vi z28), (2, vi z27), (0, vr 30)] [] h 0
        obtain ⟨n', hI'⟩ := v
        exact s_sub [2, 1, 0] rfl (B_49 n' _ _ _ hI')
  have B_2 : ∀ (n_2 : Nat) (h : Hp) (x1 : Int) (x2 : Int), I_2 n_2 h x1 x2 → Wh X 2 [(0, vr 30), (1, vi x1), (2, vi x2)] [] h 0 := by
    intro n_2
    induction n_2 using Nat.strongRecOn with
    | _ n_2 ih_2 =>
      intro h x1 x2 hI
      refine s_use fun hR hF hL => ?_
      have v := o_2 n_2 h x1 x2 hR (by rw [hXM, hXh] at hF; exact hF) (hL (1, vi x1) (by simp)) (hL (2, vi x2) (by simp)) hI
      unfold V_X6_findInside_2 at v
      have B_32 : ∀ (h : Hp) (x1 : Int) (x2 : Int) (y1 : Int) (y2 : Int), V_X6_findInside_32 P I_2 I_41 I_49 n_2 h x1 x2 y1 y2 → Wh X 32 [(0, vr 30), (1, vi x1), (2, vi x2)] [vi y2, vi y1, vr 46] h 0 := by
        intro h x1 x2 y1 y2 v
        unfold V_X6_findInside_32 at v
        obtain ⟨o29, v⟩ := v
        obtain ⟨o31, v⟩ := v
        refine s_bastore (r := 46) (N := 200) C dX6_findInside_32 rfl hXM (by decide) o29 o31 (fun h30 eh30 => ?_)
        have v := v h30 eh30
        obtain ⟨o33, v⟩ := v
        refine s_iinc 2 C dX6_findInside_33 rfl (by decide) o33 (fun z32 ez32 => ?_)
        have v := v z32 ez32
        show Wh X 36 [(2, vi z32), (0, vr 30), (1, vi x1)] [] h30 0
        refine r_goto (tgt := 2) C dX6_findInside_36 (by decide) ?_
        obtain ⟨n', hn', hI'⟩ := v
        exact s_sub [1, 2, 0] rfl (ih_2 n' hn' _ _ _ hI')
      refine r_iload_n 2 C dX6_findInside_2 rfl ?_
      refine r_aload_n 0 C dX6_findInside_3 rfl ?_
      refine gf_X6_111 C dX6_findInside_4 ?_
      refine r_icmp_ge (tgt := 39) C dX6_findInside_7 (by decide) (fun c34 => ?_) (fun c34 => ?_)
      · have v := v.1 c34
        refine r_iconst C dX6_findInside_39 ⟨by decide, by decide⟩ ?_
        refine s_istore_n C dX6_findInside_40 (by decide) (fun z35 ez35 => ?_)
        have v := v z35 ez35
        show Wh X 41 [(2, vi z35), (0, vr 30), (1, vi x1)] [] h 0
        obtain ⟨n', hI'⟩ := v
        exact s_sub [1, 0] rfl (B_41 n' _ _ hI')
      · have v := v.2 c34
        refine r_aload_n 0 C dX6_findInside_10 rfl ?_
        refine gf_X6_56 C dX6_findInside_11 ?_
        refine r_iload_n 2 C dX6_findInside_14 rfl ?_
        refine r_iload_n 2 C dX6_findInside_15 rfl ?_
        refine r_aload_n 0 C dX6_findInside_16 rfl ?_
        refine gf_X6_29 C dX6_findInside_17 ?_
        refine r_iconst C dX6_findInside_20 ⟨by decide, by decide⟩ ?_
        refine r_iload_n 1 C dX6_findInside_21 rfl ?_
        obtain ⟨o36, v⟩ := v
        refine r_imul C dX6_findInside_22 o36 ?_
        obtain ⟨o37, v⟩ := v
        refine r_iaload (r := 37) (N := 200) C dX6_findInside_23 rfl o37 ?_
        refine r_icmp_ne (tgt := 31) C dX6_findInside_24 (by decide) (fun c38 => ?_) (fun c38 => ?_)
        · have v := v.1 c38
          refine r_iconst C dX6_findInside_31 ⟨by decide, by decide⟩ ?_
          exact s_sub [0, 1, 2] rfl (B_32 _ _ _ _ _ v)
        · have v := v.2 c38
          refine r_iconst C dX6_findInside_27 ⟨by decide, by decide⟩ ?_
          refine r_goto (tgt := 32) C dX6_findInside_28 (by decide) ?_
          exact s_sub [0, 1, 2] rfl (B_32 _ _ _ _ _ v)
  show Wh X 0 [(0, vr 30), (1, vi a1)] [] h0 0
  have v := hmain
  unfold V_X6_findInside at v
  refine r_iconst C dX6_findInside_0 ⟨by decide, by decide⟩ ?_
  refine s_istore_n C dX6_findInside_1 (by decide) (fun z39 ez39 => ?_)
  have v := v z39 ez39
  show Wh X 2 [(2, vi z39), (0, vr 30), (1, vi a1)] [] h0 0
  obtain ⟨n', hI'⟩ := v
  exact s_sub [1, 2, 0] rfl (B_2 n' _ _ _ hI')

def V_X6_countSide_164 (P : Int → Hp → Prop) (I_5 : Nat → Hp → Int → Int → Int → Int → Prop) (I_58 : Nat → Nat → Hp → Int → Int → Int → Int → Int → Int → Int → Prop) (n_5 : Nat) (h : Hp) (x1 : Int) (x2 : Int) (x4 : Int) (y0 : Int) : Prop :=
  ∀ z1 : Int, z1 = y0 → (InR (x4 + 1) ∧ (∀ z2 : Int, z2 = x4 + 1 → (∃ n', n' < n_5 ∧ I_5 n' h x1 x2 z1 z2)))
def V_X6_countSide_163 (P : Int → Hp → Prop) (I_5 : Nat → Hp → Int → Int → Int → Int → Prop) (I_58 : Nat → Nat → Hp → Int → Int → Int → Int → Int → Int → Int → Prop) (n_5 : Nat) (h : Hp) (x1 : Int) (x2 : Int) (x3 : Int) (x4 : Int) : Prop :=
  V_X6_countSide_164 P I_5 I_58 n_5 h x1 x2 x4 x3
def V_X6_countSide_146 (P : Int → Hp → Prop) (I_5 : Nat → Hp → Int → Int → Int → Int → Prop) (I_58 : Nat → Nat → Hp → Int → Int → Int → Int → Int → Int → Int → Prop) (n_5 : Nat) (h : Hp) (x1 : Int) (x2 : Int) (x3 : Int) (x4 : Int) (x5 : Int) (x6 : Int) : Prop :=
  (x5 = 0 → V_X6_countSide_163 P I_5 I_58 n_5 h x1 x2 x3 x4) ∧ (¬ x5 = 0 → (¬ x6 = x2 → V_X6_countSide_163 P I_5 I_58 n_5 h x1 x2 x3 x4) ∧ (x6 = x2 → InR (x3 + 1) ∧ (V_X6_countSide_164 P I_5 I_58 n_5 h x1 x2 x4 (x3 + 1))))
def V_X6_countSide_138 (P : Int → Hp → Prop) (I_5 : Nat → Hp → Int → Int → Int → Int → Prop) (I_58 : Nat → Nat → Hp → Int → Int → Int → Int → Int → Int → Int → Prop) (n_5 : Nat) (n_58 : Nat) (h : Hp) (x1 : Int) (x2 : Int) (x3 : Int) (x4 : Int) (x5 : Int) (x7 : Int) (y0 : Int) : Prop :=
  ∀ z7 : Int, z7 = y0 → (InR (x7 + 1) ∧ (∀ z8 : Int, z8 = x7 + 1 → (∃ n', n' < n_58 ∧ I_58 n_5 n' h x1 x2 x3 x4 x5 z7 z8)))
def V_X6_countSide_133 (P : Int → Hp → Prop) (I_5 : Nat → Hp → Int → Int → Int → Int → Prop) (I_58 : Nat → Nat → Hp → Int → Int → Int → Int → Int → Int → Int → Prop) (n_5 : Nat) (n_58 : Nat) (h : Hp) (x1 : Int) (x2 : Int) (x3 : Int) (x4 : Int) (x5 : Int) (x7 : Int) : Prop :=
  V_X6_countSide_138 P I_5 I_58 n_5 n_58 h x1 x2 x3 x4 x5 x7 1
def V_X6_countSide_128 (P : Int → Hp → Prop) (I_5 : Nat → Hp → Int → Int → Int → Int → Prop) (I_58 : Nat → Nat → Hp → Int → Int → Int → Int → Int → Int → Int → Prop) (n_5 : Nat) (n_58 : Nat) (h : Hp) (x1 : Int) (x2 : Int) (x3 : Int) (x4 : Int) (x5 : Int) (x7 : Int) (y2 : Int) : Prop :=
  ((0 : Int) ≤ y2 ∧ (y2 : Int) < 200) ∧ (((0 : Int) ≤ (h 37 y2) ∧ ((h 37 y2) : Int) < 200) ∧ (((h 46 (h 37 y2)) = 0 → V_X6_countSide_138 P I_5 I_58 n_5 n_58 h x1 x2 x3 x4 x5 x7 0) ∧ (¬ (h 46 (h 37 y2)) = 0 → V_X6_countSide_133 P I_5 I_58 n_5 n_58 h x1 x2 x3 x4 x5 x7)))
def V_X6_countSide_58 (P : Int → Hp → Prop) (I_5 : Nat → Hp → Int → Int → Int → Int → Prop) (I_58 : Nat → Nat → Hp → Int → Int → Int → Int → Int → Int → Int → Prop) (n_5 : Nat) (n_58 : Nat) (h : Hp) (x1 : Int) (x2 : Int) (x3 : Int) (x4 : Int) (x5 : Int) (x6 : Int) (x7 : Int) : Prop :=
  ((0 : Int) ≤ x4 ∧ (x4 : Int) < 30) ∧ (((h 35 x4) ≤ x7 → V_X6_countSide_146 P I_5 I_58 n_5 h x1 x2 x3 x4 x5 x6) ∧ (¬ (h 35 x4) ≤ x7 → (x5 = 0 → V_X6_countSide_146 P I_5 I_58 n_5 h x1 x2 x3 x4 x5 x6) ∧ (¬ x5 = 0 → InR (30 * x4) ∧ (InR ((30 * x4) + x7) ∧ (((0 : Int) ≤ ((30 * x4) + x7) ∧ (((30 * x4) + x7) : Int) < 900) ∧ (∀ z19 : Int, z19 = (h 34 ((30 * x4) + x7)) → ((¬ x6 = 0 → V_X6_countSide_133 P I_5 I_58 n_5 n_58 h x1 x2 x3 x4 x5 x7) ∧ (x6 = 0 → ((0 : Int) ≤ z19 ∧ (z19 : Int) < 100) ∧ ((¬ (h 31 z19) = x4 → InR (2 * z19) ∧ (InR ((2 * z19) + 1) ∧ (V_X6_countSide_128 P I_5 I_58 n_5 n_58 h x1 x2 x3 x4 x5 x7 ((2 * z19) + 1)))) ∧ ((h 31 z19) = x4 → InR (2 * z19) ∧ (V_X6_countSide_128 P I_5 I_58 n_5 n_58 h x1 x2 x3 x4 x5 x7 (2 * z19))))))))))))
def V_X6_countSide_50 (P : Int → Hp → Prop) (I_5 : Nat → Hp → Int → Int → Int → Int → Prop) (I_58 : Nat → Nat → Hp → Int → Int → Int → Int → Int → Int → Int → Prop) (n_5 : Nat) (h : Hp) (x1 : Int) (x2 : Int) (x3 : Int) (x4 : Int) (y0 : Int) : Prop :=
  ∀ z26 : Int, z26 = y0 → (∀ z27 : Int, z27 = 0 → (∀ z28 : Int, z28 = 0 → (∃ n', I_58 n_5 n' h x1 x2 x3 x4 z26 z27 z28)))
def V_X6_countSide_49 (P : Int → Hp → Prop) (I_5 : Nat → Hp → Int → Int → Int → Int → Prop) (I_58 : Nat → Nat → Hp → Int → Int → Int → Int → Int → Int → Int → Prop) (n_5 : Nat) (h : Hp) (x1 : Int) (x2 : Int) (x3 : Int) (x4 : Int) : Prop :=
  V_X6_countSide_50 P I_5 I_58 n_5 h x1 x2 x3 x4 0
def V_X6_countSide_5 (P : Int → Hp → Prop) (I_5 : Nat → Hp → Int → Int → Int → Int → Prop) (I_58 : Nat → Nat → Hp → Int → Int → Int → Int → Int → Int → Int → Prop) (n_5 : Nat) (h : Hp) (x1 : Int) (x2 : Int) (x3 : Int) (x4 : Int) : Prop :=
  ((h 30 1) ≤ x4 → P x3 h) ∧ (¬ (h 30 1) ≤ x4 → ((0 : Int) ≤ x4 ∧ (x4 : Int) < 30) ∧ (((0 : Int) ≤ x1 ∧ (x1 : Int) < 100) ∧ (((0 : Int) ≤ (h 31 x1) ∧ ((h 31 x1) : Int) < 30) ∧ ((¬ (h 39 x4) = (h 39 (h 31 x1)) → V_X6_countSide_49 P I_5 I_58 n_5 h x1 x2 x3 x4) ∧ ((h 39 x4) = (h 39 (h 31 x1)) → ((0 : Int) ≤ x4 ∧ (x4 : Int) < 30) ∧ ((¬ (h 44 x4) = 0 → V_X6_countSide_49 P I_5 I_58 n_5 h x1 x2 x3 x4) ∧ ((h 44 x4) = 0 → V_X6_countSide_50 P I_5 I_58 n_5 h x1 x2 x3 x4 1)))))))
def V_X6_countSide (P : Int → Hp → Prop) (I_5 : Nat → Hp → Int → Int → Int → Int → Prop) (I_58 : Nat → Nat → Hp → Int → Int → Int → Int → Int → Int → Int → Prop) (h0 : Hp) (a1 : Int) (a2 : Int) : Prop :=
  ∀ z36 : Int, z36 = 0 → (∀ z37 : Int, z37 = 0 → (∃ n', I_5 n' h0 a1 a2 z36 z37))
set_option maxHeartbeats 4000000 in
set_option maxRecDepth 100000 in
theorem w_X6_countSide {l : Launch} (P : Int → Hp → Prop) (I_5 : Nat → Hp → Int → Int → Int → Int → Prop) (I_58 : Nat → Nat → Hp → Int → Int → Int → Int → Int → Int → Int → Prop) (h0 : Hp) (a1 : Int) (a2 : Int)
    (o_5 : ∀ (n_5 : Nat) (h : Hp) (x1 : Int) (x2 : Int) (x3 : Int) (x4 : Int), RH h → Fr [] h0 h → InR x1 → InR x2 → InR x3 → InR x4 → I_5 n_5 h x1 x2 x3 x4 → V_X6_countSide_5 P I_5 I_58 n_5 h x1 x2 x3 x4)
    (o_58 : ∀ (n_5 n_58 : Nat) (h : Hp) (x1 : Int) (x2 : Int) (x3 : Int) (x4 : Int) (x5 : Int) (x6 : Int) (x7 : Int), RH h → Fr [] h0 h → InR x1 → InR x2 → InR x3 → InR x4 → InR x5 → InR x6 → InR x7 → I_58 n_5 n_58 h x1 x2 x3 x4 x5 x6 x7 → V_X6_countSide_58 P I_5 I_58 n_5 n_58 h x1 x2 x3 x4 x5 x6 x7)
    (o : RH h0 → InR a1 → InR a2 → V_X6_countSide P I_5 I_58 h0 a1 a2) :
    Ct l yX6_countSide cX6_countSide 9 (some .int) 0 0 0 [vr 30, vi a1, vi a2] h0 [] P (fun _ => False) := by
  refine Ct.of (own := RX6) (by decide) rfl (Nat.le_of_ble_eq_true rfl) ?_
  intro X C hXl hXM hXh hXP hXX hXc hXr hav hR0
  have hmain : V_X6_countSide P I_5 I_58 h0 a1 a2 := o hR0 (hav (vi a1) (by simp)) (hav (vi a2) (by simp))
  have B_5 : ∀ (n_5 : Nat) (h : Hp) (x1 : Int) (x2 : Int) (x3 : Int) (x4 : Int), I_5 n_5 h x1 x2 x3 x4 → Wh X 5 [(0, vr 30), (1, vi x1), (2, vi x2), (3, vi x3), (4, vi x4)] [] h 0 := by
    intro n_5
    induction n_5 using Nat.strongRecOn with
    | _ n_5 ih_5 =>
      intro h x1 x2 x3 x4 hI
      refine s_use fun hR hF hL => ?_
      have v := o_5 n_5 h x1 x2 x3 x4 hR (by rw [hXM, hXh] at hF; exact hF) (hL (1, vi x1) (by simp)) (hL (2, vi x2) (by simp)) (hL (3, vi x3) (by simp)) (hL (4, vi x4) (by simp)) hI
      unfold V_X6_countSide_5 at v
      have B_164 : ∀ (h : Hp) (x1 : Int) (x2 : Int) (x4 : Int) (y0 : Int), V_X6_countSide_164 P I_5 I_58 n_5 h x1 x2 x4 y0 → Wh X 164 [(0, vr 30), (1, vi x1), (2, vi x2), (4, vi x4)] [vi y0] h 0 := by
        intro h x1 x2 x4 y0 v
        unfold V_X6_countSide_164 at v
        refine s_istore_n C dX6_countSide_164 (by decide) (fun z1 ez1 => ?_)
        have v := v z1 ez1
        show Wh X 165 [(3, vi z1), (0, vr 30), (1, vi x1), (2, vi x2), (4, vi x4)] [] h 0
        obtain ⟨o3, v⟩ := v
        refine s_iinc 4 C dX6_countSide_165 rfl (by decide) o3 (fun z2 ez2 => ?_)
        have v := v z2 ez2
        show Wh X 168 [(4, vi z2), (3, vi z1), (0, vr 30), (1, vi x1), (2, vi x2)] [] h 0
        refine r_goto (tgt := 5) C dX6_countSide_168 (by decide) ?_
        obtain ⟨n', hn', hI'⟩ := v
        exact s_sub [2, 3, 4, 1, 0] rfl (ih_5 n' hn' _ _ _ _ _ hI')
      have B_163 : ∀ (h : Hp) (x1 : Int) (x2 : Int) (x3 : Int) (x4 : Int), V_X6_countSide_163 P I_5 I_58 n_5 h x1 x2 x3 x4 → Wh X 163 [(0, vr 30), (1, vi x1), (2, vi x2), (3, vi x3), (4, vi x4)] [] h 0 := by
        intro h x1 x2 x3 x4 v
        unfold V_X6_countSide_163 at v
        refine r_iload_n 3 C dX6_countSide_163 rfl ?_
        exact s_sub [0, 1, 2, 4] rfl (B_164 _ _ _ _ _ v)
      have B_146 : ∀ (h : Hp) (x1 : Int) (x2 : Int) (x3 : Int) (x4 : Int) (x5 : Int) (x6 : Int), V_X6_countSide_146 P I_5 I_58 n_5 h x1 x2 x3 x4 x5 x6 → Wh X 146 [(0, vr 30), (1, vi x1), (2, vi x2), (3, vi x3), (4, vi x4), (5, vi x5), (6, vi x6)] [] h 0 := by
        intro h x1 x2 x3 x4 x5 x6 v
        unfold V_X6_countSide_146 at v
        refine r_iload 5 C dX6_countSide_146 rfl ?_
        refine r_if_eq (tgt := 163) C dX6_countSide_148 (by decide) (fun c4 => ?_) (fun c4 => ?_)
        · have v := v.1 c4
          exact s_sub [0, 1, 2, 3, 4] rfl (B_163 _ _ _ _ _ v)
        · have v := v.2 c4
          refine r_iload 6 C dX6_countSide_151 rfl ?_
          refine r_iload_n 2 C dX6_countSide_153 rfl ?_
          refine r_icmp_ne (tgt := 163) C dX6_countSide_154 (by decide) (fun c5 => ?_) (fun c5 => ?_)
          · have v := v.1 c5
            exact s_sub [0, 1, 2, 3, 4] rfl (B_163 _ _ _ _ _ v)
          · have v := v.2 c5
            refine r_iload_n 3 C dX6_countSide_157 rfl ?_
            refine r_iconst C dX6_countSide_158 ⟨by decide, by decide⟩ ?_
            obtain ⟨o6, v⟩ := v
            refine r_iadd C dX6_countSide_159 o6 ?_
            refine r_goto (tgt := 164) C dX6_countSide_160 (by decide) ?_
            exact s_sub [0, 1, 2, 4] rfl (B_164 _ _ _ _ _ v)
      have B_58 : ∀ (n_58 : Nat) (h : Hp) (x1 : Int) (x2 : Int) (x3 : Int) (x4 : Int) (x5 : Int) (x6 : Int) (x7 : Int), I_58 n_5 n_58 h x1 x2 x3 x4 x5 x6 x7 → Wh X 58 [(0, vr 30), (1, vi x1), (2, vi x2), (3, vi x3), (4, vi x4), (5, vi x5), (6, vi x6), (7, vi x7)] [] h 0 := by
        intro n_58
        induction n_58 using Nat.strongRecOn with
        | _ n_58 ih_58 =>
          intro h x1 x2 x3 x4 x5 x6 x7 hI
          refine s_use fun hR hF hL => ?_
          have v := o_58 n_5 n_58 h x1 x2 x3 x4 x5 x6 x7 hR (by rw [hXM, hXh] at hF; exact hF) (hL (1, vi x1) (by simp)) (hL (2, vi x2) (by simp)) (hL (3, vi x3) (by simp)) (hL (4, vi x4) (by simp)) (hL (5, vi x5) (by simp)) (hL (6, vi x6) (by simp)) (hL (7, vi x7) (by simp)) hI
          unfold V_X6_countSide_58 at v
          have B_138 : ∀ (h : Hp) (x1 : Int) (x2 : Int) (x3 : Int) (x4 : Int) (x5 : Int) (x7 : Int) (y0 : Int), V_X6_countSide_138 P I_5 I_58 n_5 n_58 h x1 x2 x3 x4 x5 x7 y0 → Wh X 138 [(0, vr 30), (1, vi x1), (2, vi x2), (3, vi x3), (4, vi x4), (5, vi x5), (7, vi x7)] [vi y0] h 0 := by
            intro h x1 x2 x3 x4 x5 x7 y0 v
            unfold V_X6_countSide_138 at v
            refine s_istore C dX6_countSide_138 (by decide) (fun z7 ez7 => ?_)
            have v := v z7 ez7
            show Wh X 140 [(6, vi z7), (0, vr 30), (1, vi x1), (2, vi x2), (3, vi x3), (4, vi x4), (5, vi x5), (7, vi x7)] [] h 0
            obtain ⟨o9, v⟩ := v
            refine s_iinc 7 C dX6_countSide_140 rfl (by decide) o9 (fun z8 ez8 => ?_)
            have v := v z8 ez8
            show Wh X 143 [(7, vi z8), (6, vi z7), (0, vr 30), (1, vi x1), (2, vi x2), (3, vi x3), (4, vi x4), (5, vi x5)] [] h 0
            refine r_goto (tgt := 58) C dX6_countSide_143 (by decide) ?_
            obtain ⟨n', hn', hI'⟩ := v
            exact s_sub [2, 3, 4, 5, 6, 7, 1, 0] rfl (ih_58 n' hn' _ _ _ _ _ _ _ _ hI')
          have B_133 : ∀ (h : Hp) (x1 : Int) (x2 : Int) (x3 : Int) (x4 : Int) (x5 : Int) (x7 : Int), V_X6_countSide_133 P I_5 I_58 n_5 n_58 h x1 x2 x3 x4 x5 x7 → Wh X 133 [(0, vr 30), (1, vi x1), (2, vi x2), (3, vi x3), (4, vi x4), (5, vi x5), (7, vi x7)] [] h 0 := by
            intro h x1 x2 x3 x4 x5 x7 v
            unfold V_X6_countSide_133 at v
            refine r_iconst C dX6_countSide_133 ⟨by decide, by decide⟩ ?_
            refine r_goto (tgt := 138) C dX6_countSide_134 (by decide) ?_
            exact s_sub [0, 1, 2, 3, 4, 5, 6] rfl (B_138 _ _ _ _ _ _ _ _ v)
          have B_128 : ∀ (h : Hp) (x1 : Int) (x2 : Int) (x3 : Int) (x4 : Int) (x5 : Int) (x7 : Int) (y2 : Int), V_X6_countSide_128 P I_5 I_58 n_5 n_58 h x1 x2 x3 x4 x5 x7 y2 → Wh X 128 [(0, vr 30), (1, vi x1), (2, vi x2), (3, vi x3), (4, vi x4), (5, vi x5), (7, vi x7)] [vi y2, vr 37, vr 46] h 0 := by
            intro h x1 x2 x3 x4 x5 x7 y2 v
            unfold V_X6_countSide_128 at v
            obtain ⟨o10, v⟩ := v
            refine r_iaload (r := 37) (N := 200) C dX6_countSide_128 rfl o10 ?_
            obtain ⟨o11, v⟩ := v
            refine r_baload (r := 46) (N := 200) C dX6_countSide_129 rfl o11 ?_
            refine r_if_eq (tgt := 137) C dX6_countSide_130 (by decide) (fun c12 => ?_) (fun c12 => ?_)
            · have v := v.1 c12
              refine r_iconst C dX6_countSide_137 ⟨by decide, by decide⟩ ?_
              exact s_sub [0, 1, 2, 3, 4, 5, 6] rfl (B_138 _ _ _ _ _ _ _ _ v)
            · have v := v.2 c12
              exact s_sub [0, 1, 2, 3, 4, 5, 6] rfl (B_133 _ _ _ _ _ _ _ v)
          refine r_iload 7 C dX6_countSide_58 rfl ?_
          refine r_aload_n 0 C dX6_countSide_60 rfl ?_
          refine gf_X6_23 C dX6_countSide_61 ?_
          refine r_iload 4 C dX6_countSide_64 rfl ?_
          obtain ⟨o13, v⟩ := v
          refine r_iaload (r := 35) (N := 30) C dX6_countSide_66 rfl o13 ?_
          refine r_icmp_ge (tgt := 146) C dX6_countSide_67 (by decide) (fun c14 => ?_) (fun c14 => ?_)
          · have v := v.1 c14
            exact s_sub [0, 1, 2, 3, 4, 5, 6] rfl (B_146 _ _ _ _ _ _ _ v)
          · have v := v.2 c14
            refine r_iload 5 C dX6_countSide_70 rfl ?_
            refine r_if_eq (tgt := 146) C dX6_countSide_72 (by decide) (fun c15 => ?_) (fun c15 => ?_)
            · have v := v.1 c15
              exact s_sub [0, 1, 2, 3, 4, 5, 6] rfl (B_146 _ _ _ _ _ _ _ v)
            · have v := v.2 c15
              refine r_aload_n 0 C dX6_countSide_75 rfl ?_
              refine gf_X6_20 C dX6_countSide_76 ?_
              refine r_bipush C dX6_countSide_79 ⟨by decide, by decide⟩ (by decide) ?_
              refine r_iload 4 C dX6_countSide_81 rfl ?_
              obtain ⟨o16, v⟩ := v
              refine r_imul C dX6_countSide_83 o16 ?_
              refine r_iload 7 C dX6_countSide_84 rfl ?_
              obtain ⟨o17, v⟩ := v
              refine r_iadd C dX6_countSide_86 o17 ?_
              obtain ⟨o18, v⟩ := v
              refine r_iaload (r := 34) (N := 900) C dX6_countSide_87 rfl o18 ?_
              refine s_istore C dX6_countSide_88 (by decide) (fun z19 ez19 => ?_)
              have v := v z19 ez19
              show Wh X 90 [(8, vi z19), (0, vr 30), (1, vi x1), (2, vi x2), (3, vi x3), (4, vi x4), (5, vi x5), (6, vi x6), (7, vi x7)] [] h 0
              refine r_iload 7 C dX6_countSide_90 rfl ?_
              refine r_if_ne (tgt := 133) C dX6_countSide_92 (by decide) (fun c20 => ?_) (fun c20 => ?_)
              · have v := v.1 c20
                exact s_sub [1, 2, 3, 4, 5, 6, 8] rfl (B_133 _ _ _ _ _ _ _ v)
              · have v := v.2 c20
                refine r_aload_n 1 C dX6_countSide_95 rfl ?_
                refine gf_X6_56 C dX6_countSide_96 ?_
                refine r_aload_n 1 C dX6_countSide_99 rfl ?_
                refine gf_X6_29 C dX6_countSide_100 ?_
                refine r_aload_n 1 C dX6_countSide_103 rfl ?_
                refine gf_X6_7 C dX6_countSide_104 ?_
                refine r_iload 0 C dX6_countSide_107 rfl ?_
                obtain ⟨o21, v⟩ := v
                refine r_iaload (r := 31) (N := 100) C dX6_countSide_109 rfl o21 ?_
                refine r_iload 5 C dX6_countSide_110 rfl ?_
                refine r_icmp_ne (tgt := 122) C dX6_countSide_112 (by decide) (fun c22 => ?_) (fun c22 => ?_)
                · have v := v.1 c22
                  refine r_iconst C dX6_countSide_122 ⟨by decide, by decide⟩ ?_
                  refine r_iload 0 C dX6_countSide_123 rfl ?_
                  obtain ⟨o23, v⟩ := v
                  refine r_imul C dX6_countSide_125 o23 ?_
                  refine r_iconst C dX6_countSide_126 ⟨by decide, by decide⟩ ?_
                  obtain ⟨o24, v⟩ := v
                  refine r_iadd C dX6_countSide_127 o24 ?_
                  exact s_sub [1, 2, 3, 4, 5, 6, 8] rfl (B_128 _ _ _ _ _ _ _ _ v)
                · have v := v.2 c22
                  refine r_iconst C dX6_countSide_115 ⟨by decide, by decide⟩ ?_
                  refine r_iload 0 C dX6_countSide_116 rfl ?_
                  obtain ⟨o25, v⟩ := v
                  refine r_imul C dX6_countSide_118 o25 ?_
                  refine r_goto (tgt := 128) C dX6_countSide_119 (by decide) ?_
                  exact s_sub [1, 2, 3, 4, 5, 6, 8] rfl (B_128 _ _ _ _ _ _ _ _ v)
      have B_50 : ∀ (h : Hp) (x1 : Int) (x2 : Int) (x3 : Int) (x4 : Int) (y0 : Int), V_X6_countSide_50 P I_5 I_58 n_5 h x1 x2 x3 x4 y0 → Wh X 50 [(0, vr 30), (1, vi x1), (2, vi x2), (3, vi x3), (4, vi x4)] [vi y0] h 0 := by
        intro h x1 x2 x3 x4 y0 v
        unfold V_X6_countSide_50 at v
        refine s_istore C dX6_countSide_50 (by decide) (fun z26 ez26 => ?_)
        have v := v z26 ez26
        show Wh X 52 [(5, vi z26), (0, vr 30), (1, vi x1), (2, vi x2), (3, vi x3), (4, vi x4)] [] h 0
        refine r_iconst C dX6_countSide_52 ⟨by decide, by decide⟩ ?_
        refine s_istore C dX6_countSide_53 (by decide) (fun z27 ez27 => ?_)
        have v := v z27 ez27
        show Wh X 55 [(6, vi z27), (5, vi z26), (0, vr 30), (1, vi x1), (2, vi x2), (3, vi x3), (4, vi x4)] [] h 0
        refine r_iconst C dX6_countSide_55 ⟨by decide, by decide⟩ ?_
        refine s_istore C dX6_countSide_56 (by decide) (fun z28 ez28 => ?_)
        have v := v z28 ez28
        show Wh X 58 [(7, vi z28), (6, vi z27), (5, vi z26), (0, vr 30), (1, vi x1), (2, vi x2), (3, vi x3), (4, vi x4)] [] h 0
        obtain ⟨n', hI'⟩ := v
        exact s_sub [3, 4, 5, 6, 7, 2, 1, 0] rfl (B_58 n' _ _ _ _ _ _ _ _ hI')
      have B_49 : ∀ (h : Hp) (x1 : Int) (x2 : Int) (x3 : Int) (x4 : Int), V_X6_countSide_49 P I_5 I_58 n_5 h x1 x2 x3 x4 → Wh X 49 [(0, vr 30), (1, vi x1), (2, vi x2), (3, vi x3), (4, vi x4)] [] h 0 := by
        intro h x1 x2 x3 x4 v
        unfold V_X6_countSide_49 at v
        refine r_iconst C dX6_countSide_49 ⟨by decide, by decide⟩ ?_
        exact s_sub [0, 1, 2, 3, 4] rfl (B_50 _ _ _ _ _ _ v)
      refine r_iload 4 C dX6_countSide_5 rfl ?_
      refine r_aload_n 0 C dX6_countSide_7 rfl ?_
      refine gf_X6_63 C dX6_countSide_8 ?_
      refine r_icmp_ge (tgt := 171) C dX6_countSide_11 (by decide) (fun c29 => ?_) (fun c29 => ?_)
      · have v := v.1 c29
        refine r_iload_n 3 C dX6_countSide_171 rfl ?_
        exact r_ireturn C dX6_countSide_172 hXr (Nat.zero_le _) (by rw [hXP]; exact v)
      · have v := v.2 c29
        refine r_aload_n 0 C dX6_countSide_14 rfl ?_
        refine gf_X6_35 C dX6_countSide_15 ?_
        refine r_iload 4 C dX6_countSide_18 rfl ?_
        obtain ⟨o30, v⟩ := v
        refine r_iaload (r := 39) (N := 30) C dX6_countSide_20 rfl o30 ?_
        refine r_aload_n 0 C dX6_countSide_21 rfl ?_
        refine gf_X6_35 C dX6_countSide_22 ?_
        refine r_aload_n 0 C dX6_countSide_25 rfl ?_
        refine gf_X6_7 C dX6_countSide_26 ?_
        refine r_iload_n 1 C dX6_countSide_29 rfl ?_
        obtain ⟨o31, v⟩ := v
        refine r_iaload (r := 31) (N := 100) C dX6_countSide_30 rfl o31 ?_
        obtain ⟨o32, v⟩ := v
        refine r_iaload (r := 39) (N := 30) C dX6_countSide_31 rfl o32 ?_
        refine r_icmp_ne (tgt := 49) C dX6_countSide_32 (by decide) (fun c33 => ?_) (fun c33 => ?_)
        · have v := v.1 c33
          exact s_sub [0, 1, 2, 3, 4] rfl (B_49 _ _ _ _ _ v)
        · have v := v.2 c33
          refine r_aload_n 0 C dX6_countSide_35 rfl ?_
          refine gf_X6_50 C dX6_countSide_36 ?_
          refine r_iload 4 C dX6_countSide_39 rfl ?_
          obtain ⟨o34, v⟩ := v
          refine r_baload (r := 44) (N := 30) C dX6_countSide_41 rfl o34 ?_
          refine r_if_ne (tgt := 49) C dX6_countSide_42 (by decide) (fun c35 => ?_) (fun c35 => ?_)
          · have v := v.1 c35
            exact s_sub [0, 1, 2, 3, 4] rfl (B_49 _ _ _ _ _ v)
          · have v := v.2 c35
            refine r_iconst C dX6_countSide_45 ⟨by decide, by decide⟩ ?_
            refine r_goto (tgt := 50) C dX6_countSide_46 (by decide) ?_
            exact s_sub [0, 1, 2, 3, 4] rfl (B_50 _ _ _ _ _ _ v)
  show Wh X 0 [(0, vr 30), (1, vi a1), (2, vi a2)] [] h0 0
  have v := hmain
  unfold V_X6_countSide at v
  refine r_iconst C dX6_countSide_0 ⟨by decide, by decide⟩ ?_
  refine s_istore_n C dX6_countSide_1 (by decide) (fun z36 ez36 => ?_)
  have v := v z36 ez36
  show Wh X 2 [(3, vi z36), (0, vr 30), (1, vi a1), (2, vi a2)] [] h0 0
  refine r_iconst C dX6_countSide_2 ⟨by decide, by decide⟩ ?_
  refine s_istore C dX6_countSide_3 (by decide) (fun z37 ez37 => ?_)
  have v := v z37 ez37
  show Wh X 5 [(4, vi z37), (3, vi z36), (0, vr 30), (1, vi a1), (2, vi a2)] [] h0 0
  obtain ⟨n', hI'⟩ := v
  exact s_sub [2, 3, 4, 1, 0] rfl (B_5 n' _ _ _ _ _ hI')

def V_X6_side_43 (P : Int → Hp → Prop) (p_X6_isEdge : Int → Hp → Prop) (q_X6_isEdge : Int → Hp → Int → Prop) (p_X6_isTree : Int → Hp → Prop) (q_X6_isTree : Int → Hp → Int → Prop) (p_X6_findCycle : Int → Hp → Prop) (q_X6_findCycle : Int → Hp → Int → Hp → Prop) (p_X6_findInside : Int → Hp → Prop) (q_X6_findInside : Int → Hp → Hp → Prop) (p_X6_countSide : Int → Int → Hp → Prop) (q_X6_countSide : Int → Int → Hp → Int → Prop) (p_X6_genusOf : Hp → Prop) (q_X6_genusOf : Hp → Int → Hp → Prop) (h : Hp) : Prop :=
  P 0 h
def V_X6_side_25 (P : Int → Hp → Prop) (p_X6_isEdge : Int → Hp → Prop) (q_X6_isEdge : Int → Hp → Int → Prop) (p_X6_isTree : Int → Hp → Prop) (q_X6_isTree : Int → Hp → Int → Prop) (p_X6_findCycle : Int → Hp → Prop) (q_X6_findCycle : Int → Hp → Int → Hp → Prop) (p_X6_findInside : Int → Hp → Prop) (q_X6_findInside : Int → Hp → Hp → Prop) (p_X6_countSide : Int → Int → Hp → Prop) (q_X6_countSide : Int → Int → Hp → Int → Prop) (p_X6_genusOf : Hp → Prop) (q_X6_genusOf : Hp → Int → Hp → Prop) (h : Hp) (x1 : Int) (x2 : Int) (y1 : Int) : Prop :=
  ∀ h1 : Hp, h1 = hup h 30 0 y1 → ((0 < (h1 30 0) → V_X6_side_43 P p_X6_isEdge q_X6_isEdge p_X6_isTree q_X6_isTree p_X6_findCycle q_X6_findCycle p_X6_findInside q_X6_findInside p_X6_countSide q_X6_countSide p_X6_genusOf q_X6_genusOf h1) ∧ (¬ 0 < (h1 30 0) → p_X6_isTree x1 h1 ∧ (∀ r4 : Int, InR r4 → q_X6_isTree x1 h1 r4 → ((r4 = 0 → p_X6_findCycle x1 h1 ∧ (∀ (r7 : Int) (h8 : Hp), Fr [44, 45] h1 h8 → RH h8 → InR r7 → q_X6_findCycle x1 h1 r7 h8 → (∀ z9 : Int, z9 = r7 → (p_X6_findInside x1 h8 ∧ (∀ h11 : Hp, Fr [46] h8 h11 → RH h11 → q_X6_findInside x1 h8 h11 → (p_X6_countSide x1 x2 h11 ∧ (∀ r13 : Int, InR r13 → q_X6_countSide x1 x2 h11 r13 → (P r13 h11)))))))) ∧ (¬ r4 = 0 → V_X6_side_43 P p_X6_isEdge q_X6_isEdge p_X6_isTree q_X6_isTree p_X6_findCycle q_X6_findCycle p_X6_findInside q_X6_findInside p_X6_countSide q_X6_countSide p_X6_genusOf q_X6_genusOf h1)))))
def V_X6_side (P : Int → Hp → Prop) (p_X6_isEdge : Int → Hp → Prop) (q_X6_isEdge : Int → Hp → Int → Prop) (p_X6_isTree : Int → Hp → Prop) (q_X6_isTree : Int → Hp → Int → Prop) (p_X6_findCycle : Int → Hp → Prop) (q_X6_findCycle : Int → Hp → Int → Hp → Prop) (p_X6_findInside : Int → Hp → Prop) (q_X6_findInside : Int → Hp → Hp → Prop) (p_X6_countSide : Int → Int → Hp → Prop) (q_X6_countSide : Int → Int → Hp → Int → Prop) (p_X6_genusOf : Hp → Prop) (q_X6_genusOf : Hp → Int → Hp → Prop) (h0 : Hp) (a1 : Int) (a2 : Int) : Prop :=
  p_X6_isEdge a1 h0 ∧ (∀ r15 : Int, InR r15 → q_X6_isEdge a1 h0 r15 → ((¬ r15 = 0 → p_X6_genusOf h0 ∧ (∀ (r18 : Int) (h19 : Hp), Fr [30, 37, 38, 39, 40] h0 h19 → RH h19 → InR r18 → q_X6_genusOf h0 r18 h19 → ((r18 = 0 → V_X6_side_25 P p_X6_isEdge q_X6_isEdge p_X6_isTree q_X6_isTree p_X6_findCycle q_X6_findCycle p_X6_findInside q_X6_findInside p_X6_countSide q_X6_countSide p_X6_genusOf q_X6_genusOf h19 a1 a2 0) ∧ (¬ r18 = 0 → V_X6_side_25 P p_X6_isEdge q_X6_isEdge p_X6_isTree q_X6_isTree p_X6_findCycle q_X6_findCycle p_X6_findInside q_X6_findInside p_X6_countSide q_X6_countSide p_X6_genusOf q_X6_genusOf h19 a1 a2 2)))) ∧ (r15 = 0 → V_X6_side_25 P p_X6_isEdge q_X6_isEdge p_X6_isTree q_X6_isTree p_X6_findCycle q_X6_findCycle p_X6_findInside q_X6_findInside p_X6_countSide q_X6_countSide p_X6_genusOf q_X6_genusOf h0 a1 a2 1)))
set_option maxHeartbeats 4000000 in
set_option maxRecDepth 100000 in
theorem w_X6_side {l : Launch} (P : Int → Hp → Prop) (p_X6_isEdge : Int → Hp → Prop) (q_X6_isEdge : Int → Hp → Int → Prop) (p_X6_isTree : Int → Hp → Prop) (q_X6_isTree : Int → Hp → Int → Prop) (p_X6_findCycle : Int → Hp → Prop) (q_X6_findCycle : Int → Hp → Int → Hp → Prop) (p_X6_findInside : Int → Hp → Prop) (q_X6_findInside : Int → Hp → Hp → Prop) (p_X6_countSide : Int → Int → Hp → Prop) (q_X6_countSide : Int → Int → Hp → Int → Prop) (p_X6_genusOf : Hp → Prop) (q_X6_genusOf : Hp → Int → Hp → Prop) (h0 : Hp) (a1 : Int) (a2 : Int)
    (c_X6_isEdge : ∀ (b1 : Int) (h : Hp), p_X6_isEdge b1 h → Ct l yX6_isEdge cX6_isEdge 2 (some .boolean) 0 0 0 [vr 30, vi b1] h [] (fun r _ => q_X6_isEdge b1 h r) (fun _ => False))
    (c_X6_isTree : ∀ (b1 : Int) (h : Hp), p_X6_isTree b1 h → Ct l yX6_isTree cX6_isTree 2 (some .boolean) 0 0 0 [vr 30, vi b1] h [] (fun r _ => q_X6_isTree b1 h r) (fun _ => False))
    (c_X6_findCycle : ∀ (b1 : Int) (h : Hp), p_X6_findCycle b1 h → Ct l yX6_findCycle cX6_findCycle 7 (some .int) 2 45 0 [vr 30, vi b1] h [44, 45] (fun r h1 => q_X6_findCycle b1 h r h1) (fun _ => False))
    (c_X6_findInside : ∀ (b1 : Int) (h : Hp), p_X6_findInside b1 h → Ct l yX6_findInside cX6_findInside 4 none 0 0 0 [vr 30, vi b1] h [46] (fun _ h1 => q_X6_findInside b1 h h1) (fun _ => False))
    (c_X6_countSide : ∀ (b1 : Int) (b2 : Int) (h : Hp), p_X6_countSide b1 b2 h → Ct l yX6_countSide cX6_countSide 9 (some .int) 0 0 0 [vr 30, vi b1, vi b2] h [] (fun r _ => q_X6_countSide b1 b2 h r) (fun _ => False))
    (c_X6_genusOf : ∀ (h : Hp), p_X6_genusOf h → Ct l yX6_genusOf cX6_genusOf 3 (some .int) 3 69 0 [vr 30] h [30, 37, 38, 39, 40] (fun r h1 => q_X6_genusOf h r h1) (fun _ => False))
    (o : RH h0 → InR a1 → InR a2 → V_X6_side P p_X6_isEdge q_X6_isEdge p_X6_isTree q_X6_isTree p_X6_findCycle q_X6_findCycle p_X6_findInside q_X6_findInside p_X6_countSide q_X6_countSide p_X6_genusOf q_X6_genusOf h0 a1 a2) :
    Ct l yX6_side cX6_side 4 (some .int) 4 91 0 [vr 30, vi a1, vi a2] h0 [30, 37, 38, 39, 40, 44, 45, 46] P (fun _ => False) := by
  refine Ct.of (own := RX6) (by decide) rfl (Nat.le_of_ble_eq_true rfl) ?_
  intro X C hXl hXM hXh hXP hXX hXc hXr hav hR0
  have hmain : V_X6_side P p_X6_isEdge q_X6_isEdge p_X6_isTree q_X6_isTree p_X6_findCycle q_X6_findCycle p_X6_findInside q_X6_findInside p_X6_countSide q_X6_countSide p_X6_genusOf q_X6_genusOf h0 a1 a2 := o hR0 (hav (vi a1) (by simp)) (hav (vi a2) (by simp))
  have B_43 : ∀ (h : Hp), V_X6_side_43 P p_X6_isEdge q_X6_isEdge p_X6_isTree q_X6_isTree p_X6_findCycle q_X6_findCycle p_X6_findInside q_X6_findInside p_X6_countSide q_X6_countSide p_X6_genusOf q_X6_genusOf h → Wh X 43 [(0, vr 30)] [] h 0 := by
    intro h v
    unfold V_X6_side_43 at v
    refine r_iconst C dX6_side_43 ⟨by decide, by decide⟩ ?_
    exact r_ireturn C dX6_side_44 hXr (Nat.zero_le _) (by rw [hXP]; exact v)
  have B_25 : ∀ (h : Hp) (x1 : Int) (x2 : Int) (y1 : Int), V_X6_side_25 P p_X6_isEdge q_X6_isEdge p_X6_isTree q_X6_isTree p_X6_findCycle q_X6_findCycle p_X6_findInside q_X6_findInside p_X6_countSide q_X6_countSide p_X6_genusOf q_X6_genusOf h x1 x2 y1 → Wh X 25 [(0, vr 30), (1, vi x1), (2, vi x2)] [vi y1, vr 30] h 0 := by
    intro h x1 x2 y1 v
    unfold V_X6_side_25 at v
    refine pf_X6_59 C dX6_side_25 hXM (by decide) (fun h1 eh1 => ?_)
    have v := v h1 eh1
    refine r_aload_n 0 C dX6_side_28 rfl ?_
    refine gf_X6_59 C dX6_side_29 ?_
    refine r_if_gt (tgt := 43) C dX6_side_32 (by decide) (fun c2 => ?_) (fun c2 => ?_)
    · have v := v.1 c2
      exact s_sub [0] rfl (B_43 _ v)
    · have v := v.2 c2
      refine r_aload_n 0 C dX6_side_35 rfl ?_
      refine r_iload_n 1 C dX6_side_36 rfl ?_
      obtain ⟨o3, v⟩ := v
      refine s_calli0 [x1] [] C dX6_side_37 ck_X6_167 (r := 30) (fY := 0) (nY := 0) rfl rfl (by decide) (by decide) (Nat.le_of_ble_eq_true rfl) rfl (by rw [hXl]; exact c_X6_isTree x1 h1 o3) (fun r4 gr4 qr4 => ?_)
      have v := v r4 gr4 qr4
      refine r_if_eq (tgt := 45) C dX6_side_40 (by decide) (fun c5 => ?_) (fun c5 => ?_)
      · have v := v.1 c5
        refine r_aload_n 0 C dX6_side_45 rfl ?_
        refine r_iload_n 1 C dX6_side_46 rfl ?_
        obtain ⟨o6, v⟩ := v
        refine s_calli [x1] [] C dX6_side_47 ck_X6_170 (r := 30) (fY := 2) (nY := 45) rfl rfl (by decide) (by decide) (Nat.le_of_ble_eq_true rfl) rfl (MY := [44, 45]) hXM (by decide) (by rw [hXl]; exact c_X6_findCycle x1 h1 o6) (fun r7 h8 fr7 kr7 gr7 qr7 => ?_)
        have v := v r7 h8 fr7 kr7 gr7 qr7
        refine s_istore_n C dX6_side_50 (by decide) (fun z9 ez9 => ?_)
        have v := v z9 ez9
        show Wh X 51 [(3, vi z9), (0, vr 30), (1, vi x1), (2, vi x2)] [] h8 0
        refine r_aload_n 1 C dX6_side_51 rfl ?_
        refine r_iload_n 2 C dX6_side_52 rfl ?_
        obtain ⟨o10, v⟩ := v
        refine s_callv [x1] [] C dX6_side_53 ck_X6_173 (r := 30) (fY := 0) (nY := 0) rfl rfl (by decide) (by decide) (Nat.le_of_ble_eq_true rfl) rfl (MY := [46]) hXM (by decide) (by rw [hXl]; exact c_X6_findInside x1 h8 o10) (fun h11 fh11 kh11 qh11 => ?_)
        have v := v h11 fh11 kh11 qh11
        refine r_aload_n 1 C dX6_side_56 rfl ?_
        refine r_iload_n 2 C dX6_side_57 rfl ?_
        refine r_iload_n 3 C dX6_side_58 rfl ?_
        obtain ⟨o12, v⟩ := v
        refine s_calli0 [x1, x2] [] C dX6_side_59 ck_X6_176 (r := 30) (fY := 0) (nY := 0) rfl rfl (by decide) (by decide) (Nat.le_of_ble_eq_true rfl) rfl (by rw [hXl]; exact c_X6_countSide x1 x2 h11 o12) (fun r13 gr13 qr13 => ?_)
        have v := v r13 gr13 qr13
        exact r_ireturn C dX6_side_62 hXr (Nat.zero_le _) (by rw [hXP]; exact v)
      · have v := v.2 c5
        exact s_sub [0] rfl (B_43 _ v)
  show Wh X 0 [(0, vr 30), (1, vi a1), (2, vi a2)] [] h0 0
  have v := hmain
  unfold V_X6_side at v
  refine r_aload_n 0 C dX6_side_0 rfl ?_
  refine r_aload_n 0 C dX6_side_1 rfl ?_
  refine r_iload_n 1 C dX6_side_2 rfl ?_
  obtain ⟨o14, v⟩ := v
  refine s_calli0 [a1] [vr 30] C dX6_side_3 ck_X6_83 (r := 30) (fY := 0) (nY := 0) rfl rfl (by decide) (by decide) (Nat.le_of_ble_eq_true rfl) rfl (by rw [hXl]; exact c_X6_isEdge a1 h0 o14) (fun r15 gr15 qr15 => ?_)
  have v := v r15 gr15 qr15
  refine r_if_ne (tgt := 13) C dX6_side_6 (by decide) (fun c16 => ?_) (fun c16 => ?_)
  · have v := v.1 c16
    refine r_aload_n 0 C dX6_side_13 rfl ?_
    obtain ⟨o17, v⟩ := v
    refine s_calli [] [vr 30] C dX6_side_14 ck_X6_136 (r := 30) (fY := 3) (nY := 69) rfl rfl (by decide) (by decide) (Nat.le_of_ble_eq_true rfl) rfl (MY := [30, 37, 38, 39, 40]) hXM (by decide) (by rw [hXl]; exact c_X6_genusOf h0 o17) (fun r18 h19 fr18 kr18 gr18 qr18 => ?_)
    have v := v r18 h19 fr18 kr18 gr18 qr18
    refine r_if_eq (tgt := 24) C dX6_side_17 (by decide) (fun c20 => ?_) (fun c20 => ?_)
    · have v := v.1 c20
      refine r_iconst C dX6_side_24 ⟨by decide, by decide⟩ ?_
      exact s_sub [0, 1, 2] rfl (B_25 _ _ _ _ v)
    · have v := v.2 c20
      refine r_iconst C dX6_side_20 ⟨by decide, by decide⟩ ?_
      refine r_goto (tgt := 25) C dX6_side_21 (by decide) ?_
      exact s_sub [0, 1, 2] rfl (B_25 _ _ _ _ v)
  · have v := v.2 c16
    refine r_iconst C dX6_side_9 ⟨by decide, by decide⟩ ?_
    refine r_goto (tgt := 25) C dX6_side_10 (by decide) ?_
    exact s_sub [0, 1, 2] rfl (B_25 _ _ _ _ v)

def V_X6_best_142 (P : Int → Hp → Prop) (p_X6_genusOf : Hp → Prop) (q_X6_genusOf : Hp → Int → Hp → Prop) (p_X6_isTree : Int → Hp → Prop) (q_X6_isTree : Int → Hp → Int → Prop) (p_X6_findCycle : Int → Hp → Prop) (q_X6_findCycle : Int → Hp → Int → Hp → Prop) (p_X6_findInside : Int → Hp → Prop) (q_X6_findInside : Int → Hp → Hp → Prop) (p_X6_countSide : Int → Int → Hp → Prop) (q_X6_countSide : Int → Int → Hp → Int → Prop) (I_34 : Nat → Hp → Int → Int → Int → Int → Prop) (n_34 : Nat) (h : Hp) (x1 : Int) (x2 : Int) (x3 : Int) (x4 : Int) : Prop :=
  InR (x4 + 1) ∧ (∀ z1 : Int, z1 = x4 + 1 → (∃ n', n' < n_34 ∧ I_34 n' h x1 x2 x3 z1))
def V_X6_best_133 (P : Int → Hp → Prop) (p_X6_genusOf : Hp → Prop) (q_X6_genusOf : Hp → Int → Hp → Prop) (p_X6_isTree : Int → Hp → Prop) (q_X6_isTree : Int → Hp → Int → Prop) (p_X6_findCycle : Int → Hp → Prop) (q_X6_findCycle : Int → Hp → Int → Hp → Prop) (p_X6_findInside : Int → Hp → Prop) (q_X6_findInside : Int → Hp → Hp → Prop) (p_X6_countSide : Int → Int → Hp → Prop) (q_X6_countSide : Int → Int → Hp → Int → Prop) (I_34 : Nat → Hp → Int → Int → Int → Int → Prop) (n_34 : Nat) (h : Hp) (x4 : Int) (x5 : Int) (x8 : Int) : Prop :=
  ∀ z3 : Int, z3 = x4 → (∀ z4 : Int, z4 = x8 → (∀ z5 : Int, z5 = x5 → (V_X6_best_142 P p_X6_genusOf q_X6_genusOf p_X6_isTree q_X6_isTree p_X6_findCycle q_X6_findCycle p_X6_findInside q_X6_findInside p_X6_countSide q_X6_countSide I_34 n_34 h z3 z4 z5 x4)))
def V_X6_best_108 (P : Int → Hp → Prop) (p_X6_genusOf : Hp → Prop) (q_X6_genusOf : Hp → Int → Hp → Prop) (p_X6_isTree : Int → Hp → Prop) (q_X6_isTree : Int → Hp → Int → Prop) (p_X6_findCycle : Int → Hp → Prop) (q_X6_findCycle : Int → Hp → Int → Hp → Prop) (p_X6_findInside : Int → Hp → Prop) (q_X6_findInside : Int → Hp → Hp → Prop) (p_X6_countSide : Int → Int → Hp → Prop) (q_X6_countSide : Int → Int → Hp → Int → Prop) (I_34 : Nat → Hp → Int → Int → Int → Int → Prop) (n_34 : Nat) (h : Hp) (x1 : Int) (x2 : Int) (x3 : Int) (x4 : Int) (x5 : Int) (y0 : Int) : Prop :=
  ∀ z6 : Int, z6 = y0 → ((x1 = (-1) → V_X6_best_133 P p_X6_genusOf q_X6_genusOf p_X6_isTree q_X6_isTree p_X6_findCycle q_X6_findCycle p_X6_findInside q_X6_findInside p_X6_countSide q_X6_countSide I_34 n_34 h x4 x5 z6) ∧ (¬ x1 = (-1) → (z6 < x2 → V_X6_best_133 P p_X6_genusOf q_X6_genusOf p_X6_isTree q_X6_isTree p_X6_findCycle q_X6_findCycle p_X6_findInside q_X6_findInside p_X6_countSide q_X6_countSide I_34 n_34 h x4 x5 z6) ∧ (¬ z6 < x2 → (¬ z6 = x2 → V_X6_best_142 P p_X6_genusOf q_X6_genusOf p_X6_isTree q_X6_isTree p_X6_findCycle q_X6_findCycle p_X6_findInside q_X6_findInside p_X6_countSide q_X6_countSide I_34 n_34 h x1 x2 x3 x4) ∧ (z6 = x2 → (x3 ≤ x5 → V_X6_best_142 P p_X6_genusOf q_X6_genusOf p_X6_isTree q_X6_isTree p_X6_findCycle q_X6_findCycle p_X6_findInside q_X6_findInside p_X6_countSide q_X6_countSide I_34 n_34 h x1 x2 x3 x4) ∧ (¬ x3 ≤ x5 → V_X6_best_133 P p_X6_genusOf q_X6_genusOf p_X6_isTree q_X6_isTree p_X6_findCycle q_X6_findCycle p_X6_findInside q_X6_findInside p_X6_countSide q_X6_countSide I_34 n_34 h x4 x5 z6)))))
def V_X6_best_34 (P : Int → Hp → Prop) (p_X6_genusOf : Hp → Prop) (q_X6_genusOf : Hp → Int → Hp → Prop) (p_X6_isTree : Int → Hp → Prop) (q_X6_isTree : Int → Hp → Int → Prop) (p_X6_findCycle : Int → Hp → Prop) (q_X6_findCycle : Int → Hp → Int → Hp → Prop) (p_X6_findInside : Int → Hp → Prop) (q_X6_findInside : Int → Hp → Hp → Prop) (p_X6_countSide : Int → Int → Hp → Prop) (q_X6_countSide : Int → Int → Hp → Int → Prop) (I_34 : Nat → Hp → Int → Int → Int → Int → Prop) (n_34 : Nat) (h : Hp) (x1 : Int) (x2 : Int) (x3 : Int) (x4 : Int) : Prop :=
  ((h 30 2) ≤ x4 → P x1 h) ∧ (¬ (h 30 2) ≤ x4 → ((0 : Int) ≤ x4 ∧ (x4 : Int) < 100) ∧ ((¬ (h 33 x4) = 0 → V_X6_best_142 P p_X6_genusOf q_X6_genusOf p_X6_isTree q_X6_isTree p_X6_findCycle q_X6_findCycle p_X6_findInside q_X6_findInside p_X6_countSide q_X6_countSide I_34 n_34 h x1 x2 x3 x4) ∧ ((h 33 x4) = 0 → p_X6_isTree x4 h ∧ (∀ r15 : Int, InR r15 → q_X6_isTree x4 h r15 → ((¬ r15 = 0 → V_X6_best_142 P p_X6_genusOf q_X6_genusOf p_X6_isTree q_X6_isTree p_X6_findCycle q_X6_findCycle p_X6_findInside q_X6_findInside p_X6_countSide q_X6_countSide I_34 n_34 h x1 x2 x3 x4) ∧ (r15 = 0 → p_X6_findCycle x4 h ∧ (∀ (r18 : Int) (h19 : Hp), Fr [44, 45] h h19 → RH h19 → InR r18 → q_X6_findCycle x4 h r18 h19 → (∀ z20 : Int, z20 = r18 → (p_X6_findInside x4 h19 ∧ (∀ h22 : Hp, Fr [46] h19 h22 → RH h22 → q_X6_findInside x4 h19 h22 → (p_X6_countSide x4 1 h22 ∧ (∀ r24 : Int, InR r24 → q_X6_countSide x4 1 h22 r24 → (∀ z25 : Int, z25 = r24 → (p_X6_countSide x4 0 h22 ∧ (∀ r27 : Int, InR r27 → q_X6_countSide x4 0 h22 r27 → (∀ z28 : Int, z28 = r27 → ((z25 ≤ z28 → V_X6_best_108 P p_X6_genusOf q_X6_genusOf p_X6_isTree q_X6_isTree p_X6_findCycle q_X6_findCycle p_X6_findInside q_X6_findInside p_X6_countSide q_X6_countSide I_34 n_34 h22 x1 x2 x3 x4 z20 z28) ∧ (¬ z25 ≤ z28 → V_X6_best_108 P p_X6_genusOf q_X6_genusOf p_X6_isTree q_X6_isTree p_X6_findCycle q_X6_findCycle p_X6_findInside q_X6_findInside p_X6_countSide q_X6_countSide I_34 n_34 h22 x1 x2 x3 x4 z20 z25))))))))))))))))))
def V_X6_best_13 (P : Int → Hp → Prop) (p_X6_genusOf : Hp → Prop) (q_X6_genusOf : Hp → Int → Hp → Prop) (p_X6_isTree : Int → Hp → Prop) (q_X6_isTree : Int → Hp → Int → Prop) (p_X6_findCycle : Int → Hp → Prop) (q_X6_findCycle : Int → Hp → Int → Hp → Prop) (p_X6_findInside : Int → Hp → Prop) (q_X6_findInside : Int → Hp → Hp → Prop) (p_X6_countSide : Int → Int → Hp → Prop) (q_X6_countSide : Int → Int → Hp → Int → Prop) (I_34 : Nat → Hp → Int → Int → Int → Int → Prop) (h : Hp) (y1 : Int) : Prop :=
  ∀ h30 : Hp, h30 = hup h 30 0 y1 → (((h30 30 0) ≤ 0 → ∀ z32 : Int, z32 = (-1) → (∀ z33 : Int, z33 = 0 → (∀ z34 : Int, z34 = 0 → (∀ z35 : Int, z35 = 0 → (∃ n', I_34 n' h30 z32 z33 z34 z35))))) ∧ (¬ (h30 30 0) ≤ 0 → P 0 h30))
def V_X6_best (P : Int → Hp → Prop) (p_X6_genusOf : Hp → Prop) (q_X6_genusOf : Hp → Int → Hp → Prop) (p_X6_isTree : Int → Hp → Prop) (q_X6_isTree : Int → Hp → Int → Prop) (p_X6_findCycle : Int → Hp → Prop) (q_X6_findCycle : Int → Hp → Int → Hp → Prop) (p_X6_findInside : Int → Hp → Prop) (q_X6_findInside : Int → Hp → Hp → Prop) (p_X6_countSide : Int → Int → Hp → Prop) (q_X6_countSide : Int → Int → Hp → Int → Prop) (I_34 : Nat → Hp → Int → Int → Int → Int → Prop) (h0 : Hp) : Prop :=
  p_X6_genusOf h0 ∧ (∀ (r37 : Int) (h38 : Hp), Fr [30, 37, 38, 39, 40] h0 h38 → RH h38 → InR r37 → q_X6_genusOf h0 r37 h38 → ((¬ r37 = 0 → V_X6_best_13 P p_X6_genusOf q_X6_genusOf p_X6_isTree q_X6_isTree p_X6_findCycle q_X6_findCycle p_X6_findInside q_X6_findInside p_X6_countSide q_X6_countSide I_34 h38 1) ∧ (r37 = 0 → V_X6_best_13 P p_X6_genusOf q_X6_genusOf p_X6_isTree q_X6_isTree p_X6_findCycle q_X6_findCycle p_X6_findInside q_X6_findInside p_X6_countSide q_X6_countSide I_34 h38 0)))
set_option maxHeartbeats 4000000 in
set_option maxRecDepth 100000 in
theorem w_X6_best {l : Launch} (P : Int → Hp → Prop) (p_X6_genusOf : Hp → Prop) (q_X6_genusOf : Hp → Int → Hp → Prop) (p_X6_isTree : Int → Hp → Prop) (q_X6_isTree : Int → Hp → Int → Prop) (p_X6_findCycle : Int → Hp → Prop) (q_X6_findCycle : Int → Hp → Int → Hp → Prop) (p_X6_findInside : Int → Hp → Prop) (q_X6_findInside : Int → Hp → Hp → Prop) (p_X6_countSide : Int → Int → Hp → Prop) (q_X6_countSide : Int → Int → Hp → Int → Prop) (I_34 : Nat → Hp → Int → Int → Int → Int → Prop) (h0 : Hp)
    (c_X6_genusOf : ∀ (h : Hp), p_X6_genusOf h → Ct l yX6_genusOf cX6_genusOf 3 (some .int) 3 69 0 [vr 30] h [30, 37, 38, 39, 40] (fun r h1 => q_X6_genusOf h r h1) (fun _ => False))
    (c_X6_isTree : ∀ (b1 : Int) (h : Hp), p_X6_isTree b1 h → Ct l yX6_isTree cX6_isTree 2 (some .boolean) 0 0 0 [vr 30, vi b1] h [] (fun r _ => q_X6_isTree b1 h r) (fun _ => False))
    (c_X6_findCycle : ∀ (b1 : Int) (h : Hp), p_X6_findCycle b1 h → Ct l yX6_findCycle cX6_findCycle 7 (some .int) 2 45 0 [vr 30, vi b1] h [44, 45] (fun r h1 => q_X6_findCycle b1 h r h1) (fun _ => False))
    (c_X6_findInside : ∀ (b1 : Int) (h : Hp), p_X6_findInside b1 h → Ct l yX6_findInside cX6_findInside 4 none 0 0 0 [vr 30, vi b1] h [46] (fun _ h1 => q_X6_findInside b1 h h1) (fun _ => False))
    (c_X6_countSide : ∀ (b1 : Int) (b2 : Int) (h : Hp), p_X6_countSide b1 b2 h → Ct l yX6_countSide cX6_countSide 9 (some .int) 0 0 0 [vr 30, vi b1, vi b2] h [] (fun r _ => q_X6_countSide b1 b2 h r) (fun _ => False))
    (o_34 : ∀ (n_34 : Nat) (h : Hp) (x1 : Int) (x2 : Int) (x3 : Int) (x4 : Int), RH h → Fr [30, 37, 38, 39, 40, 44, 45, 46] h0 h → InR x1 → InR x2 → InR x3 → InR x4 → I_34 n_34 h x1 x2 x3 x4 → V_X6_best_34 P p_X6_genusOf q_X6_genusOf p_X6_isTree q_X6_isTree p_X6_findCycle q_X6_findCycle p_X6_findInside q_X6_findInside p_X6_countSide q_X6_countSide I_34 n_34 h x1 x2 x3 x4)
    (o : RH h0 → V_X6_best P p_X6_genusOf q_X6_genusOf p_X6_isTree q_X6_isTree p_X6_findCycle q_X6_findCycle p_X6_findInside q_X6_findInside p_X6_countSide q_X6_countSide I_34 h0) :
    Ct l yX6_best cX6_best 9 (some .int) 4 91 0 [vr 30] h0 [30, 37, 38, 39, 40, 44, 45, 46] P (fun _ => False) := by
  refine Ct.of (own := RX6) (by decide) rfl (Nat.le_of_ble_eq_true rfl) ?_
  intro X C hXl hXM hXh hXP hXX hXc hXr hav hR0
  have hmain : V_X6_best P p_X6_genusOf q_X6_genusOf p_X6_isTree q_X6_isTree p_X6_findCycle q_X6_findCycle p_X6_findInside q_X6_findInside p_X6_countSide q_X6_countSide I_34 h0 := o hR0 
  have B_34 : ∀ (n_34 : Nat) (h : Hp) (x1 : Int) (x2 : Int) (x3 : Int) (x4 : Int), I_34 n_34 h x1 x2 x3 x4 → Wh X 34 [(0, vr 30), (1, vi x1), (2, vi x2), (3, vi x3), (4, vi x4)] [] h 0 := by
    intro n_34
    induction n_34 using Nat.strongRecOn with
    | _ n_34 ih_34 =>
      intro h x1 x2 x3 x4 hI
      refine s_use fun hR hF hL => ?_
      have v := o_34 n_34 h x1 x2 x3 x4 hR (by rw [hXM, hXh] at hF; exact hF) (hL (1, vi x1) (by simp)) (hL (2, vi x2) (by simp)) (hL (3, vi x3) (by simp)) (hL (4, vi x4) (by simp)) hI
      unfold V_X6_best_34 at v
      have B_142 : ∀ (h : Hp) (x1 : Int) (x2 : Int) (x3 : Int) (x4 : Int), V_X6_best_142 P p_X6_genusOf q_X6_genusOf p_X6_isTree q_X6_isTree p_X6_findCycle q_X6_findCycle p_X6_findInside q_X6_findInside p_X6_countSide q_X6_countSide I_34 n_34 h x1 x2 x3 x4 → Wh X 142 [(0, vr 30), (1, vi x1), (2, vi x2), (3, vi x3), (4, vi x4)] [] h 0 := by
        intro h x1 x2 x3 x4 v
        unfold V_X6_best_142 at v
        obtain ⟨o2, v⟩ := v
        refine s_iinc 4 C dX6_best_142 rfl (by decide) o2 (fun z1 ez1 => ?_)
        have v := v z1 ez1
        show Wh X 145 [(4, vi z1), (0, vr 30), (1, vi x1), (2, vi x2), (3, vi x3)] [] h 0
        refine r_goto (tgt := 34) C dX6_best_145 (by decide) ?_
        obtain ⟨n', hn', hI'⟩ := v
        exact s_sub [1, 2, 3, 4, 0] rfl (ih_34 n' hn' _ _ _ _ _ hI')
      have B_133 : ∀ (h : Hp) (x4 : Int) (x5 : Int) (x8 : Int), V_X6_best_133 P p_X6_genusOf q_X6_genusOf p_X6_isTree q_X6_isTree p_X6_findCycle q_X6_findCycle p_X6_findInside q_X6_findInside p_X6_countSide q_X6_countSide I_34 n_34 h x4 x5 x8 → Wh X 133 [(0, vr 30), (4, vi x4), (5, vi x5), (8, vi x8)] [] h 0 := by
        intro h x4 x5 x8 v
        unfold V_X6_best_133 at v
        refine r_iload 1 C dX6_best_133 rfl ?_
        refine s_istore_n C dX6_best_135 (by decide) (fun z3 ez3 => ?_)
        have v := v z3 ez3
        show Wh X 136 [(1, vi z3), (0, vr 30), (4, vi x4), (5, vi x5), (8, vi x8)] [] h 0
        refine r_iload 4 C dX6_best_136 rfl ?_
        refine s_istore_n C dX6_best_138 (by decide) (fun z4 ez4 => ?_)
        have v := v z4 ez4
        show Wh X 139 [(2, vi z4), (1, vi z3), (0, vr 30), (4, vi x4), (5, vi x5), (8, vi x8)] [] h 0
        refine r_iload 4 C dX6_best_139 rfl ?_
        refine s_istore_n C dX6_best_141 (by decide) (fun z5 ez5 => ?_)
        have v := v z5 ez5
        show Wh X 142 [(3, vi z5), (2, vi z4), (1, vi z3), (0, vr 30), (4, vi x4), (5, vi x5), (8, vi x8)] [] h 0
        exact s_sub [3, 2, 1, 0, 4] rfl (B_142 _ _ _ _ _ v)
      have B_108 : ∀ (h : Hp) (x1 : Int) (x2 : Int) (x3 : Int) (x4 : Int) (x5 : Int) (y0 : Int), V_X6_best_108 P p_X6_genusOf q_X6_genusOf p_X6_isTree q_X6_isTree p_X6_findCycle q_X6_findCycle p_X6_findInside q_X6_findInside p_X6_countSide q_X6_countSide I_34 n_34 h x1 x2 x3 x4 x5 y0 → Wh X 108 [(0, vr 30), (1, vi x1), (2, vi x2), (3, vi x3), (4, vi x4), (5, vi x5)] [vi y0] h 0 := by
        intro h x1 x2 x3 x4 x5 y0 v
        unfold V_X6_best_108 at v
        refine s_istore C dX6_best_108 (by decide) (fun z6 ez6 => ?_)
        have v := v z6 ez6
        show Wh X 110 [(8, vi z6), (0, vr 30), (1, vi x1), (2, vi x2), (3, vi x3), (4, vi x4), (5, vi x5)] [] h 0
        refine r_iload_n 2 C dX6_best_110 rfl ?_
        refine r_iconst C dX6_best_111 ⟨by decide, by decide⟩ ?_
        refine r_icmp_eq (tgt := 133) C dX6_best_112 (by decide) (fun c7 => ?_) (fun c7 => ?_)
        · have v := v.1 c7
          exact s_sub [1, 5, 6, 0] rfl (B_133 _ _ _ _ v)
        · have v := v.2 c7
          refine r_iload 0 C dX6_best_115 rfl ?_
          refine r_iload_n 3 C dX6_best_117 rfl ?_
          refine r_icmp_lt (tgt := 133) C dX6_best_118 (by decide) (fun c8 => ?_) (fun c8 => ?_)
          · have v := v.1 c8
            exact s_sub [1, 5, 6, 0] rfl (B_133 _ _ _ _ v)
          · have v := v.2 c8
            refine r_iload 0 C dX6_best_121 rfl ?_
            refine r_iload_n 3 C dX6_best_123 rfl ?_
            refine r_icmp_ne (tgt := 142) C dX6_best_124 (by decide) (fun c9 => ?_) (fun c9 => ?_)
            · have v := v.1 c9
              exact s_sub [1, 2, 3, 4, 5] rfl (B_142 _ _ _ _ _ v)
            · have v := v.2 c9
              refine r_iload 6 C dX6_best_127 rfl ?_
              refine r_iload_n 4 C dX6_best_129 rfl ?_
              refine r_icmp_ge (tgt := 142) C dX6_best_130 (by decide) (fun c10 => ?_) (fun c10 => ?_)
              · have v := v.1 c10
                exact s_sub [1, 2, 3, 4, 5] rfl (B_142 _ _ _ _ _ v)
              · have v := v.2 c10
                exact s_sub [1, 5, 6, 0] rfl (B_133 _ _ _ _ v)
      refine r_iload 4 C dX6_best_34 rfl ?_
      refine r_aload_n 0 C dX6_best_36 rfl ?_
      refine gf_X6_66 C dX6_best_37 ?_
      refine r_icmp_ge (tgt := 148) C dX6_best_40 (by decide) (fun c11 => ?_) (fun c11 => ?_)
      · have v := v.1 c11
        refine r_iload_n 1 C dX6_best_148 rfl ?_
        exact r_ireturn C dX6_best_149 hXr (Nat.zero_le _) (by rw [hXP]; exact v)
      · have v := v.2 c11
        refine r_aload_n 0 C dX6_best_43 rfl ?_
        refine gf_X6_16 C dX6_best_44 ?_
        refine r_iload 4 C dX6_best_47 rfl ?_
        obtain ⟨o12, v⟩ := v
        refine r_baload (r := 33) (N := 100) C dX6_best_49 rfl o12 ?_
        refine r_if_ne (tgt := 142) C dX6_best_50 (by decide) (fun c13 => ?_) (fun c13 => ?_)
        · have v := v.1 c13
          exact s_sub [0, 1, 2, 3, 4] rfl (B_142 _ _ _ _ _ v)
        · have v := v.2 c13
          refine r_aload_n 0 C dX6_best_53 rfl ?_
          refine r_iload 4 C dX6_best_54 rfl ?_
          obtain ⟨o14, v⟩ := v
          refine s_calli0 [x4] [] C dX6_best_56 ck_X6_167 (r := 30) (fY := 0) (nY := 0) rfl rfl (by decide) (by decide) (Nat.le_of_ble_eq_true rfl) rfl (by rw [hXl]; exact c_X6_isTree x4 h o14) (fun r15 gr15 qr15 => ?_)
          have v := v r15 gr15 qr15
          refine r_if_ne (tgt := 142) C dX6_best_59 (by decide) (fun c16 => ?_) (fun c16 => ?_)
          · have v := v.1 c16
            exact s_sub [0, 1, 2, 3, 4] rfl (B_142 _ _ _ _ _ v)
          · have v := v.2 c16
            refine r_aload_n 0 C dX6_best_62 rfl ?_
            refine r_iload 4 C dX6_best_63 rfl ?_
            obtain ⟨o17, v⟩ := v
            refine s_calli [x4] [] C dX6_best_65 ck_X6_170 (r := 30) (fY := 2) (nY := 45) rfl rfl (by decide) (by decide) (Nat.le_of_ble_eq_true rfl) rfl (MY := [44, 45]) hXM (by decide) (by rw [hXl]; exact c_X6_findCycle x4 h o17) (fun r18 h19 fr18 kr18 gr18 qr18 => ?_)
            have v := v r18 h19 fr18 kr18 gr18 qr18
            refine s_istore C dX6_best_68 (by decide) (fun z20 ez20 => ?_)
            have v := v z20 ez20
            show Wh X 70 [(5, vi z20), (0, vr 30), (1, vi x1), (2, vi x2), (3, vi x3), (4, vi x4)] [] h19 0
            refine r_aload_n 1 C dX6_best_70 rfl ?_
            refine r_iload 5 C dX6_best_71 rfl ?_
            obtain ⟨o21, v⟩ := v
            refine s_callv [x4] [] C dX6_best_73 ck_X6_173 (r := 30) (fY := 0) (nY := 0) rfl rfl (by decide) (by decide) (Nat.le_of_ble_eq_true rfl) rfl (MY := [46]) hXM (by decide) (by rw [hXl]; exact c_X6_findInside x4 h19 o21) (fun h22 fh22 kh22 qh22 => ?_)
            have v := v h22 fh22 kh22 qh22
            refine r_aload_n 1 C dX6_best_76 rfl ?_
            refine r_iload 5 C dX6_best_77 rfl ?_
            refine r_iconst C dX6_best_79 ⟨by decide, by decide⟩ ?_
            obtain ⟨o23, v⟩ := v
            refine s_calli0 [x4, 1] [] C dX6_best_80 ck_X6_176 (r := 30) (fY := 0) (nY := 0) rfl rfl (by decide) (by decide) (Nat.le_of_ble_eq_true rfl) rfl (by rw [hXl]; exact c_X6_countSide x4 1 h22 o23) (fun r24 gr24 qr24 => ?_)
            have v := v r24 gr24 qr24
            refine s_istore C dX6_best_83 (by decide) (fun z25 ez25 => ?_)
            have v := v z25 ez25
            show Wh X 85 [(6, vi z25), (5, vi z20), (0, vr 30), (1, vi x1), (2, vi x2), (3, vi x3), (4, vi x4)] [] h22 0
            refine r_aload_n 2 C dX6_best_85 rfl ?_
            refine r_iload 6 C dX6_best_86 rfl ?_
            refine r_iconst C dX6_best_88 ⟨by decide, by decide⟩ ?_
            obtain ⟨o26, v⟩ := v
            refine s_calli0 [x4, 0] [] C dX6_best_89 ck_X6_176 (r := 30) (fY := 0) (nY := 0) rfl rfl (by decide) (by decide) (Nat.le_of_ble_eq_true rfl) rfl (by rw [hXl]; exact c_X6_countSide x4 0 h22 o26) (fun r27 gr27 qr27 => ?_)
            have v := v r27 gr27 qr27
            refine s_istore C dX6_best_92 (by decide) (fun z28 ez28 => ?_)
            have v := v z28 ez28
            show Wh X 94 [(7, vi z28), (6, vi z25), (5, vi z20), (0, vr 30), (1, vi x1), (2, vi x2), (3, vi x3), (4, vi x4)] [] h22 0
            refine r_iload 1 C dX6_best_94 rfl ?_
            refine r_iload 0 C dX6_best_96 rfl ?_
            refine r_icmp_le (tgt := 106) C dX6_best_98 (by decide) (fun c29 => ?_) (fun c29 => ?_)
            · have v := v.1 c29
              refine r_iload 0 C dX6_best_106 rfl ?_
              exact s_sub [3, 4, 5, 6, 7, 2] rfl (B_108 _ _ _ _ _ _ _ v)
            · have v := v.2 c29
              refine r_iload 1 C dX6_best_101 rfl ?_
              refine r_goto (tgt := 108) C dX6_best_103 (by decide) ?_
              exact s_sub [3, 4, 5, 6, 7, 2] rfl (B_108 _ _ _ _ _ _ _ v)
  have B_13 : ∀ (h : Hp) (y1 : Int), V_X6_best_13 P p_X6_genusOf q_X6_genusOf p_X6_isTree q_X6_isTree p_X6_findCycle q_X6_findCycle p_X6_findInside q_X6_findInside p_X6_countSide q_X6_countSide I_34 h y1 → Wh X 13 [(0, vr 30)] [vi y1, vr 30] h 0 := by
    intro h y1 v
    unfold V_X6_best_13 at v
    refine pf_X6_59 C dX6_best_13 hXM (by decide) (fun h30 eh30 => ?_)
    have v := v h30 eh30
    refine r_aload_n 0 C dX6_best_16 rfl ?_
    refine gf_X6_59 C dX6_best_17 ?_
    refine r_if_le (tgt := 25) C dX6_best_20 (by decide) (fun c31 => ?_) (fun c31 => ?_)
    · have v := v.1 c31
      refine r_iconst C dX6_best_25 ⟨by decide, by decide⟩ ?_
      refine s_istore_n C dX6_best_26 (by decide) (fun z32 ez32 => ?_)
      have v := v z32 ez32
      show Wh X 27 [(1, vi z32), (0, vr 30)] [] h30 0
      refine r_iconst C dX6_best_27 ⟨by decide, by decide⟩ ?_
      refine s_istore_n C dX6_best_28 (by decide) (fun z33 ez33 => ?_)
      have v := v z33 ez33
      show Wh X 29 [(2, vi z33), (1, vi z32), (0, vr 30)] [] h30 0
      refine r_iconst C dX6_best_29 ⟨by decide, by decide⟩ ?_
      refine s_istore_n C dX6_best_30 (by decide) (fun z34 ez34 => ?_)
      have v := v z34 ez34
      show Wh X 31 [(3, vi z34), (2, vi z33), (1, vi z32), (0, vr 30)] [] h30 0
      refine r_iconst C dX6_best_31 ⟨by decide, by decide⟩ ?_
      refine s_istore C dX6_best_32 (by decide) (fun z35 ez35 => ?_)
      have v := v z35 ez35
      show Wh X 34 [(4, vi z35), (3, vi z34), (2, vi z33), (1, vi z32), (0, vr 30)] [] h30 0
      obtain ⟨n', hI'⟩ := v
      exact s_sub [4, 3, 2, 1, 0] rfl (B_34 n' _ _ _ _ _ hI')
    · have v := v.2 c31
      refine r_iconst C dX6_best_23 ⟨by decide, by decide⟩ ?_
      exact r_ireturn C dX6_best_24 hXr (Nat.zero_le _) (by rw [hXP]; exact v)
  show Wh X 0 [(0, vr 30)] [] h0 0
  have v := hmain
  unfold V_X6_best at v
  refine r_aload_n 0 C dX6_best_0 rfl ?_
  refine r_aload_n 0 C dX6_best_1 rfl ?_
  obtain ⟨o36, v⟩ := v
  refine s_calli [] [vr 30] C dX6_best_2 ck_X6_136 (r := 30) (fY := 3) (nY := 69) rfl rfl (by decide) (by decide) (Nat.le_of_ble_eq_true rfl) rfl (MY := [30, 37, 38, 39, 40]) hXM (by decide) (by rw [hXl]; exact c_X6_genusOf h0 o36) (fun r37 h38 fr37 kr37 gr37 qr37 => ?_)
  have v := v r37 h38 fr37 kr37 gr37 qr37
  refine r_if_ne (tgt := 12) C dX6_best_5 (by decide) (fun c39 => ?_) (fun c39 => ?_)
  · have v := v.1 c39
    refine r_iconst C dX6_best_12 ⟨by decide, by decide⟩ ?_
    exact s_sub [0] rfl (B_13 _ _ v)
  · have v := v.2 c39
    refine r_iconst C dX6_best_8 ⟨by decide, by decide⟩ ?_
    refine r_goto (tgt := 13) C dX6_best_9 (by decide) ?_
    exact s_sub [0] rfl (B_13 _ _ v)

def V_X6_told_61 (P : Int → Hp → Prop) (p_X6_genusOf : Hp → Prop) (q_X6_genusOf : Hp → Int → Hp → Prop) (p_X6_colourCount : Hp → Prop) (q_X6_colourCount : Hp → Int → Prop) (h : Hp) (y0 : Int) : Prop :=
  P y0 h
def V_X6_told (P : Int → Hp → Prop) (p_X6_genusOf : Hp → Prop) (q_X6_genusOf : Hp → Int → Hp → Prop) (p_X6_colourCount : Hp → Prop) (q_X6_colourCount : Hp → Int → Prop) (h0 : Hp) (a1 : Int) : Prop :=
  ∀ h1 : Hp, h1 = hup h0 30 0 0 → ((¬ a1 = 0 → (¬ a1 = 1 → (¬ a1 = 2 → (¬ a1 = 3 → V_X6_told_61 P p_X6_genusOf q_X6_genusOf p_X6_colourCount q_X6_colourCount h1 (-1)) ∧ (a1 = 3 → p_X6_colourCount h1 ∧ (∀ r7 : Int, InR r7 → q_X6_colourCount h1 r7 → (V_X6_told_61 P p_X6_genusOf q_X6_genusOf p_X6_colourCount q_X6_colourCount h1 r7)))) ∧ (a1 = 2 → p_X6_genusOf h1 ∧ (∀ (r9 : Int) (h10 : Hp), Fr [30, 37, 38, 39, 40] h1 h10 → RH h10 → InR r9 → q_X6_genusOf h1 r9 h10 → ((¬ r9 = 0 → V_X6_told_61 P p_X6_genusOf q_X6_genusOf p_X6_colourCount q_X6_colourCount h10 0) ∧ (r9 = 0 → V_X6_told_61 P p_X6_genusOf q_X6_genusOf p_X6_colourCount q_X6_colourCount h10 1))))) ∧ (a1 = 1 → V_X6_told_61 P p_X6_genusOf q_X6_genusOf p_X6_colourCount q_X6_colourCount h1 (h1 30 3))) ∧ (a1 = 0 → V_X6_told_61 P p_X6_genusOf q_X6_genusOf p_X6_colourCount q_X6_colourCount h1 (h1 30 1)))
set_option maxHeartbeats 4000000 in
set_option maxRecDepth 100000 in
theorem w_X6_told {l : Launch} (P : Int → Hp → Prop) (p_X6_genusOf : Hp → Prop) (q_X6_genusOf : Hp → Int → Hp → Prop) (p_X6_colourCount : Hp → Prop) (q_X6_colourCount : Hp → Int → Prop) (h0 : Hp) (a1 : Int)
    (c_X6_genusOf : ∀ (h : Hp), p_X6_genusOf h → Ct l yX6_genusOf cX6_genusOf 3 (some .int) 3 69 0 [vr 30] h [30, 37, 38, 39, 40] (fun r h1 => q_X6_genusOf h r h1) (fun _ => False))
    (c_X6_colourCount : ∀ (h : Hp), p_X6_colourCount h → Ct l yX6_colourCount cX6_colourCount 5 (some .int) 0 0 0 [vr 30] h [] (fun r _ => q_X6_colourCount h r) (fun _ => False))
    (o : RH h0 → InR a1 → V_X6_told P p_X6_genusOf q_X6_genusOf p_X6_colourCount q_X6_colourCount h0 a1) :
    Ct l yX6_told cX6_told 2 (some .int) 4 91 0 [vr 30, vi a1] h0 [30, 37, 38, 39, 40] P (fun _ => False) := by
  refine Ct.of (own := RX6) (by decide) rfl (Nat.le_of_ble_eq_true rfl) ?_
  intro X C hXl hXM hXh hXP hXX hXc hXr hav hR0
  have hmain : V_X6_told P p_X6_genusOf q_X6_genusOf p_X6_colourCount q_X6_colourCount h0 a1 := o hR0 (hav (vi a1) (by simp))
  have B_61 : ∀ (h : Hp) (y0 : Int), V_X6_told_61 P p_X6_genusOf q_X6_genusOf p_X6_colourCount q_X6_colourCount h y0 → Wh X 61 [(0, vr 30)] [vi y0] h 0 := by
    intro h y0 v
    unfold V_X6_told_61 at v
    exact r_ireturn C dX6_told_61 hXr (Nat.zero_le _) (by rw [hXP]; exact v)
  show Wh X 0 [(0, vr 30), (1, vi a1)] [] h0 0
  have v := hmain
  unfold V_X6_told at v
  refine r_aload_n 0 C dX6_told_0 rfl ?_
  refine r_iconst C dX6_told_1 ⟨by decide, by decide⟩ ?_
  refine pf_X6_59 C dX6_told_2 hXM (by decide) (fun h1 eh1 => ?_)
  have v := v h1 eh1
  refine r_iload_n 1 C dX6_told_5 rfl ?_
  refine r_if_ne (tgt := 16) C dX6_told_6 (by decide) (fun c2 => ?_) (fun c2 => ?_)
  · have v := v.1 c2
    refine r_iload_n 1 C dX6_told_16 rfl ?_
    refine r_iconst C dX6_told_17 ⟨by decide, by decide⟩ ?_
    refine r_icmp_ne (tgt := 28) C dX6_told_18 (by decide) (fun c3 => ?_) (fun c3 => ?_)
    · have v := v.1 c3
      refine r_iload_n 1 C dX6_told_28 rfl ?_
      refine r_iconst C dX6_told_29 ⟨by decide, by decide⟩ ?_
      refine r_icmp_ne (tgt := 48) C dX6_told_30 (by decide) (fun c4 => ?_) (fun c4 => ?_)
      · have v := v.1 c4
        refine r_iload_n 1 C dX6_told_48 rfl ?_
        refine r_iconst C dX6_told_49 ⟨by decide, by decide⟩ ?_
        refine r_icmp_ne (tgt := 60) C dX6_told_50 (by decide) (fun c5 => ?_) (fun c5 => ?_)
        · have v := v.1 c5
          refine r_iconst C dX6_told_60 ⟨by decide, by decide⟩ ?_
          exact s_sub [0] rfl (B_61 _ _ v)
        · have v := v.2 c5
          refine r_aload_n 0 C dX6_told_53 rfl ?_
          obtain ⟨o6, v⟩ := v
          refine s_calli0 [] [] C dX6_told_54 ck_X6_161 (r := 30) (fY := 0) (nY := 0) rfl rfl (by decide) (by decide) (Nat.le_of_ble_eq_true rfl) rfl (by rw [hXl]; exact c_X6_colourCount h1 o6) (fun r7 gr7 qr7 => ?_)
          have v := v r7 gr7 qr7
          refine r_goto (tgt := 61) C dX6_told_57 (by decide) ?_
          exact s_sub [0] rfl (B_61 _ _ v)
      · have v := v.2 c4
        refine r_aload_n 0 C dX6_told_33 rfl ?_
        obtain ⟨o8, v⟩ := v
        refine s_calli [] [] C dX6_told_34 ck_X6_136 (r := 30) (fY := 3) (nY := 69) rfl rfl (by decide) (by decide) (Nat.le_of_ble_eq_true rfl) rfl (MY := [30, 37, 38, 39, 40]) hXM (by decide) (by rw [hXl]; exact c_X6_genusOf h1 o8) (fun r9 h10 fr9 kr9 gr9 qr9 => ?_)
        have v := v r9 h10 fr9 kr9 gr9 qr9
        refine r_if_ne (tgt := 44) C dX6_told_37 (by decide) (fun c11 => ?_) (fun c11 => ?_)
        · have v := v.1 c11
          refine r_iconst C dX6_told_44 ⟨by decide, by decide⟩ ?_
          refine r_goto (tgt := 61) C dX6_told_45 (by decide) ?_
          exact s_sub [0] rfl (B_61 _ _ v)
        · have v := v.2 c11
          refine r_iconst C dX6_told_40 ⟨by decide, by decide⟩ ?_
          refine r_goto (tgt := 61) C dX6_told_41 (by decide) ?_
          exact s_sub [0] rfl (B_61 _ _ v)
    · have v := v.2 c3
      refine r_aload_n 0 C dX6_told_21 rfl ?_
      refine gf_X6_97 C dX6_told_22 ?_
      refine r_goto (tgt := 61) C dX6_told_25 (by decide) ?_
      exact s_sub [0] rfl (B_61 _ _ v)
  · have v := v.2 c2
    refine r_aload_n 0 C dX6_told_9 rfl ?_
    refine gf_X6_63 C dX6_told_10 ?_
    refine r_goto (tgt := 61) C dX6_told_13 (by decide) ?_
    exact s_sub [0] rfl (B_61 _ _ v)

def V_X6_clear (P : Int → Hp → Prop) (p_X6_forget : Hp → Prop) (q_X6_forget : Hp → Hp → Prop) (h0 : Hp) : Prop :=
  ∀ h1 : Hp, h1 = hup h0 30 0 0 → (∀ h2 : Hp, h2 = hup h1 30 1 0 → (∀ h3 : Hp, h3 = hup h2 30 2 0 → (∀ h4 : Hp, h4 = hup h3 30 3 0 → (∀ h5 : Hp, h5 = hup h4 30 10 0 → (p_X6_forget h5 ∧ (∀ h7 : Hp, Fr [30, 36] h5 h7 → RH h7 → q_X6_forget h5 h7 → (P 0 h7)))))))
set_option maxHeartbeats 4000000 in
set_option maxRecDepth 100000 in
theorem w_X6_clear {l : Launch} (P : Int → Hp → Prop) (p_X6_forget : Hp → Prop) (q_X6_forget : Hp → Hp → Prop) (h0 : Hp)
    (c_X6_forget : ∀ (h : Hp), p_X6_forget h → Ct l yX6_forget cX6_forget 2 none 0 0 0 [vr 30] h [30, 36] (fun _ h1 => q_X6_forget h h1) (fun _ => False))
    (o : RH h0 → V_X6_clear P p_X6_forget q_X6_forget h0) :
    Ct l yX6_clear cX6_clear 1 none 1 21 0 [vr 30] h0 [30, 36] P (fun _ => False) := by
  refine Ct.of (own := RX6) (by decide) rfl (Nat.le_of_ble_eq_true rfl) ?_
  intro X C hXl hXM hXh hXP hXX hXc hXr hav hR0
  have hmain : V_X6_clear P p_X6_forget q_X6_forget h0 := o hR0 
  show Wh X 0 [(0, vr 30)] [] h0 0
  have v := hmain
  unfold V_X6_clear at v
  refine r_aload_n 0 C dX6_clear_0 rfl ?_
  refine r_iconst C dX6_clear_1 ⟨by decide, by decide⟩ ?_
  refine pf_X6_59 C dX6_clear_2 hXM (by decide) (fun h1 eh1 => ?_)
  have v := v h1 eh1
  refine r_aload_n 0 C dX6_clear_5 rfl ?_
  refine r_iconst C dX6_clear_6 ⟨by decide, by decide⟩ ?_
  refine pf_X6_63 C dX6_clear_7 hXM (by decide) (fun h2 eh2 => ?_)
  have v := v h2 eh2
  refine r_aload_n 0 C dX6_clear_10 rfl ?_
  refine r_iconst C dX6_clear_11 ⟨by decide, by decide⟩ ?_
  refine pf_X6_66 C dX6_clear_12 hXM (by decide) (fun h3 eh3 => ?_)
  have v := v h3 eh3
  refine r_aload_n 0 C dX6_clear_15 rfl ?_
  refine r_iconst C dX6_clear_16 ⟨by decide, by decide⟩ ?_
  refine pf_X6_97 C dX6_clear_17 hXM (by decide) (fun h4 eh4 => ?_)
  have v := v h4 eh4
  refine r_aload_n 0 C dX6_clear_20 rfl ?_
  refine r_iconst C dX6_clear_21 ⟨by decide, by decide⟩ ?_
  refine pf_X6_73 C dX6_clear_22 hXM (by decide) (fun h5 eh5 => ?_)
  have v := v h5 eh5
  refine r_aload_n 0 C dX6_clear_25 rfl ?_
  obtain ⟨o6, v⟩ := v
  refine s_callv [] [] C dX6_clear_26 ck_X6_100 (r := 30) (fY := 0) (nY := 0) rfl rfl (by decide) (by decide) (Nat.le_of_ble_eq_true rfl) rfl (MY := [30, 36]) hXM (by decide) (by rw [hXl]; exact c_X6_forget h5 o6) (fun h7 fh7 kh7 qh7 => ?_)
  have v := v h7 fh7 kh7 qh7
  exact r_return C dX6_clear_29 hXr (Nat.zero_le _) (by rw [hXP]; exact v)


/-! The edge whose cycle parts best: reference and class -/
theorem inT_gs {h h' : Hp} {R : Int → Nat → Int} (G : GI h R) (gs : Gs h h') {e : Int} (he : eOK h e) : inT h' e ↔ inT h e := by
  obtain ⟨-, hu, hv, -⟩ := edge_ok G he
  have T := (tr_gs G gs).2
  unfold inT
  rw [gs.2.1, (T _ hu).2.1, (T _ hv).2.1]
noncomputable def woF (h : Hp) (e : Int) : Int := if cntIn h e ≤ cntOut h e then cntOut h e else cntIn h e
def leF (h : Hp) (e : Int) : Int := ((cyV h e).length : Nat)
def Bet (h : Hp) (e b w s : Int) : Prop := b = -1 ∨ woF h e < w ∨ (woF h e = w ∧ leF h e < s)
def Bs (h : Hp) : Nat → Int → Int → Int → Prop
  | 0, b, w, s => b = -1 ∧ w = 0 ∧ s = 0
  | k + 1, b, w, s => ∃ b0 w0 s0, Bs h k b0 w0 s0 ∧ ((¬ (eOK h k ∧ ¬ inT h k) ∧ b = b0 ∧ w = w0 ∧ s = s0) ∨ ((eOK h k ∧ ¬ inT h k) ∧ ((Bet h k b0 w0 s0 ∧ b = k ∧ w = woF h k ∧ s = leF h k) ∨ (¬ Bet h k b0 w0 s0 ∧ b = b0 ∧ w = w0 ∧ s = s0))))
theorem Bs_uniq {h : Hp} : ∀ (k : Nat) {b w s b' w' s' : Int}, Bs h k b w s → Bs h k b' w' s' → b = b' ∧ w = w' ∧ s = s' := by
  intro k
  induction k with
  | zero => intro b w s b' w' s' x y; exact ⟨x.1.trans y.1.symm, x.2.1.trans y.2.1.symm, x.2.2.trans y.2.2.symm⟩
  | succ k ih =>
    intro b w s b' w' s' x y
    obtain ⟨b0, w0, s0, x0, x1⟩ := x
    obtain ⟨b1, w1, s1, y0, y1⟩ := y
    obtain ⟨e1, e2, e3⟩ := ih x0 y0
    subst e1 e2 e3
    rcases x1 with ⟨p, p1, p2, p3⟩ | ⟨p, p1⟩ <;> rcases y1 with ⟨q, q1, q2, q3⟩ | ⟨q, q1⟩
    · exact ⟨p1.trans q1.symm, p2.trans q2.symm, p3.trans q3.symm⟩
    · exact absurd q p
    · exact absurd p q
    · rcases p1 with ⟨z, p1, p2, p3⟩ | ⟨z, p1, p2, p3⟩ <;> rcases q1 with ⟨y, q1, q2, q3⟩ | ⟨y, q1, q2, q3⟩
      · exact ⟨p1.trans q1.symm, p2.trans q2.symm, p3.trans q3.symm⟩
      · exact absurd z y
      · exact absurd y z
      · exact ⟨p1.trans q1.symm, p2.trans q2.symm, p3.trans q3.symm⟩
theorem Bs_gs {h h' : Hp} {R : Int → Nat → Int} (G : GI h R) (gs : Gs h h') : ∀ (k : Nat) {b w s : Int}, Bs h k b w s → Bs h' k b w s := by
  intro k
  induction k with
  | zero => intro b w s x; exact x
  | succ k ih =>
    intro b w s x
    obtain ⟨b0, w0, s0, x0, x1⟩ := x
    have ek : eOK h' k ↔ eOK h k := eOK_cong gs.1 gs.2.2.2.2.1
    refine ⟨b0, w0, s0, ih x0, ?_⟩
    by_cases he : eOK h k
    · have t := inT_gs G gs he
      have w1 : woF h' k = woF h k := by unfold woF; rw [(n_gs G gs he).1, (n_gs G gs he).2]
      have l1 : leF h' k = leF h k := by unfold leF; rw [cyV_gs G gs he]
      unfold Bet
      rw [ek, t, w1, l1]
      exact x1
    · rcases x1 with ⟨p, p1⟩ | ⟨p, -⟩
      · exact Or.inl ⟨fun z => he (ek.mp z.1), p1⟩
      · exact absurd p.1 he
def q_mbest (h : Hp) (r : Int) (h' : Hp) : Prop := Keep h h' ∧ ((gnF h ≠ 0 ∧ h' 30 0 = 1) ∨ (gnF h = 0 ∧ h' 30 0 = 0 ∧ ∃ w s, Bs h (h 1 7).toNat r w s))
set_option maxHeartbeats 2000000 in
theorem ct_mbest {l : Launch} (h : Hp) (sy : Sy h) : Ct l yX6_best cX6_best 9 (some .int) 4 91 0 [vr 30] h [30, 37, 38, 39, 40, 44, 45, 46] (fun r h1 => q_mbest h r h1) (fun _ => False) := by
  obtain ⟨R, G, m⟩ := id sy
  have g2 := G.2.1
  have m2 : h 30 2 = h 1 7 := m.2.1
  refine w_X6_best _ Sy q_genusOf p_isTree q_isTree p_findCycle q_findCycle p_findInside q_findInside p_countSide q_countSide
    (fun n g x1 x2 x3 x4 => gnF h = 0 ∧ Keep h g ∧ g 30 0 = 0 ∧ MFO h g ∧ MT g ∧ ∃ k : Nat, x4 = k ∧ (k : Int) ≤ h 1 7 ∧ Bs h k x1 x2 x3 ∧ n = 100 - k) h ct_genusOf ct_isTree ct_findCycle ct_findInside ct_countSide ?_ (fun _ => ?_)
  · rintro n g x1 x2 x3 x4 - F - - - - ⟨gz, kp, k0, mf, mt, k, rfl, i1, i2, i3⟩
    have x30 : ∀ k, k < 30 → g k = h k := lt30 F (by decide)
    have gs : Gs h g := Gs.of F (by decide)
    have Sg : Sy g := Sy_keep sy F (by decide) kp
    have next : (k : Int) < h 1 7 → ∀ (g' : Hp) (b w s : Int), Keep h g' → g' 30 0 = 0 → MFO h g' → MT g' → Bs h (k + 1) b w s → V_X6_best_142 (fun r h1 => q_mbest h r h1) Sy q_genusOf p_isTree q_isTree p_findCycle q_findCycle p_findInside q_findInside p_countSide q_countSide
        (fun n g x1 x2 x3 x4 => gnF h = 0 ∧ Keep h g ∧ g 30 0 = 0 ∧ MFO h g ∧ MT g ∧ ∃ k : Nat, x4 = k ∧ (k : Int) ≤ h 1 7 ∧ Bs h k x1 x2 x3 ∧ n = 100 - k) n g' b w s k := by
      intro hk g' b w s a1 a2 a3 a4 a5
      unfold V_X6_best_142
      exact ⟨by unfold InR; omega, fun z ez => ⟨100 - (k + 1), by omega, gz, a1, a2, a3, a4, k + 1, by omega, by omega, a5, rfl⟩⟩
    unfold V_X6_best_34
    rw [kp 2 (by decide) (by decide) (by decide) (by decide), m2]
    refine ⟨fun c => ⟨kp, Or.inr ⟨gz, k0, x2, x3, ?_⟩⟩, fun c => ?_⟩
    · rw [show (h 1 7).toNat = k by omega]
      exact i2
    · obtain ⟨-, -, e33⟩ := m.2.2.2.1 k (by omega) (by omega)
      rw [F 33 (by decide), e33]
      refine ⟨by omega, fun c1 => next (by omega) g x1 x2 x3 kp k0 mf mt ⟨x1, x2, x3, i2, Or.inl ⟨fun z => ?_, rfl, rfl, rfl⟩⟩, fun c1 => ?_⟩
      · have := z.1.2
        omega
      have he : eOK h k := ⟨⟨by omega, by omega⟩, by omega⟩
      have heg : eOK g k := (eOK_cong gs.1 gs.2.2.2.2.1).mpr he
      have mfg : MFO g g := MFO_gs gs mf rfl rfl
      refine ⟨⟨Sg, mt, heg⟩, fun r15 _ q15 => ⟨fun c2 => next (by omega) g x1 x2 x3 kp k0 mf mt ⟨x1, x2, x3, i2, Or.inl ⟨fun z => z.2 ?_, rfl, rfl, rfl⟩⟩, fun c2 => ⟨⟨Sg, mt, heg⟩, fun r18 h19 f19 _ _ q19 z20 e20 => ?_⟩⟩⟩
      · rcases q15 with ⟨-, y⟩ | ⟨y, -⟩
        · exact (inT_cong x30).mp y
        · exact absurd y c2
      have nt : ¬ inT h k := by
        rcases q15 with ⟨y, -⟩ | ⟨-, y⟩
        · omega
        · exact fun z => y ((inT_cong x30).mpr z)
      have gs19 : Gs g h19 := Gs.of f19 (by decide)
      have S19 : Sy h19 := Sy_keep Sg f19 (by decide) (fun j _ _ _ _ => by rw [f19 30 (by decide)])
      have he19 : eOK h19 k := (eOK_cong (f19 1 (by decide)) (f19 9 (by decide))).mpr heg
      have mf19 : MFO h19 h19 := MFO_gs gs19 mfg (by rw [f19 30 (by decide)]) (f19 37 (by decide))
      refine ⟨⟨S19, mf19, he19⟩, fun h22 f22 _ q22 => ?_⟩
      have gs22 : Gs h19 h22 := Gs.of f22 (by decide)
      have S22 : Sy h22 := Sy_keep S19 f22 (by decide) (fun j _ _ _ _ => by rw [f22 30 (by decide)])
      have he22 : eOK h22 k := (eOK_cong (f22 1 (by decide)) (f22 9 (by decide))).mpr he19
      have mf22 : MFO h22 h22 := MFO_gs gs22 mf19 (by rw [f22 30 (by decide)]) (f22 37 (by decide))
      have y19 : ∀ k, k < 30 → h19 k = g k := lt30 f19 (by decide)
      have y22 : ∀ k, k < 30 → h22 k = h19 k := lt30 f22 (by decide)
      have mt22 : MT h22 := MT_cong (MT_cong mt y19 (f19 38 (by decide)) (f19 39 (by decide))) y22 (f22 38 (by decide)) (f22 39 (by decide))
      obtain ⟨a1, a2⟩ := cs_marks (Gs_GI gs G) heg q19 f19 q22 f22
      have gsA : Gs h h22 := gs.tr (gs19.tr gs22)
      obtain ⟨v1, v2⟩ := cs_in (Gs_GI gsA G) mt22 he22 a1 a2
      obtain ⟨n1, n2⟩ := n_gs G gsA he
      refine ⟨⟨S22, mf22, he22, Or.inr rfl⟩, fun r24 _ q24 z25 e25 => ⟨⟨S22, mf22, he22, Or.inl rfl⟩, fun r27 _ q27 z28 e28 => ?_⟩⟩
      have q24 : r24 = cntP (csP h22 k 1) (h22 1 6).toNat := q24
      have q27 : r27 = cntP (csP h22 k 0) (h22 1 6).toNat := q27
      rw [v1, n1] at q24
      rw [v2, n2] at q27
      have e20 : z20 = leF h k := by
        rw [e20, q19.2.2]
        unfold leF
        rw [(cyV_cong x30).1]
      have kp22 : Keep h h22 := fun j a b c d => by rw [f22 30 (by decide), f19 30 (by decide)]; exact kp j a b c d
      have k022 : h22 30 0 = 0 := by rw [f22 30 (by decide), f19 30 (by decide)]; exact k0
      have mf22' : MFO h h22 := MFO_gs gsA.sm mf22 rfl rfl
      have fin : ∀ z, z = woF h k → V_X6_best_108 (fun r h1 => q_mbest h r h1) Sy q_genusOf p_isTree q_isTree p_findCycle q_findCycle p_findInside q_findInside p_countSide q_countSide
          (fun n g x1 x2 x3 x4 => gnF h = 0 ∧ Keep h g ∧ g 30 0 = 0 ∧ MFO h g ∧ MT g ∧ ∃ k : Nat, x4 = k ∧ (k : Int) ≤ h 1 7 ∧ Bs h k x1 x2 x3 ∧ n = 100 - k) n h22 x1 x2 x3 k z20 z := by
        intro z ez
        have yes : Bet h k x1 x2 x3 → ∀ z6, z6 = z → V_X6_best_133 (fun r h1 => q_mbest h r h1) Sy q_genusOf p_isTree q_isTree p_findCycle q_findCycle p_findInside q_findInside p_countSide q_countSide
            (fun n g x1 x2 x3 x4 => gnF h = 0 ∧ Keep h g ∧ g 30 0 = 0 ∧ MFO h g ∧ MT g ∧ ∃ k : Nat, x4 = k ∧ (k : Int) ≤ h 1 7 ∧ Bs h k x1 x2 x3 ∧ n = 100 - k) n h22 k z20 z6 := by
          intro hb z6 e6
          unfold V_X6_best_133
          refine fun z3 e3 z4 e4 z5 e5 => next (by omega) h22 z3 z4 z5 kp22 k022 mf22' mt22 ⟨x1, x2, x3, i2, Or.inr ⟨⟨he, nt⟩, Or.inl ⟨hb, e3, ?_, ?_⟩⟩⟩
          · rw [e4, e6, ez]
          · rw [e5, e20]
        have no : ¬ Bet h k x1 x2 x3 → V_X6_best_142 (fun r h1 => q_mbest h r h1) Sy q_genusOf p_isTree q_isTree p_findCycle q_findCycle p_findInside q_findInside p_countSide q_countSide
            (fun n g x1 x2 x3 x4 => gnF h = 0 ∧ Keep h g ∧ g 30 0 = 0 ∧ MFO h g ∧ MT g ∧ ∃ k : Nat, x4 = k ∧ (k : Int) ≤ h 1 7 ∧ Bs h k x1 x2 x3 ∧ n = 100 - k) n h22 x1 x2 x3 k := fun hb => next (by omega) h22 x1 x2 x3 kp22 k022 mf22' mt22 ⟨x1, x2, x3, i2, Or.inr ⟨⟨he, nt⟩, Or.inr ⟨hb, rfl, rfl, rfl⟩⟩⟩
        unfold V_X6_best_108
        refine fun z6 e6 => ⟨fun d => yes (Or.inl d) z6 e6, fun d => ⟨fun d1 => yes (Or.inr (Or.inl (by omega))) z6 e6, fun d1 => ⟨fun d2 => no ?_, fun d2 => ⟨fun d3 => no ?_, fun d3 => yes (Or.inr (Or.inr ⟨by omega, by omega⟩)) z6 e6⟩⟩⟩⟩
        · rintro (y | y | y)
          · exact d y
          · omega
          · omega
        · rintro (y | y | y)
          · exact d y
          · omega
          · omega
      refine ⟨fun d => fin z28 ?_, fun d => fin z25 ?_⟩
      · unfold woF
        rw [if_pos (by omega), e28, q27]
      · unfold woF
        rw [if_neg (by omega), e25, q24]
  · unfold V_X6_best
    refine ⟨sy, fun r37 h38 f38 _ _ q38 => ?_⟩
    obtain ⟨q1, q2, q3, q4, q5⟩ := q38
    unfold V_X6_best_13
    refine ⟨fun c h30 e30 => ?_, fun c h30 e30 => ?_⟩
    · have k : h30 30 0 = 1 := by rw [e30, hup_s]
      rw [k]
      exact ⟨fun z => absurd z (by decide), fun _ => ⟨q2.trans (Keep.code e30), Or.inl ⟨fun z => c (q1.trans z), k⟩⟩⟩
    · have k : h30 30 0 = 0 := by rw [e30, hup_s]
      have f30 : Fr [30, 37, 38, 39, 40] h h30 := by rw [e30]; exact f38.up (by decide)
      rw [k]
      refine ⟨fun _ z32 e32 z33 e33 z34 e34 z35 e35 => ⟨100, q1.symm.trans c, q2.trans (Keep.code e30), k, ?_, ?_, 0, e35, by omega, ⟨e32, e33, e34⟩, rfl⟩, fun z => absurd (Int.le_refl 0) z⟩
      · exact MFO_cong q4 rfl rfl rfl (by rw [e30, hup_o (fun z => by have := z.2; omega)]) (by rw [e30, hup_k (by decide)])
      · refine MT_of G (h' := h30) ⟨fun v v1 v2 => ?_, ?_⟩ (lt30 f30 (by decide))
        · rw [e30, hup_k (by decide)] at v2
          rw [e30, hup_k (by decide), hup_k (by decide)]
          exact q5.1 v v1 v2
        · rw [e30, hup_o (fun z => by have := z.2; omega)]
          exact q5.2

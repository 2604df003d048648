/-! Tree: the contracts of reach, reachNeighbours, growFrom, survey -/
def p_reach (v _ _ _ : Int) (h : Hp) : Prop := (0 ≤ v ∧ v < 30) ∧ 0 ≤ h 3 6 ∧ h 3 6 < 30
def q_reach (v p e d : Int) (h h' : Hp) : Prop := h' = reachH h v p e d
theorem ct_reach {l : Launch} (v p e d : Int) (h : Hp) (hb : p_reach v p e d h) : Ct l yX4_reach cX4_reach 5 none 0 0 0 [vr 3, vi v, vi p, vi e, vi d] h [3, 15, 16, 17, 18, 19] (fun _ h1 => q_reach v p e d h h1) (fun _ => False) := by
  obtain ⟨b1, b2⟩ := hb
  refine w_X4_reach _ h v p e d (fun _ _ _ _ _ => ?_)
  unfold V_X4_reach
  refine ⟨b1, fun h2 e2 => ⟨b1, fun h4 e4 => ⟨b1, fun h6 e6 => ⟨b1, fun h8 e8 => ?_⟩⟩⟩⟩
  have k7 : h6 3 = h 3 := by rw [e6, hup_k (by decide), e4, hup_k (by decide), e2, hup_k (by decide)]
  have k8 : h8 3 = h 3 := by rw [e8, hup_k (by decide), k7]
  rw [k8]
  refine ⟨b2, fun h10 e10 => ?_⟩
  have k10 : h10 3 = h 3 := by rw [e10, hup_k (by decide), k8]
  rw [k10]
  refine ⟨by unfold InR; omega, fun h12 e12 => ?_⟩
  show h12 = reachH h v p e d
  unfold reachH
  rw [e12, e10, e8, e6, e4, e2]
  rw [e6, e4, e2] at k7
  rw [k7]
def p_reachNb (u : Int) (h : Hp) : Prop := (∃ R, GI h R) ∧ TI h ∧ ∃ i : Nat, (i : Int) < h 3 6 ∧ h 19 i = u
def q_reachNb (u : Int) (h h' : Hp) : Prop := h' = nbH u (h 11 u).toNat h
set_option maxHeartbeats 1000000 in
theorem ct_reachNb {l : Launch} (u : Int) (h : Hp) (hb : p_reachNb u h) : Ct l yX4_reachNeighbours cX4_reachNeighbours 5 none 1 24 0 [vr 3, vi u] h [3, 15, 16, 17, 18, 19] (fun _ h1 => q_reachNb u h h1) (fun _ => False) := by
  obtain ⟨⟨R, G⟩, t, i, hi, rfl⟩ := hb
  have hu := t.2.1 i hi
  have hd := G.deg hu.1
  have g1 := G.1
  have hv := hu.1
  unfold vOK at hv
  have ok := nb_ok G t hi
  have t1 := t.1
  refine w_X4_reachNeighbours _ p_target q_target p_reach q_reach (fun n g x1 x2 x3 => x1 = h 19 i ∧ ∃ k : Nat, x3 = k ∧ (k : Int) ≤ h 11 (h 19 i) ∧ ((k : Int) < h 11 (h 19 i) → x2 = sk h (h 19 i) k) ∧ g = nbH (h 19 i) k h ∧ n = 30 - k) h (h 19 i) ct_target ct_reach ?_ (fun _ _ => ?_)
  · rintro n g x1 x2 x3 - F - - - ⟨rfl, k, rfl, i1, i2, rfl, i3⟩
    have gs : Gs h (nbH (h 19 i) k h) := Gs.T F
    obtain ⟨a, b⟩ := ok k i1
    have next : (k : Int) < h 11 (h 19 i) → ∀ g', g' = nbH (h 19 i) (k + 1) h → V_X4_reachNeighbours_64 (fun _ h1 => q_reachNb (h 19 i) h h1) p_target q_target p_reach q_reach (fun n g x1 x2 x3 => x1 = h 19 i ∧ ∃ k : Nat, x3 = k ∧ (k : Int) ≤ h 11 (h 19 i) ∧ ((k : Int) < h 11 (h 19 i) → x2 = sk h (h 19 i) k) ∧ g = nbH (h 19 i) k h ∧ n = 30 - k) n g' (h 19 i) (sk h (h 19 i) k) k := by
      intro hk g' eg
      have hs := sk_S G hu.1 hk
      unfold V_X4_reachNeighbours_64
      refine ⟨Sd_lt G hs.1, fun z ez => ⟨by unfold InR; omega, fun z3 e3 => ⟨30 - (k + 1), by omega, rfl, k + 1, by omega, by omega, fun _ => ?_, eg, rfl⟩⟩⟩
      have gs' : Gs h g' := by rw [eg]; exact Gs.T (Fr_nb (k + 1))
      rw [ez, gs'.2.2.1]
      rfl
    unfold V_X4_reachNeighbours_12
    rw [gs.2.2.2.2.2.2]
    refine ⟨by omega, fun c => ?_, fun c => ?_⟩
    · show nbH (h 19 i) k h = nbH (h 19 i) (h 11 (h 19 i)).toNat h
      congr 1
      omega
    · have i2 := i2 (by omega)
      subst i2
      have hs := sk_S G hu.1 (k := k) (by omega)
      have hlt := Sd_lt G hs.1
      have hw := (G.2.2.2.1 _ (Sd_tw hs.1)).1
      refine ⟨hlt, fun r _ q z ez => ?_⟩
      have q : r = nbH (h 19 i) k h 6 (tw (sk h (h 19 i) k)) := q
      rw [gs.2.1] at q
      have ez : z = h 6 (tw (sk h (h 19 i) k)) := by rw [ez, q]
      subst ez
      have hlev : nbH (h 19 i) k h 17 (h 19 i) = h 17 (h 19 i) := (b.2.2 _ (by rw [hu.2.1]; omega)).1
      rw [tdiv2 hlt.1]
      refine ⟨by omega, fun c1 => next (by omega) _ ?_, fun c1 => ⟨⟨by omega, by unfold InR; omega⟩, by omega, ?_, ⟨by omega, a.1.1, TI_lt (Gs_GI gs G) a (by unfold vOK; rw [gs.1]; exact hw) c1⟩, fun h16 _ _ q16 => next (by omega) _ ?_⟩⟩
      · show _ = (if _ then _ else _)
        rw [if_neg c1]
      · have t36 := TI_lt (Gs_GI gs G) a (by unfold vOK; rw [gs.1]; exact hw) c1
        have := b.1
        have := hu.2.2.2
        rw [hlev]
        unfold InR
        omega
      · have q16 : h16 = reachH _ _ _ _ _ := q16
        rw [q16]
        show _ = (if _ then _ else _)
        rw [if_pos c1]
  · unfold V_X4_reachNeighbours
    exact ⟨by omega, fun z1 e1 z2 e2 => ⟨30, rfl, 0, e2, by omega, fun _ => e1, rfl, rfl⟩⟩
theorem TI_le {h : Hp} {R : Int → Nat → Int} (G : GI h R) (t : TI h) : h 3 6 ≤ 30 := by
  obtain ⟨t1, t2, t3⟩ := t
  have g1 := G.1
  have := inj_le (h 1 6).toNat (fun i => h 19 i) (h 3 6).toNat (fun i hi => by
    have := (t2 i (by omega)).1
    unfold vOK at this
    show 0 ≤ h 19 i ∧ h 19 i < _
    omega) (fun i j hi hj e => t3 i j (by omega) (by omega) e)
  omega
theorem TI_start {h : Hp} {root : Int} (hr : vOK h root) (hn : h 18 root = -1) (hc : 0 ≤ h 3 7) : TI (reachH (hup h 3 6 0) root (-1) (-1) 0) := by
  refine TI_reach ⟨⟨by rw [hup_s]; omega, by rw [hup_o (fun z => by have := z.2; omega)]; exact hc⟩, fun i hi => by rw [hup_s] at hi; omega, fun i j hi => by rw [hup_s] at hi; omega⟩ ?_ ?_ ⟨Int.le_refl _, by rw [hup_s]; omega⟩
  · unfold vOK
    rw [hup_k (by decide)]
    exact hr
  · rw [hup_k (by decide)]; exact hn
def p_growFrom (root : Int) (h : Hp) : Prop := (∃ R, GI h R) ∧ vOK h root ∧ h 18 root = -1 ∧ 0 ≤ h 3 7
def q_growFrom (root : Int) (h h' : Hp) : Prop := h' = growH h root
set_option maxHeartbeats 1000000 in
theorem ct_growFrom {l : Launch} (root : Int) (h : Hp) (hb : p_growFrom root h) : Ct l yX4_growFrom cX4_growFrom 3 none 2 48 0 [vr 3, vi root] h [3, 15, 16, 17, 18, 19] (fun _ h1 => q_growFrom root h h1) (fun _ => False) := by
  obtain ⟨⟨R, G⟩, hr, hn, hc⟩ := hb
  have g1 := G.1
  have hr' := hr
  unfold vOK at hr'
  refine w_X4_growFrom _ p_reach q_reach p_reachNb q_reachNb (fun n g x2 => ∃ hd : Nat, x2 = hd ∧ hd ≤ 30 ∧ TI g ∧ growL (31 - hd) hd g = growH h root ∧ n = 31 - hd) h root ct_reach ct_reachNb ?_ (fun _ _ => ?_)
  · rintro n g x2 - F - ⟨hd, rfl, i1, i2, i3, i4⟩
    have gs : Gs h g := Gs.T F
    have Gg := Gs_GI gs G
    have hle := TI_le Gg i2
    unfold V_X4_growFrom_15 V_X4_growFrom_45
    have stop : ¬ (hd : Int) < g 3 6 → g = growH h root := by
      intro hn2
      rw [← i3]
      cases hf : 31 - hd with
      | zero => rfl
      | succ f =>
        show g = (if _ then _ else _)
        rw [if_neg hn2]
    refine ⟨fun c => stop (by omega), fun c => ⟨fun c1 => stop (by omega), fun c1 => ⟨by omega, ⟨⟨R, Gg⟩, i2, hd, by omega, rfl⟩, fun h5 _ _ q5 => ⟨by unfold InR; omega, fun z ez => ⟨31 - (hd + 1), by omega, hd + 1, by omega, by omega, ?_, ?_, rfl⟩⟩⟩⟩⟩
    · have q5 : h5 = nbH (g 19 hd) (g 11 (g 19 hd)).toNat g := q5
      rw [q5]
      exact (nb_ok Gg i2 (i := hd) (by omega) _ (by have := (Gg.deg (i2.2.1 hd (by omega)).1).1; omega)).1
    · have q5 : h5 = nbH (g 19 hd) (g 11 (g 19 hd)).toNat g := q5
      rw [← i3, show 31 - hd = (31 - (hd + 1)) + 1 by omega]
      show _ = (if _ then _ else _)
      rw [if_pos (show (hd : Int) < g 3 6 by omega), ← q5]
  · unfold V_X4_growFrom
    intro h8 e8
    refine ⟨⟨by omega, by rw [e8, hup_s]; omega, by rw [e8, hup_s]; omega⟩, fun h10 _ _ q10 z ez => ⟨31, 0, ez, by omega, ?_, ?_, rfl⟩⟩
    · have q10 : h10 = reachH h8 root (-1) (-1) 0 := q10
      rw [q10, e8]
      exact TI_start hr hn hc
    · have q10 : h10 = reachH h8 root (-1) (-1) 0 := q10
      rw [q10, e8]
      rfl
theorem Fr_growH {h : Hp} {root : Int} : Fr [3, 15, 16, 17, 18, 19] h (growH h root) := by
  unfold growH
  exact ((Fr.rf.up (by decide) : Fr [3, 15, 16, 17, 18, 19] h (hup h 3 6 0)).trans Fr_reach (fun _ z => z)).trans (Fr_grow 31 0) (fun _ z => z)
theorem growH_37 {h : Hp} {root : Int} : growH h root 3 7 = h 3 7 := by
  unfold growH
  rw [grow_37, reach_37, hup_o (fun z => by have := z.2; omega)]
theorem surv_ok : ∀ (k : Nat) {h : Hp}, h 3 7 = 0 → Fr [3, 15, 16, 17, 18, 19] h (survL k h) ∧ 0 ≤ survL k h 3 7 ∧ survL k h 3 7 ≤ k := by
  intro k
  induction k with
  | zero => intro h e; exact ⟨Fr.rf, by show 0 ≤ h 3 7; omega, by show h 3 7 ≤ _; omega⟩
  | succ k ih =>
    intro h e
    obtain ⟨a, b, c⟩ := ih e
    unfold survL
    split
    · refine ⟨(a.trans Fr_growH (fun _ z => z)).up (by decide), ?_, ?_⟩
      · rw [hup_s, growH_37]; omega
      · rw [hup_s, growH_37]; omega
    · exact ⟨a, b, by omega⟩
theorem initT_ok : ∀ (k : Nat) {h : Hp}, Fr [3, 15, 16, 17, 18, 19] h (initT k h) ∧ (∀ v : Int, 0 ≤ v → v < k → initT k h 18 v = -1) := by
  intro k
  induction k with
  | zero => intro h; exact ⟨Fr.rf, fun v h1 h2 => by omega⟩
  | succ k ih =>
    intro h
    obtain ⟨a, b⟩ := ih (h := h)
    unfold initT
    refine ⟨a.up (by decide), fun v h1 h2 => ?_⟩
    by_cases w : v = k
    · rw [w, hup_s]
    · rw [hup_o (fun z => w z.2)]
      exact b v h1 (by omega)
def p_tsurvey (h : Hp) : Prop := ∃ R, GI h R
def q_tsurvey (h h' : Hp) : Prop := h' = survH h
set_option maxHeartbeats 1000000 in
theorem ct_tsurvey {l : Launch} (h : Hp) (hb : p_tsurvey h) : Ct l yX4_survey cX4_survey 2 none 3 70 0 [vr 3] h [3, 15, 16, 17, 18, 19] (fun _ h1 => q_tsurvey h h1) (fun _ => False) := by
  obtain ⟨R, G⟩ := hb
  have g1 := G.1
  refine w_X4_survey _ p_growFrom q_growFrom (fun n g x1 => ∃ k : Nat, x1 = k ∧ (k : Int) ≤ h 1 6 ∧ g = initT k h ∧ n = 30 - k) (fun n g x1 => ∃ k : Nat, x1 = k ∧ (k : Int) ≤ h 1 6 ∧ g = survL k (hup (initT (h 1 6).toNat h) 3 7 0) ∧ n = 30 - k) h ct_growFrom ?_ ?_ (fun _ => ?_)
  · rintro n g x1 - F - ⟨k, rfl, i1, rfl, i3⟩
    unfold V_X4_survey_2
    rw [F 1 (by decide)]
    refine ⟨fun c h11 e11 z ez => ⟨30, 0, ez, by omega, ?_, rfl⟩, fun c => ⟨by omega, fun h14 e14 => ⟨by unfold InR; omega, fun z ez => ⟨30 - (k + 1), by omega, k + 1, by omega, by omega, e14, rfl⟩⟩⟩⟩
    rw [e11, show k = (h 1 6).toNat by omega]
    rfl
  · rintro n g x1 - F - ⟨k, rfl, i1, rfl, i3⟩
    obtain ⟨a, b, c⟩ := surv_ok k (h := hup (initT (h 1 6).toNat h) 3 7 0) (by rw [hup_s])
    have gs : Gs h (survL k (hup (initT (h 1 6).toNat h) 3 7 0)) := Gs.T F
    have Gg := Gs_GI gs G
    unfold V_X4_survey_33 V_X4_survey_69
    rw [gs.1]
    refine ⟨fun c1 => ?_, fun c1 => ⟨by omega, fun c2 => ⟨by unfold InR; omega, fun z ez => ⟨30 - (k + 1), by omega, k + 1, by omega, by omega, ?_, rfl⟩⟩, fun c2 => ⟨⟨⟨R, Gg⟩, ⟨by omega, by rw [gs.1]; omega⟩, c2, b⟩, fun h7 _ _ q7 => ?_⟩⟩⟩
    · show _ = survH h
      unfold survH
      rw [show k = (h 1 6).toNat by omega]
    · show _ = (if _ then _ else _)
      rw [if_neg c2]
    · have q7 : h7 = growH _ k := q7
      rw [q7, growH_37]
      refine ⟨by unfold InR; omega, fun h9 e9 => ⟨by unfold InR; omega, fun z ez => ⟨30 - (k + 1), by omega, k + 1, by omega, by omega, ?_, rfl⟩⟩⟩
      rw [e9]
      show _ = (if _ then _ else _)
      rw [if_pos c2, growH_37]
  · unfold V_X4_survey
    exact fun z ez => ⟨30, 0, ez, by omega, rfl, rfl⟩

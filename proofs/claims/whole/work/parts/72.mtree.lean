/-! The reference's tree: the same walk, held against the class's as a picture -/
def mk (h : Hp) : Hp := fun k j => if k < 30 then h k j else 0
theorem mk_k {h : Hp} {k : Nat} (hk : k < 30) : mk h k = h k := by
  funext j
  exact if_pos hk
theorem mk_hup {h : Hp} {k : Nat} {j v : Int} (hk : k < 30) : mk (hup h k j v) = hup (mk h) k j v := by
  funext a b
  unfold mk hup
  by_cases w : a = k ∧ b = j
  · rw [if_pos w, if_pos w, if_pos (by omega)]
  · rw [if_neg w, if_neg w]
theorem mk_reach {h : Hp} {v p e d : Int} : mk (reachH h v p e d) = reachH (mk h) v p e d := by
  unfold reachH
  rw [mk_hup (by decide), mk_hup (by decide), mk_hup (by decide), mk_hup (by decide), mk_hup (by decide), mk_hup (by decide), mk_k (h := h) (k := 3) (by decide)]
theorem mk_nb {u : Int} : ∀ (k : Nat) {h : Hp}, mk (nbH u k h) = nbH u k (mk h) := by
  intro k
  induction k with
  | zero => intro h; rfl
  | succ k ih =>
    intro h
    have es : sk (mk h) u k = sk h u k := by unfold sk; rw [mk_k (by decide), mk_k (by decide)]
    have e18 : nbH u k (mk h) 18 = nbH u k h 18 := by rw [← ih, mk_k (by decide)]
    have e17 : nbH u k (mk h) 17 = nbH u k h 17 := by rw [← ih, mk_k (by decide)]
    unfold nbH
    rw [es, mk_k (h := h) (k := 6) (by decide), e18, e17]
    split
    · rw [mk_reach, ih]
    · exact ih
theorem mk_grow : ∀ (f hd : Nat) {h : Hp}, mk (growL f hd h) = growL f hd (mk h) := by
  intro f
  induction f with
  | zero => intro hd h; rfl
  | succ f ih =>
    intro hd h
    unfold growL
    rw [mk_k (h := h) (k := 3) (by decide), mk_k (h := h) (k := 19) (by decide), mk_k (h := h) (k := 11) (by decide)]
    split
    · rw [ih, mk_nb]
    · rfl
theorem mk_growH {h : Hp} {root : Int} : mk (growH h root) = growH (mk h) root := by
  unfold growH
  rw [mk_grow, mk_reach, mk_hup (by decide)]
theorem mk_surv : ∀ (k : Nat) {h : Hp}, mk (survL k h) = survL k (mk h) := by
  intro k
  induction k with
  | zero => intro h; rfl
  | succ k ih =>
    intro h
    have e18 : survL k (mk h) 18 = survL k h 18 := by rw [← ih, mk_k (by decide)]
    unfold survL
    rw [e18]
    split
    · rw [mk_hup (by decide), mk_growH, ih, growH_37, growH_37, ← ih, mk_k (h := survL k h) (k := 3) (by decide)]
    · exact ih
theorem mk_init : ∀ (k : Nat) {h : Hp}, mk (initT k h) = initT k (mk h) := by
  intro k
  induction k with
  | zero => intro h; rfl
  | succ k ih => intro h; unfold initT; rw [mk_hup (by decide), ih]
/-- the start, and the whole tree, out of the class's cells alone -/
def g0 (h : Hp) : Hp := hup (initT (h 1 6).toNat (mk h)) 3 7 0
def tr (h : Hp) : Hp := survL (h 1 6).toNat (g0 h)
theorem tr_surv {h : Hp} : mk (survH h) = tr h := by
  unfold survH tr g0
  rw [mk_surv, mk_hup (by decide), mk_init]
theorem mk_cong {h h' : Hp} (e : ∀ k, k < 30 → h' k = h k) : mk h' = mk h := by
  funext k j
  unfold mk
  by_cases w : k < 30
  · rw [if_pos w, if_pos w, e k w]
  · rw [if_neg w, if_neg w]
theorem g0_cong {h h' : Hp} (e : ∀ k, k < 30 → h' k = h k) : g0 h' = g0 h := by
  unfold g0
  rw [mk_cong e, e 1 (by decide)]
theorem tr_cong {h h' : Hp} (e : ∀ k, k < 30 → h' k = h k) : tr h' = tr h := by
  unfold tr
  rw [g0_cong e, e 1 (by decide)]
theorem Gs_g0 {h : Hp} : Gs h (g0 h) := by
  have f := (initT_ok (h 1 6).toNat (h := mk h)).1
  have g : Gs (mk h) (g0 h) := Gs.T (by unfold g0; exact f.up (by decide))
  exact Gs.tr ⟨mk_k (by decide), mk_k (by decide), mk_k (by decide), mk_k (by decide), mk_k (by decide), mk_k (by decide), mk_k (by decide)⟩ g
theorem g0_37 {h : Hp} : g0 h 3 7 = 0 := by unfold g0; rw [hup_s]
theorem Gs_surv {h : Hp} (k : Nat) : Gs h (survL k (g0 h)) := Gs.tr Gs_g0 (Gs.T (surv_ok k g0_37).1)
/-- the reference's rows against a picture of the class's -/
def TMr (h g : Hp) : Prop := (∀ v, 0 ≤ v → v < h 1 6 → h 39 v = g 18 v ∧ h 38 v = (if g 18 v = -1 then -1 else g 15 v)) ∧ h 30 16 = g 3 7
theorem TMr_reach {h g : Hp} {w u e d : Int} (t : TMr h g) (hw : vOK h w) (hn : g 18 w = -1) (hc : 0 ≤ g 3 7) : TMr (hup (hup h 39 w (h 30 16)) 38 w u) (reachH g w u e d) := by
  obtain ⟨a, b⟩ := t
  unfold TMr
  rw [reach_37, reach_18, reach_15]
  refine ⟨fun v h1 h2 => ?_, by rw [hup_k (by decide), hup_k (by decide)]; exact b⟩
  rw [hup_k (by decide), hup_k (by decide)] at h2
  have c := a v h1 h2
  by_cases z : v = w
  · rw [z]
    refine ⟨by rw [hup_k (by decide), hup_s, hup_s, b], ?_⟩
    rw [hup_s, hup_s, hup_s, if_neg (by omega)]
  · refine ⟨by rw [hup_k (by decide), hup_o (fun y => z y.2), hup_o (fun y => z y.2)]; exact c.1, ?_⟩
    rw [hup_o (fun y => z y.2), hup_k (by decide), hup_o (fun y => z y.2), hup_o (fun y => z y.2)]
    exact c.2
theorem nb_no {u : Int} {k : Nat} {g : Hp} (h : ¬ nbH u k g 18 (g 6 (tw (sk g u k))) = -1) : nbH u (k + 1) g = nbH u k g := if_neg h
def p_spread (v : Int) (h : Hp) : Prop := Sy h ∧ vOK h v ∧ TMr h (survL v.toNat (g0 h)) ∧ survL v.toNat (g0 h) 18 v = -1
def q_spread (v : Int) (h h' : Hp) : Prop := TMr h' (growH (survL v.toNat (g0 h)) v)
set_option maxHeartbeats 2000000 in
theorem ct_spread {l : Launch} (v : Int) (h : Hp) (hb : p_spread v h) : Ct l yX6_spread cX6_spread 7 none 1 22 0 [vr 30, vi v] h [38, 39, 40] (fun _ h1 => q_spread v h h1) (fun _ => False) := by
  obtain ⟨⟨R, G, m⟩, hv, t0, hn⟩ := hb
  have g1 := G.1
  have hv' := hv
  unfold vOK at hv'
  obtain ⟨S, eS⟩ : ∃ S, S = survL v.toNat (g0 h) := ⟨_, rfl⟩
  have hq : ∀ h', TMr h' (growH S v) → q_spread v h h' := fun h' z => by unfold q_spread; rw [← eS]; exact z
  have gS : Gs h S := by rw [eS]; exact Gs_surv _
  have hc : 0 ≤ S 3 7 := by rw [eS]; exact (surv_ok _ g0_37).2.1
  rw [← eS] at t0 hn
  have hvS : vOK S v := by unfold vOK; rw [gS.1]; exact hv
  -- what holds in both loops: the picture g
  refine w_X6_spread _ p_far q_far
    (fun n a x2 x3 => ∃ (hd : Nat) (g : Hp), x3 = hd ∧ hd ≤ 30 ∧ (hd : Int) ≤ g 3 6 ∧ TI g ∧ Gs h g ∧ growL (31 - hd) hd g = growH S v ∧ x2 = g 3 6 ∧ TMr a g ∧ (∀ i : Nat, (i : Int) < g 3 6 → a 40 i = g 19 i) ∧ n = 31 - hd)
    (fun n21 n a x2 x3 x4 x5 => ∃ (hd k : Nat) (g : Hp), x3 = hd ∧ hd < 30 ∧ (hd : Int) < g 3 6 ∧ TI g ∧ Gs h g ∧ growL (31 - hd) hd g = growH S v ∧ x4 = g 19 hd ∧ x5 = k ∧ (k : Int) ≤ h 11 (g 19 hd) ∧ x2 = nbH (g 19 hd) k g 3 6 ∧ TMr a (nbH (g 19 hd) k g) ∧ (∀ i : Nat, (i : Int) < nbH (g 19 hd) k g 3 6 → a 40 i = nbH (g 19 hd) k g 19 i) ∧ n21 = 31 - hd ∧ n = 30 - k) h v ct_far ?_ ?_ (fun _ _ => ?_)
  · rintro n a x2 x3 - F - - ⟨hd, g, rfl, i1, i2, i3, i4, i5, rfl, i6, i7, i8⟩
    have Gg := Gs_GI i4 G
    have hle := TI_le Gg i3
    unfold V_X6_spread_21
    refine ⟨fun c => hq _ ?_, fun c => ⟨by omega, fun z ez z2 e2 => ⟨30, hd, 0, g, rfl, by omega, by omega, i3, i4, i5, by rw [ez]; exact i7 hd (by omega), e2, ?_, rfl, i6, i7, i8, rfl⟩⟩⟩
    · rw [← i5]
      cases hf : 31 - hd with
      | zero => omega
      | succ f =>
        show TMr a (if _ then _ else _)
        rw [if_neg (by omega)]
        exact i6
    · have := (Gg.deg (i3.2.1 hd (by omega)).1).1
      rw [i4.2.2.2.2.2.2] at this
      exact this
  · rintro n21 n a x2 x3 x4 x5 - F - - - - ⟨hd, k, g, rfl, i1, i2, i3, i4, i5, rfl, rfl, i6, rfl, i7, i8, i9, i10⟩
    have Gg := Gs_GI i4 G
    have hu := i3.2.1 hd i2
    have huh : vOK h (g 19 hd) := by have := hu.1; unfold vOK at this ⊢; rw [i4.1] at this; exact this
    have dg := G.deg huh
    have md := mr_deg G m huh
    obtain ⟨a1, a2⟩ := nb_ok Gg i3 i2 k (by rw [i4.2.2.2.2.2.2]; exact i6)
    have gs2 : Gs h (nbH (g 19 hd) k g) := Gs.tr i4 (Gs.T (Fr_nb k))
    have k35 : a 35 = h 35 := F 35 (by decide)
    have k34 : a 34 = h 34 := F 34 (by decide)
    have k31 : a 31 = h 31 := F 31 (by decide)
    have k32 : a 32 = h 32 := F 32 (by decide)
    have k1 : a 1 = h 1 := F 1 (by decide)
    have huh' := huh
    unfold vOK at huh'
    have next : (k : Int) < h 11 (g 19 hd) → ∀ (a' : Hp) (x2 : Int), x2 = nbH (g 19 hd) (k + 1) g 3 6 → TMr a' (nbH (g 19 hd) (k + 1) g) → (∀ i : Nat, (i : Int) < nbH (g 19 hd) (k + 1) g 3 6 → a' 40 i = nbH (g 19 hd) (k + 1) g 19 i) →
        V_X6_spread_112 (fun _ h1 => q_spread v h h1) p_far q_far
        (fun n a x2 x3 => ∃ (hd : Nat) (g : Hp), x3 = hd ∧ hd ≤ 30 ∧ (hd : Int) ≤ g 3 6 ∧ TI g ∧ Gs h g ∧ growL (31 - hd) hd g = growH S v ∧ x2 = g 3 6 ∧ TMr a g ∧ (∀ i : Nat, (i : Int) < g 3 6 → a 40 i = g 19 i) ∧ n = 31 - hd)
        (fun n21 n a x2 x3 x4 x5 => ∃ (hd k : Nat) (g : Hp), x3 = hd ∧ hd < 30 ∧ (hd : Int) < g 3 6 ∧ TI g ∧ Gs h g ∧ growL (31 - hd) hd g = growH S v ∧ x4 = g 19 hd ∧ x5 = k ∧ (k : Int) ≤ h 11 (g 19 hd) ∧ x2 = nbH (g 19 hd) k g 3 6 ∧ TMr a (nbH (g 19 hd) k g) ∧ (∀ i : Nat, (i : Int) < nbH (g 19 hd) k g 3 6 → a 40 i = nbH (g 19 hd) k g 19 i) ∧ n21 = 31 - hd ∧ n = 30 - k) n21 n a' x2 hd (g 19 hd) k := by
      intro hk a' x2 e1 e2 e3
      unfold V_X6_spread_112
      exact ⟨by unfold InR; omega, fun z ez => ⟨30 - (k + 1), by omega, hd, k + 1, g, rfl, i1, i2, i3, i4, i5, rfl, by omega, by omega, e1, e2, e3, i9, rfl⟩⟩
    unfold V_X6_spread_37
    rw [k35, md.1]
    refine ⟨by omega, fun c => ⟨by unfold InR; omega, fun z ez => ⟨31 - (hd + 1), by omega, hd + 1, nbH (g 19 hd) k g, by omega, by omega, by have := a2.1; omega, a1, gs2, ?_, rfl, i7, i8, rfl⟩⟩, fun c => ?_⟩
    · rw [← i5, show 31 - hd = (31 - (hd + 1)) + 1 by omega]
      show _ = (if _ then _ else _)
      rw [if_pos i2, i4.2.2.2.2.2.2, show k = (h 11 (g 19 hd)).toNat by omega]
    · have hk : (k : Int) < h 11 (g 19 hd) := by omega
      have hr := mr_row G m huh hk
      have hf := mr_far G m huh hk
      have esk := sk_R G huh k hk
      have esk2 : sk g (g 19 hd) k = sk h (g 19 hd) k := Gs_sk i4 _ _
      have hs := (G.ring huh).2.2.1 k hk
      have hw := (G.2.2.2.1 _ (Sd_tw hs.1)).1
      rw [k34]
      refine ⟨by unfold InR; omega, by unfold InR; omega, by omega, hr, fun r _ q z ez => ?_⟩
      have q : r = farF a (row h (g 19 hd) k) (g 19 hd) := q
      have ez : z = h 6 (tw (R (g 19 hd) k)) := by
        rw [ez, q, ← hf]
        unfold farF
        rw [k31, k32]
      have ew : g 6 (tw (sk g (g 19 hd) k)) = z := by rw [ez, i4.2.1, esk2, esk]
      have hz : vOK h z := by rw [ez]; exact hw
      have hz' := hz
      unfold vOK at hz'
      have c39 := (i7.1 z hz'.1 (by rw [k1]; exact hz'.2)).1
      refine ⟨by omega, fun c1 => next hk a _ ?_ ?_ ?_, fun c1 => ⟨by omega, fun h16 e16 => ⟨by omega, fun h18 e18 => ?_⟩⟩⟩
      · rw [nb_no (by rw [ew, ← c39]; exact c1)]
      · rw [nb_no (by rw [ew, ← c39]; exact c1)]
        exact i7
      · rw [nb_no (by rw [ew, ← c39]; exact c1)]
        exact i8
      · rw [c39] at c1
        have hz2 : vOK (nbH (g 19 hd) k g) z := by unfold vOK; rw [gs2.1]; exact hz
        have h36 := TI_lt (Gs_GI gs2 G) a1 hz2 c1
        have h360 := a1.1.1
        have en : nbH (g 19 hd) (k + 1) g = reachH (nbH (g 19 hd) k g) z (g 19 hd) (sk g (g 19 hd) k / 2) (nbH (g 19 hd) k g 17 (g 19 hd) + 1) := by
          show (if _ then _ else _) = _
          rw [ew, if_pos c1]
        refine ⟨by omega, fun h20 e20 => ⟨by unfold InR; omega, fun z21 e21 => next hk h20 z21 ?_ ?_ ?_⟩⟩
        · rw [en, reach_36, e21]
        · rw [en]
          have T := TMr_reach (u := g 19 hd) (e := sk g (g 19 hd) k / 2) (d := nbH (g 19 hd) k g 17 (g 19 hd) + 1) i7 (w := z) (by unfold vOK; rw [k1]; exact hz) c1 a1.1.2
          rw [← e16, ← e18] at T
          refine ⟨fun y y1 y2 => ?_, ?_⟩
          · rw [e20, hup_k (by decide)] at y2
            rw [e20, hup_k (by decide), hup_k (by decide)]
            exact T.1 y y1 y2
          · rw [e20, hup_k (by decide)]
            exact T.2
        · intro i hi
          rw [en, reach_36] at hi
          rw [en, reach_19, e20]
          by_cases w : (i : Int) = nbH (g 19 hd) k g 3 6
          · rw [w, hup_s, hup_s]
          · rw [hup_o (fun y => w y.2), hup_o (fun y => w y.2), e18, hup_k (by decide), e16, hup_k (by decide)]
            exact i8 i (by omega)
  · unfold V_X6_spread
    intro z27 e27
    refine ⟨by omega, fun h29 e29 => ⟨by omega, fun h31 e31 z32 e32 => ⟨31, 0, reachH (hup S 3 6 0) v (-1) (-1) 0, e32, by omega, by rw [reach_36, hup_s]; omega, TI_start hvS hn hc, ?_, rfl, by rw [reach_36, hup_s, e27]; rfl, ?_, ?_, rfl⟩⟩⟩
    · exact Gs.tr gS (Gs.T ((Fr.rf.up (by decide) : Fr [3, 15, 16, 17, 18, 19] S (hup S 3 6 0)).trans Fr_reach (fun _ z => z)))
    · have e16 : h29 30 16 = S 3 7 := by rw [e29, hup_k (by decide)]; exact t0.2
      unfold TMr
      rw [reach_37, reach_18, reach_15, hup_o (fun z => by have := z.2; omega)]
      refine ⟨fun y y1 y2 => ?_, by rw [e31, hup_k (by decide), e16]⟩
      rw [e31, hup_k (by decide), e29, hup_k (by decide)] at y2
      have c := t0.1 y y1 y2
      have k38 : h31 38 y = h 38 y := by rw [e31, hup_k (by decide), e29, hup_k (by decide)]
      rw [k38]
      by_cases w : y = v
      · rw [w] at c ⊢
        refine ⟨by rw [e31, hup_s, e16, hup_s], ?_⟩
        rw [hup_s, hup_s, if_neg (by omega), c.2, if_pos hn]
      · refine ⟨by rw [e31, hup_o (fun z => w z.2), e29, hup_k (by decide), hup_o (fun z => w z.2), hup_k (by decide)]; exact c.1, ?_⟩
        rw [hup_o (fun z => w z.2), hup_k (by decide), hup_o (fun z => w z.2), hup_k (by decide)]
        exact c.2
    · intro i hi
      rw [reach_36, hup_s] at hi
      rw [reach_19, hup_s, show ((i : Nat) : Int) = 0 by omega, hup_s, e31, hup_k (by decide), e29, hup_s]

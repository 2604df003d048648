/-! The reference's edge -/
def TM (h : Hp) (a b ba bb : Int) : Prop := isV h a ∧ isV h b ∧ (ba = -1 ∨ isE h ba) ∧ (bb = -1 ∨ isE h bb)
def AM (h : Hp) (a b ba bb : Int) : Prop := a = b ∨ (∃ k : Nat, (k : Int) < h 35 a ∧ farF h (row h a k) a = b) ∨ ¬ rndF h a ba ∨ ¬ rndF h b bb
theorem mr_T {h g : Hp} {R : Int → Nat → Int} (G : GI g R) (m : MR h g R) {a b ba bb : Int} : TM h a b ba bb ↔ ET g a b ba bb := by
  unfold TM ET
  rw [mr_V m, mr_V m, mr_E G m, mr_E G m]
theorem mr_A {h g : Hp} {R : Int → Nat → Int} (G : GI g R) (m : MR h g R) {a b ba bb : Int} (t : ET g a b ba bb) : AM h a b ba bb ↔ EA g a b ba bb := by
  unfold AM EA
  rw [mr_Jn G m t.1, mr_rnd G m t.1 t.2.2.1, mr_rnd G m t.2.1 t.2.2.2]
def q_medge (a b ba bb : Int) (h : Hp) (r : Int) (h' : Hp) : Prop := ∀ g R, GI g R → MR h g R → ∃ c, EC g a b ba bb c ∧ h' 30 0 = c ∧ (c ≠ 0 → h' = hup h 30 0 c) ∧ (c = 0 → r = g 1 7 ∧ (∀ v, 0 ≤ v → v < 30 → h' 36 v = 0) ∧ h' 30 10 = 0 ∧ ∀ p1 p2, AddOk g R a b ba bb p1 p2 → MR h' (addH g a b ba bb) (addR g R a b p1 p2))
def p_medge (_ _ _ _ : Int) (h : Hp) : Prop := ∃ g R, GI g R ∧ MR h g R
/-- the new rows are those of the new rings -/
theorem row_ins {g : Hp} {R : Int → Nat → Int} {h : Hp} {v : Int} {p : Nat} {x e : Int} (hd : ∀ k : Nat, (k : Int) < g 11 v → row h v k = R v k / 2) (hx : x / 2 = e) (hp : (p : Int) ≤ g 11 v) : ∀ k : Nat, (k : Int) ≤ g 11 v → insF (row h v) p e k = insF (R v) p x k / 2 := by
  intro k hk
  rcases Nat.lt_trichotomy k p with w | w | w
  · rw [insF_lt w, insF_lt w]; exact hd k (by omega)
  · rw [w, insF_eq, insF_eq]; exact hx.symm
  · rw [insF_gt w, insF_gt w]; exact hd (k - 1) (by omega)
theorem Pl_le {g : Hp} {R : Int → Nat → Int} {v b : Int} {p : Nat} (q : Pl g R v b p) : (p : Int) ≤ g 11 v := by
  rcases q with ⟨-, q⟩ | ⟨-, -, q, -⟩ <;> omega
set_option maxHeartbeats 2000000 in
/-- what insert, insert, forget leave is the new graph -/
theorem medge_MR {h g : Hp} {R : Int → Nat → Int} (G : GI g R) (m : MR h g R) {a b ba bb : Int} {p1 p2 : Nat} (A : AddOk g R a b ba bb p1 p2) {h8 h10 h12 h18 : Hp}
    (e8 : h8 = hup (hup (hup (hup h 30 0 0) 31 (h 30 2) a) 32 (h 30 2) b) 33 (h 30 2) 0) (f10 : Fr [34, 35] h8 h10) (q10 : q_insert a (h 30 2) ba h8 h10) (f12 : Fr [34, 35] h10 h12) (q12 : q_insert b (h 30 2) bb h10 h12)
    (f18 : Fr [30, 36] (hup (hup h12 30 2 (h 30 2 + 1)) 30 3 (h 30 3 + 1)) h18) (q18 : q_mforget (hup (hup h12 30 2 (h 30 2 + 1)) 30 3 (h 30 3 + 1)) h18) : MR h18 (addH g a b ba bb) (addR g R a b p1 p2) := by
  obtain ⟨-, ha, hb, hab, hj, hm, l1, l2⟩ := id A
  obtain ⟨m1, m2, m3, m4, m5⟩ := id m
  obtain ⟨F1, F2, F3, F4, F5, F6, F7, F8, F9, F10, F11⟩ := addH_F (h := g) (ba := ba) (bb := bb) hab
  have da := mr_deg G m ha
  have db := mr_deg G m hb
  -- the cells of h8 that insert reads
  have k35 : h8 35 = h 35 := by rw [e8, hup_k (by decide), hup_k (by decide), hup_k (by decide), hup_k (by decide)]
  have k34 : h8 34 = h 34 := by rw [e8, hup_k (by decide), hup_k (by decide), hup_k (by decide), hup_k (by decide)]
  have rw8 : ∀ v, row h8 v = row h v := fun v => by unfold row; rw [k34]
  have P1 : Pm h8 a ba p1 := by
    have := mr_Pm G m ha l1
    unfold Pm at this ⊢
    rw [k35, rw8]
    exact this
  obtain ⟨i1, i2, i3, i4⟩ := q10 p1 P1
  rw [k35] at i1 i2 i3 i4
  rw [rw8] at i3
  rw [k34] at i4
  have rowb : ∀ k : Nat, (k : Int) < 30 → row h10 b k = row h b k := by
    intro k hk
    unfold row
    exact i4 _ (by have := ha.1; have := hb.1; omega)
  have P2 : Pm h10 b bb p2 := by
    have := mr_Pm G m hb l2
    unfold Pm at this ⊢
    rw [i2 b (fun z => hab z.symm)]
    rcases this with w | ⟨w1, w2, w3, w4, w5⟩
    · exact Or.inl w
    · refine Or.inr ⟨w1, w2, w3, ?_, fun k hk => ?_⟩
      · rw [rowb _ (by omega)]; exact w4
      · rw [rowb _ (by omega)]; exact w5 k hk
  obtain ⟨j1, j2, j3, j4⟩ := q12 p2 P2
  rw [i2 b (fun z => hab z.symm)] at j1 j3 j4
  -- the last cells
  have z31 : h18 31 = h8 31 := by rw [f18 31 (by decide), hup_k (by decide), hup_k (by decide), f12 31 (by decide), f10 31 (by decide)]
  have z32 : h18 32 = h8 32 := by rw [f18 32 (by decide), hup_k (by decide), hup_k (by decide), f12 32 (by decide), f10 32 (by decide)]
  have z33 : h18 33 = h8 33 := by rw [f18 33 (by decide), hup_k (by decide), hup_k (by decide), f12 33 (by decide), f10 33 (by decide)]
  have z34 : h18 34 = h12 34 := by rw [f18 34 (by decide), hup_k (by decide), hup_k (by decide)]
  have z35 : h18 35 = h12 35 := by rw [f18 35 (by decide), hup_k (by decide), hup_k (by decide)]
  have z30 : ∀ j, j ≠ 10 → h18 30 j = hup (hup h12 30 2 (h 30 2 + 1)) 30 3 (h 30 3 + 1) 30 j := q18.2.2
  have w30 : h12 30 = h8 30 := by rw [f12 30 (by decide), f10 30 (by decide)]
  have w8 : ∀ j, j ≠ 0 → h8 30 j = h 30 j := fun j hj => by rw [e8, hup_k (by decide), hup_k (by decide), hup_k (by decide), hup_o (fun z => hj z.2)]
  refine ⟨?_, ?_, ?_, ?_, ?_⟩
  · rw [z30 1 (by decide), hup_o (fun z => by have := z.2; omega), hup_o (fun z => by have := z.2; omega), w30, w8 1 (by decide), F1, m1]
  · rw [z30 2 (by decide), hup_o (fun z => by have := z.2; omega), hup_s, F2, m2]
  · rw [z30 3 (by decide), hup_s, F3, m3]
  · intro e he1 he2
    rw [F2] at he2
    rw [z31, z32, z33, e8]
    by_cases w : e = g 1 7
    · rw [w, m2]
      refine ⟨?_, ?_, ?_⟩
      · rw [hup_k (by decide), hup_k (by decide), hup_s, F4]
      · rw [hup_k (by decide), hup_s, F5]
      · rw [hup_s, F7]; omega
    · have hm4 := m4 e he1 (by omega)
      rw [m2]
      refine ⟨?_, ?_, ?_⟩
      · rw [hup_k (by decide), hup_k (by decide), hup_o (fun z => w z.2), hup_k (by decide), F6 _ (by omega)]; exact hm4.1
      · rw [hup_k (by decide), hup_o (fun z => w z.2), hup_k (by decide), hup_k (by decide), F6 _ (by omega)]; exact hm4.2.1
      · rw [hup_o (fun z => w z.2), hup_k (by decide), hup_k (by decide), hup_k (by decide), F8 e w]; exact hm4.2.2
  · intro v hv1 hv2
    rw [F1] at hv2
    have hv := mr_deg G m ⟨hv1, hv2⟩
    have hr : ∀ k, row h18 v k = row h12 v k := fun k => by unfold row; rw [z34]
    rw [z35]
    by_cases wa : v = a
    · subst wa
      refine ⟨by rw [j2 v hab, i1, F9, da.1], fun k hk => ?_⟩
      rw [F9] at hk
      rw [hr, show row h12 v k = row h10 v k from j4 _ (by have := ha.1; have := hb.1; omega), i3 k (by rw [da.1]; omega)]
      have : addR g R v b p1 p2 v = insF (R v) p1 (2 * g 1 7) := by
        unfold addR
        rw [updR_o hab, updR_s]
      rw [this]
      exact row_ins (m5 v hv1 hv2).2 (by rw [m2]; omega) (Pl_le l1) k (by omega)
    · by_cases wb : v = b
      · subst wb
        refine ⟨by rw [j1, F10, db.1], fun k hk => ?_⟩
        rw [F10] at hk
        rw [hr, j3 k (by rw [db.1]; omega)]
        have : addR g R a v p1 p2 v = insF (R v) p2 (2 * g 1 7 + 1) := by
          unfold addR
          rw [updR_s]
        rw [this]
        refine row_ins (g := g) (R := R) (h := h10) (fun k hk => ?_) (by rw [m2]; omega) (Pl_le l2) k (by omega)
        rw [rowb k (by omega)]
        exact (m5 v hv1 hv2).2 k hk
      · refine ⟨by rw [j2 v wb, i2 v wa, F11 v wa wb]; exact hv.1, fun k hk => ?_⟩
        rw [F11 v wa wb] at hk
        rw [hr, show row h12 v k = row h10 v k from j4 _ (by have := hb.1; omega), show row h10 v k = row h v k from i4 _ (by have := ha.1; omega)]
        have : addR g R a b p1 p2 v = R v := by
          unfold addR
          rw [updR_o wb, updR_o wa]
        rw [this]
        exact (m5 v hv1 hv2).2 k hk

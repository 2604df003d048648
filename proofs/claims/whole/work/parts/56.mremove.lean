/-! The reference's remove -/
def q_mremove (e : Int) (h : Hp) (r : Int) (h' : Hp) : Prop := ∀ g R, GI g R → MR h g R → (eOK g e ∧ h' 30 0 = 0 ∧ r = g 1 8 - 1 ∧ (∀ v, 0 ≤ v → v < 30 → h' 36 v = 0) ∧ h' 30 10 = 0 ∧ ∀ p1 p2, DropOk g R e p1 p2 → MR h' (dropH g e) (dropR g R e p1 p2)) ∨ (¬ eOK g e ∧ h' = hup h 30 0 1)
def p_mremove (_ : Int) (h : Hp) : Prop := ∃ g R, GI g R ∧ MR h g R
theorem row_del {g : Hp} {R : Int → Nat → Int} {h : Hp} {v : Int} {p : Nat} (hd : ∀ k : Nat, (k : Int) < g 11 v → row h v k = R v k / 2) : ∀ k : Nat, (k : Int) < g 11 v - 1 → delF (row h v) p k = delF (R v) p k / 2 := by
  intro k hk
  by_cases w : k < p
  · rw [delF_lt w, delF_lt w]; exact hd k (by omega)
  · rw [delF_ge (by omega), delF_ge (by omega)]; exact hd (k + 1) (by omega)
/-- the place of an edge in a row -/
theorem mr_place {h g : Hp} {R : Int → Nat → Int} (G : GI g R) (m : MR h g R) {v s : Int} {p : Nat} (hv : vOK g v) (hp : (p : Int) < g 11 v) (e : R v p = s) : (p : Int) < h 35 v ∧ row h v p = s / 2 ∧ ∀ k : Nat, (k : Int) < h 35 v → row h v k = s / 2 → k = p := by
  have hd := (mr_deg G m hv).1
  have e1 : row h v p = s / 2 := by rw [(m.2.2.2.2 v hv.1 hv.2).2 p hp, e]
  exact ⟨by rw [hd]; exact hp, e1, fun k hk z => mr_row_inj G m hv (by rw [← hd]; exact hk) hp (by rw [z, e1])⟩
set_option maxHeartbeats 2000000 in
theorem mremove_MR {h g : Hp} {R : Int → Nat → Int} (G : GI g R) (m : MR h g R) {e : Int} {p1 p2 : Nat} (A : DropOk g R e p1 p2) {h5 h8 h14 : Hp} (f5 : Fr [34, 35] (hup h 30 0 0) h5) (q5 : q_take (h 31 e) e (hup h 30 0 0) h5) (f8 : Fr [34, 35] h5 h8) (q8 : q_take (h 32 e) e h5 h8)
    (f14 : Fr [30, 36] (hup (hup h8 33 e 1) 30 3 (h 30 3 - 1)) h14) (q14 : q_mforget (hup (hup h8 33 e 1) 30 3 (h 30 3 - 1)) h14) : MR h14 (dropH g e) (dropR g R e p1 p2) := by
  obtain ⟨-, he, hh, l1, l2⟩ := id A
  obtain ⟨m1, m2, m3, m4, m5⟩ := id m
  have sd := Sd_e he hh
  have n0 := G.2.2.2.1 _ sd.1
  have n1 := G.2.2.2.1 _ sd.2
  rw [tw_e] at n0
  have hab := n0.2
  obtain ⟨F1, F2, F3, F4, F5, F6, F7, F8, F9⟩ := dropH_F (h := g) (e := e) hab
  have hm4 := m4 e he.1 he.2
  rw [hm4.1] at q5
  rw [hm4.2.1] at q8
  have da := mr_deg G m (v := g 6 (2 * e)) n0.1
  have db := mr_deg G m (v := g 6 (2 * e + 1)) n1.1
  have k35 : hup h 30 0 0 35 = h 35 := hup_k (by decide)
  have k34 : hup h 30 0 0 34 = h 34 := hup_k (by decide)
  have rw0 : ∀ v, row (hup h 30 0 0) v = row h v := fun v => by unfold row; rw [k34]
  obtain ⟨a1, a2, a3⟩ := mr_place G m n0.1 l1.1 l1.2
  obtain ⟨b1, b2, b3⟩ := mr_place G m n1.1 l2.1 l2.2
  rw [show 2 * e / 2 = e by omega] at a2 a3
  rw [show (2 * e + 1) / 2 = e by omega] at b2 b3
  obtain ⟨i1, i2, i3, i4⟩ := q5 p1 (by rw [k35]; exact a1) (by rw [rw0]; exact a2) (fun k x y => a3 k (by rw [k35] at x; exact x) (by rw [rw0] at y; exact y))
  rw [k35] at i1 i2 i3 i4
  rw [rw0] at i3
  rw [k34] at i4
  have va := n0.1
  have vb := n1.1
  have rowb : ∀ k : Nat, (k : Int) < 30 → row h5 (g 6 (2 * e + 1)) k = row h (g 6 (2 * e + 1)) k := fun k hk => by
    unfold row
    exact i4 _ (by omega)
  have hb5 : h5 35 (g 6 (2 * e + 1)) = h 35 (g 6 (2 * e + 1)) := i2 _ (fun z => hab z.symm)
  obtain ⟨j1, j2, j3, j4⟩ := q8 p2 (by rw [hb5]; exact b1) (by rw [rowb _ (by omega)]; exact b2) (fun k x y => by
    rw [hb5] at x
    rw [rowb k (by omega)] at y
    exact b3 k x y)
  rw [hb5] at j1 j3 j4
  have z31 : h14 31 = h 31 := by rw [f14 31 (by decide), hup_k (by decide), hup_k (by decide), f8 31 (by decide), f5 31 (by decide), hup_k (by decide)]
  have z32 : h14 32 = h 32 := by rw [f14 32 (by decide), hup_k (by decide), hup_k (by decide), f8 32 (by decide), f5 32 (by decide), hup_k (by decide)]
  have z33 : h14 33 = hup h8 33 e 1 33 := by rw [f14 33 (by decide), hup_k (by decide)]
  have z33' : h8 33 = h 33 := by rw [f8 33 (by decide), f5 33 (by decide), hup_k (by decide)]
  have z34 : h14 34 = h8 34 := by rw [f14 34 (by decide), hup_k (by decide), hup_k (by decide)]
  have z35 : h14 35 = h8 35 := by rw [f14 35 (by decide), hup_k (by decide), hup_k (by decide)]
  have w30 : ∀ j, j ≠ 0 → h8 30 j = h 30 j := fun j hj => by rw [f8 30 (by decide), f5 30 (by decide), hup_o (fun z => hj z.2)]
  refine ⟨?_, ?_, ?_, ?_, ?_⟩
  · rw [q14.2.2 1 (by decide), hup_o (fun z => by have := z.2; omega), hup_k (by decide), w30 1 (by decide), F1, m1]
  · rw [q14.2.2 2 (by decide), hup_o (fun z => by have := z.2; omega), hup_k (by decide), w30 2 (by decide), F2, m2]
  · rw [q14.2.2 3 (by decide), hup_s, F3, m3]
  · intro k h1 h2
    rw [F2] at h2
    have := m4 k h1 h2
    rw [z31, z32, z33, F4]
    refine ⟨this.1, this.2.1, ?_⟩
    by_cases w : k = e
    · rw [w, hup_s, F5]; omega
    · rw [hup_o (fun z => w z.2), z33', F6 k w]; exact this.2.2
  · intro v h1 h2
    rw [F1] at h2
    have hv := mr_deg G m ⟨h1, h2⟩
    have hr : ∀ k, row h14 v k = row h8 v k := fun k => by unfold row; rw [z34]
    rw [z35]
    by_cases wa : v = g 6 (2 * e)
    · have R1 : dropR g R e p1 p2 v = delF (R v) p1 := by
        unfold dropR
        rw [wa, updR_o hab, updR_s]
      rw [← wa] at i1 i3 F7 da
      refine ⟨by rw [j2 v (by rw [wa]; exact hab), i1, F7, da.1], fun k hk => ?_⟩
      rw [F7] at hk
      have hne : v ≠ g 6 (2 * e + 1) := by rw [wa]; exact hab
      have hk29 : (k : Int) < 29 := by omega
      have hrow : row h8 v k = row h5 v k := j4 _ (by omega)
      rw [hr, hrow, i3 k (by rw [da.1]; exact hk), R1]
      exact row_del (m5 v h1 h2).2 k hk
    · by_cases wb : v = g 6 (2 * e + 1)
      · have R1 : dropR g R e p1 p2 v = delF (R v) p2 := by
          unfold dropR
          rw [wb, updR_s]
        rw [← wb] at j1 j3 F8 db
        refine ⟨by rw [j1, F8, db.1], fun k hk => ?_⟩
        rw [F8] at hk
        rw [hr, j3 k (by rw [db.1]; exact hk), R1]
        refine row_del (g := g) (R := R) (h := h5) (fun k hk => ?_) k hk
        rw [show row h5 v k = row h v k by rw [wb]; exact rowb k (by omega)]
        exact (m5 v h1 h2).2 k hk
      · have R1 : dropR g R e p1 p2 v = R v := by
          unfold dropR
          rw [updR_o wb, updR_o wa]
        refine ⟨by rw [j2 v wb, i2 v wa, F9 v wa wb]; exact hv.1, fun k hk => ?_⟩
        rw [F9 v wa wb] at hk
        rw [hr, show row h8 v k = row h5 v k from j4 _ (by omega), show row h5 v k = row h v k from i4 _ (by omega), R1]
        exact (m5 v h1 h2).2 k hk
set_option maxHeartbeats 2000000 in
theorem ct_mremove {l : Launch} (e : Int) (h : Hp) (hp : p_mremove e h) : Ct l yX6_remove cX6_remove 2 (some .int) 2 46 0 [vr 30, vi e] h [30, 33, 34, 35, 36] (fun r h1 => q_mremove e h r h1) (fun _ => False) := by
  obtain ⟨g0, R0, G0, M0⟩ := hp
  have g2 := G0.2.1
  have hle : h 30 2 ≤ 100 := by rw [M0.2.1]; omega
  refine w_X6_remove _ p_isEdge q_isEdge p_take q_take (fun _ => True) q_mforget h e ct_isEdge ct_take (fun g _ => ct_mforget g) (fun _ _ => ?_)
  unfold V_X6_remove V_X6_remove_14
  refine ⟨hle, fun r _ q => ⟨fun c h1 e1 => ?_, fun c h1 e1 => ?_⟩⟩
  · have k0 : h1 30 0 = 1 := by rw [e1, hup_s]
    have ne : ¬ isE h e := by
      rcases q with ⟨y, -⟩ | ⟨-, y⟩
      · omega
      · exact y
    rw [k0]
    exact ⟨fun z => by omega, fun _ g R G M => Or.inr ⟨fun z => ne ((mr_E G M).mpr z), e1⟩⟩
  · have he : isE h e := by
      rcases q with ⟨-, y⟩ | ⟨y, -⟩
      · exact y
      · exact absurd y c
    have he0 := (mr_E G0 M0).mp he
    obtain ⟨p1, p2, A⟩ := drop_ex G0 he0.1 he0.2
    obtain ⟨-, hE, hh, l1, l2⟩ := id A
    have sd := Sd_e hE hh
    have n0 := G0.2.2.2.1 _ sd.1
    have n1 := G0.2.2.2.1 _ sd.2
    rw [tw_e] at n0
    have hab := n0.2
    have hm4 := M0.2.2.2.1 e hE.1 hE.2
    have da := mr_deg G0 M0 (v := g0 6 (2 * e)) n0.1
    have db := mr_deg G0 M0 (v := g0 6 (2 * e + 1)) n1.1
    have g1 := G0.1
    have va := n0.1
    have vb := n1.1
    subst e1
    have k0 : hup h 30 0 0 30 0 = 0 := by rw [hup_s]
    have k31 : hup h 30 0 0 31 = h 31 := hup_k (by decide)
    have k32 : hup h 30 0 0 32 = h 32 := hup_k (by decide)
    have k35 : hup h 30 0 0 35 = h 35 := hup_k (by decide)
    have k34 : hup h 30 0 0 34 = h 34 := hup_k (by decide)
    have rw0 : ∀ v, row (hup h 30 0 0) v = row h v := fun v => by unfold row; rw [k34]
    obtain ⟨a1, a2, a3⟩ := mr_place G0 M0 n0.1 l1.1 l1.2
    obtain ⟨b1, b2, b3⟩ := mr_place G0 M0 n1.1 l2.1 l2.2
    rw [show 2 * e / 2 = e by omega] at a2 a3
    rw [show (2 * e + 1) / 2 = e by omega] at b2 b3
    have hl : 1 ≤ h 30 3 ∧ h 30 3 ≤ 100 := by
      have h1 := cnt_le (fun k => g0 9 k = 1) (g0 1 7).toNat
      have h2 := cnt_off (p := fun k => g0 9 k = 1) (q := fun k => g0 9 k = 1 ∧ k ≠ e) (e := e) hh (fun z => z.2 rfl) (fun k hk => ⟨fun z => ⟨z, hk⟩, fun z => z.1⟩) (g0 1 7).toNat hE.1 (by omega)
      have h3 := cnt_le (fun k => g0 9 k = 1 ∧ k ≠ e) (g0 1 7).toNat
      rw [M0.2.2.1, G0.2.2.2.2.2.2]
      omega
    rw [k0, k31, hm4.1]
    refine ⟨fun _ => ⟨by omega, ⟨by omega, by rw [k35, da.1]; omega, p1, by rw [k35]; exact a1, by rw [rw0]; exact a2, fun k x y => a3 k (by rw [k35] at x; exact x) (by rw [rw0] at y; exact y)⟩, fun h5 f5 _ q5 => ?_⟩, fun z => absurd (Int.le_refl 0) z⟩
    have j32 : h5 32 = h 32 := by rw [f5 32 (by decide), k32]
    rw [j32, hm4.2.1]
    obtain ⟨i1, i2, i3, i4⟩ := q5 p1 (by rw [k35]; exact a1) (by rw [rw0]; exact a2) (fun k x y => a3 k (by rw [k35] at x; exact x) (by rw [rw0] at y; exact y))
    rw [k35] at i1 i2 i3 i4
    rw [k34] at i4
    have rowb : ∀ k : Nat, (k : Int) < 30 → row h5 (g0 6 (2 * e + 1)) k = row h (g0 6 (2 * e + 1)) k := fun k hk => by
      unfold row
      exact i4 _ (by omega)
    have hb5 : h5 35 (g0 6 (2 * e + 1)) = h 35 (g0 6 (2 * e + 1)) := i2 _ (fun z => hab z.symm)
    refine ⟨by omega, ⟨by omega, by rw [hb5, db.1]; omega, p2, by rw [hb5]; exact b1, by rw [rowb _ (by omega)]; exact b2, fun k x y => ?_⟩, fun h8 f8 _ q8 => ⟨by omega, fun h10 e10 => ?_⟩⟩
    · rw [hb5] at x
      rw [rowb k (by omega)] at y
      exact b3 k x y
    · have k3 : h10 30 3 = h 30 3 := by rw [e10, hup_k (by decide), f8 30 (by decide), f5 30 (by decide), hup_o (fun z => by have := z.2; omega)]
      rw [k3]
      refine ⟨by unfold InR; omega, fun h12 e12 => ⟨trivial, fun h14 f14 _ q14 => ?_⟩⟩
      rw [e12, e10] at f14 q14
      intro g R G M
      refine Or.inl ⟨(mr_E G M).mp he, ?_, ?_, q14.1, q14.2.1, fun p1' p2' A' => mremove_MR G M A' f5 (by rw [hm4.1]; exact q5) f8 (by rw [hm4.2.1]; exact q8) f14 q14⟩
      · rw [q14.2.2 0 (by decide), hup_o (fun z => by have := z.2; omega), hup_k (by decide), f8 30 (by decide), f5 30 (by decide), hup_s]
      · rw [q14.2.2 3 (by decide), hup_s, M.2.2.1]

/-! The reference's edge: its contract -/
theorem EC_c0 {g : Hp} {a b ba bb c : Int} (x : EC g a b ba bb c) (hc : c = 0) : ET g a b ba bb ∧ ¬ EA g a b ba bb ∧ g 1 7 < 100 := by
  rcases x with ⟨x, -⟩ | ⟨x, -⟩ | ⟨x, -⟩ | ⟨-, x⟩
  · omega
  · omega
  · omega
  · exact x
set_option maxHeartbeats 2000000 in
theorem ct_medge {l : Launch} (a b ba bb : Int) (h : Hp) (hp : p_medge a b ba bb h) : Ct l yX6_edge cX6_edge 6 (some .int) 2 48 0 [vr 30, vi a, vi b, vi ba, vi bb] h [30, 31, 32, 33, 34, 35, 36] (fun r h1 => q_medge a b ba bb h r h1) (fun _ => False) := by
  obtain ⟨g0, R0, G0, M0⟩ := hp
  have g2 := G0.2.1
  have hle : h 30 2 ≤ 100 := by rw [M0.2.1]; omega
  refine w_X6_edge _ (fun _ _ => True) q_isVertex p_isEdge q_isEdge p_insert q_insert (fun _ => True) q_mforget p_between q_between p_placeOf q_isRound h a b ba bb (fun v g _ => ct_isVertex v g) ct_isEdge ct_insert (fun g _ => ct_mforget g) ct_between ct_isRound (fun _ _ _ _ _ => ?_)
  -- the ends with a code
  have leaf : ∀ y, y ≠ 0 → 0 < y → (∀ g R, GI g R → MR h g R → EC g a b ba bb y) → V_X6_edge_112 (fun r h1 => q_medge a b ba bb h r h1) (fun _ _ => True) q_isVertex p_isEdge q_isEdge p_insert q_insert (fun _ => True) q_mforget p_between q_between p_placeOf q_isRound h a b ba bb y := by
    intro y hy hy0 hE
    unfold V_X6_edge_112
    intro h1 e1
    have k0 : h1 30 0 = y := by rw [e1, hup_s]
    rw [k0]
    refine ⟨fun c => by omega, fun _ g R G M => ⟨y, hE g R G M, k0, fun _ => e1, fun z => absurd z hy⟩⟩
  have l48 : ¬ TM h a b ba bb → V_X6_edge_48 (fun r h1 => q_medge a b ba bb h r h1) (fun _ _ => True) q_isVertex p_isEdge q_isEdge p_insert q_insert (fun _ => True) q_mforget p_between q_between p_placeOf q_isRound h a b ba bb := by
    intro hT
    unfold V_X6_edge_48 V_X6_edge_49
    intro z ez
    exact ⟨fun c => absurd ez c, fun _ => leaf 1 (by decide) (by decide) (fun g R G M => Or.inl ⟨rfl, fun t => hT ((mr_T G M).mpr t)⟩)⟩
  have l44 : TM h a b ba bb → V_X6_edge_44 (fun r h1 => q_medge a b ba bb h r h1) (fun _ _ => True) q_isVertex p_isEdge q_isEdge p_insert q_insert (fun _ => True) q_mforget p_between q_between p_placeOf q_isRound h a b ba bb := by
    intro hT
    have t0 := (mr_T G0 M0).mp hT
    have da := mr_deg G0 M0 t0.1
    have db := mr_deg G0 M0 t0.2.1
    have g1 := G0.1
    have va : 0 ≤ a ∧ a < 30 := by have := t0.1; unfold vOK at this; omega
    have vb : 0 ≤ b ∧ b < 30 := by have := t0.2.1; unfold vOK at this; omega
    have l94 : AM h a b ba bb → V_X6_edge_94 (fun r h1 => q_medge a b ba bb h r h1) (fun _ _ => True) q_isVertex p_isEdge q_isEdge p_insert q_insert (fun _ => True) q_mforget p_between q_between p_placeOf q_isRound h a b ba bb := by
      intro hA
      unfold V_X6_edge_94
      exact leaf 2 (by decide) (by decide) (fun g R G M => Or.inr (Or.inl ⟨rfl, (mr_T G M).mp hT, (mr_A G M ((mr_T G M).mp hT)).mp hA⟩))
    unfold V_X6_edge_44 V_X6_edge_49
    intro z ez
    refine ⟨fun _ => ⟨fun c1 => l94 (Or.inl c1), fun c1 => ⟨⟨va, by rw [da.1]; omega, fun k hk => mr_row G0 M0 t0.1 (by rw [← da.1]; exact hk)⟩, fun r hr q => ⟨fun c2 => ?_, fun c2 => ?_⟩⟩⟩, fun c => by omega⟩
    · rcases q with ⟨q1, -⟩ | ⟨p, q1, q2, q3⟩
      · omega
      · exact l94 (Or.inr (Or.inl ⟨p, q1, q3⟩))
    · have nj : ¬ ∃ k : Nat, (k : Int) < h 35 a ∧ farF h (row h a k) a = b := by
        rcases q with ⟨-, q2⟩ | ⟨p, q1, q2, q3⟩
        · rintro ⟨k, k1, k2⟩
          exact q2 k k1 k2
        · have := (mr_row G0 M0 t0.1 (k := p) (by rw [← da.1]; exact q1)).1
          have q2 : r = row h a p := q2
          omega
      refine ⟨⟨va, by rw [da.1]; omega⟩, fun r2 hr2 q2 => ⟨fun c3 => ?_, fun c3 => ⟨⟨vb, by rw [db.1]; omega⟩, fun r3 hr3 q3 => ⟨fun c4 => ?_, fun c4 => ?_⟩⟩⟩⟩
      · rcases q2 with ⟨w, -⟩ | ⟨-, w⟩
        · omega
        · exact l94 (Or.inr (Or.inr (Or.inl w)))
      · have nA : ¬ AM h a b ba bb := by
          rintro (w | w | w | w)
          · exact c1 w
          · exact nj w
          · rcases q2 with ⟨-, y⟩ | ⟨y, -⟩
            · exact w y
            · exact c3 y
          · rcases q3 with ⟨-, y⟩ | ⟨y, -⟩
            · exact w y
            · exact c4 y
        refine ⟨fun c5 => ?_, fun c5 => leaf 3 (by decide) (by decide) (fun g R G M => Or.inr (Or.inr (Or.inl ⟨rfl, (mr_T G M).mp hT, fun y => nA ((mr_A G M ((mr_T G M).mp hT)).mpr y), by rw [← M.2.1]; exact c5⟩)))⟩
        -- the edge comes
        have hEC : ∀ g R, GI g R → MR h g R → EC g a b ba bb 0 := fun g R G M => Or.inr (Or.inr (Or.inr ⟨rfl, (mr_T G M).mp hT, fun y => nA ((mr_A G M ((mr_T G M).mp hT)).mpr y), by have := G.2.1; have := M.2.1; omega⟩))
        obtain ⟨p1, p2, A⟩ := addOk_ex G0 (hEC g0 R0 G0 M0)
        obtain ⟨-, -, -, hab, -, -, s1, s2⟩ := id A
        have hm0 : 0 ≤ h 30 2 := by rw [M0.2.1]; omega
        have hl : 0 ≤ h 30 3 ∧ h 30 3 ≤ 100 := by
          have := cnt_le (fun e => g0 9 e = 1) (g0 1 7).toNat
          rw [M0.2.2.1, G0.2.2.2.2.2.2]
          omega
        unfold V_X6_edge_112
        intro h1 e1
        have k0 : h1 30 0 = 0 := by rw [e1, hup_s]
        have k2 : h1 30 2 = h 30 2 := by rw [e1, hup_o (fun y => by have := y.2; omega)]
        rw [k0, k2]
        refine ⟨fun _ => ⟨by omega, fun h4 e4 => ?_⟩, fun c => absurd (Int.le_refl 0) c⟩
        have k4 : h4 30 2 = h 30 2 := by rw [e4, hup_k (by decide), k2]
        rw [k4]
        refine ⟨by omega, fun h6 e6 => ?_⟩
        have k6 : h6 30 2 = h 30 2 := by rw [e6, hup_k (by decide), k4]
        rw [k6]
        refine ⟨by omega, fun h8 e8 => ?_⟩
        have k8 : h8 30 2 = h 30 2 := by rw [e8, hup_k (by decide), k6]
        rw [k8]
        have E8 : h8 = hup (hup (hup (hup h 30 0 0) 31 (h 30 2) a) 32 (h 30 2) b) 33 (h 30 2) 0 := by rw [e8, e6, e4, e1]
        have k35 : h8 35 = h 35 := by rw [E8, hup_k (by decide), hup_k (by decide), hup_k (by decide), hup_k (by decide)]
        have k34 : h8 34 = h 34 := by rw [E8, hup_k (by decide), hup_k (by decide), hup_k (by decide), hup_k (by decide)]
        have rw8 : ∀ v, row h8 v = row h v := fun v => by unfold row; rw [k34]
        have P1 : Pm h8 a ba p1 := by
          have := mr_Pm G0 M0 t0.1 s1
          unfold Pm at this ⊢
          rw [k35, rw8]
          exact this
        refine ⟨⟨va, by rw [k35, da.1]; omega, p1, P1⟩, fun h10 f10 _ q10 => ?_⟩
        obtain ⟨i1, i2, i3, i4⟩ := q10 p1 P1
        rw [k35] at i1 i2 i3 i4
        rw [k34] at i4
        have rowb : ∀ k : Nat, (k : Int) < 30 → row h10 b k = row h b k := by
          intro k hk
          unfold row
          exact i4 _ (by omega)
        have P2 : Pm h10 b bb p2 := by
          have := mr_Pm G0 M0 t0.2.1 s2
          unfold Pm at this ⊢
          rw [i2 b (fun y => hab y.symm)]
          rcases this with w | ⟨w1, w2, w3, w4, w5⟩
          · exact Or.inl w
          · refine Or.inr ⟨w1, w2, w3, ?_, fun k hk => ?_⟩
            · rw [rowb _ (by omega)]; exact w4
            · rw [rowb _ (by omega)]; exact w5 k hk
        have k10 : h10 30 = h8 30 := f10 30 (by decide)
        rw [k10, k8]
        refine ⟨⟨vb, by rw [i2 b (fun y => hab y.symm), db.1]; omega, p2, P2⟩, fun h12 f12 _ q12 => ?_⟩
        have k12 : h12 30 = h8 30 := by rw [f12 30 (by decide), k10]
        have k12' : h12 30 2 = h 30 2 := by rw [k12, k8]
        rw [k12']
        refine ⟨by unfold InR; omega, fun h14 e14 => ?_⟩
        have k14 : h14 30 3 = h 30 3 := by rw [e14, hup_o (fun y => by have := y.2; omega), k12, E8, hup_k (by decide), hup_k (by decide), hup_k (by decide), hup_o (fun y => by have := y.2; omega)]
        rw [k14]
        refine ⟨by unfold InR; omega, fun h16 e16 => ⟨trivial, fun h18 f18 _ q18 => ?_⟩⟩
        have E16 : h16 = hup (hup h12 30 2 (h 30 2 + 1)) 30 3 (h 30 3 + 1) := by rw [e16, e14]
        rw [E16] at f18 q18
        have k18 : h18 30 2 = h 30 2 + 1 := by rw [q18.2.2 2 (by decide), hup_o (fun y => by have := y.2; omega), hup_s]
        have k18' : h18 30 0 = 0 := by rw [q18.2.2 0 (by decide), hup_o (fun y => by have := y.2; omega), hup_o (fun y => by have := y.2; omega), k12, E8, hup_k (by decide), hup_k (by decide), hup_k (by decide), hup_s]
        rw [k18]
        refine ⟨by unfold InR; omega, fun g R G M => ⟨0, hEC g R G M, k18', fun y => absurd rfl y, fun _ => ⟨by rw [← M.2.1]; omega, q18.1, q18.2.1, fun p1' p2' A' => medge_MR G M A' E8 f10 q10 f12 q12 f18 q18⟩⟩⟩
      · rcases q3 with ⟨w, -⟩ | ⟨-, w⟩
        · omega
        · exact l94 (Or.inr (Or.inr (Or.inr w)))
  have l29 : isV h a → isV h b → (ba = -1 ∨ isE h ba) → V_X6_edge_29 (fun r h1 => q_medge a b ba bb h r h1) (fun _ _ => True) q_isVertex p_isEdge q_isEdge p_insert q_insert (fun _ => True) q_mforget p_between q_between p_placeOf q_isRound h a b ba bb := by
    intro w1 w2 w3
    unfold V_X6_edge_29
    refine ⟨fun c => l44 ⟨w1, w2, w3, Or.inl c⟩, fun c => ⟨hle, fun r _ q => ⟨fun c1 => l48 ?_, fun c1 => l44 ⟨w1, w2, w3, Or.inr ?_⟩⟩⟩⟩
    · rcases q with ⟨y, -⟩ | ⟨-, y⟩
      · omega
      · rintro ⟨-, -, -, u | u⟩
        · exact c u
        · exact y u
    · rcases q with ⟨-, y⟩ | ⟨y, -⟩
      · exact y
      · exact absurd y c1
  unfold V_X6_edge
  refine ⟨trivial, fun r1 _ q1 => ⟨fun c => l48 ?_, fun c => ⟨trivial, fun r2 _ q2 => ⟨fun c2 => l48 ?_, fun c2 => ?_⟩⟩⟩⟩
  · rcases q1 with ⟨y, -⟩ | ⟨-, y⟩
    · omega
    · exact fun t => y t.1
  · rcases q2 with ⟨y, -⟩ | ⟨-, y⟩
    · omega
    · exact fun t => y t.2.1
  · have v1 : isV h a := by
      rcases q1 with ⟨-, y⟩ | ⟨y, -⟩
      · exact y
      · exact absurd y c
    have v2 : isV h b := by
      rcases q2 with ⟨-, y⟩ | ⟨y, -⟩
      · exact y
      · exact absurd y c2
    refine ⟨fun c3 => l29 v1 v2 (Or.inl c3), fun c3 => ⟨hle, fun r3 _ q3 => ⟨fun c4 => l48 ?_, fun c4 => l29 v1 v2 (Or.inr ?_)⟩⟩⟩
    · rcases q3 with ⟨y, -⟩ | ⟨-, y⟩
      · omega
      · rintro ⟨-, -, u | u, -⟩
        · exact c3 u
        · exact y u
    · rcases q3 with ⟨-, y⟩ | ⟨y, -⟩
      · exact y
      · exact absurd y c4

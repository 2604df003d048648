/-! The reference's faces: where its cells and the class's graph cells say the same -/
theorem GI_cong {h h' : Hp} {R : Int → Nat → Int} (G : GI h R) (e1 : h' 1 = h 1) (e6 : h' 6 = h 6) (e7 : h' 7 = h 7) (e8 : h' 8 = h 8) (e9 : h' 9 = h 9) (e10 : h' 10 = h 10) (e11 : h' 11 = h 11) : GI h' R := by
  obtain ⟨x1, x2, x3, x4, x5, x6, x7⟩ := G
  have eS : Sd h' = Sd h := Sd_cong (by rw [e1]) e9
  refine ⟨by rw [e1]; exact x1, by rw [e1]; exact x2, by rw [e1, e9]; exact x3, ?_, ?_, ?_, by rw [e1, e9]; exact x7⟩
  · rw [eS, e6, e1]; exact x4
  · rw [eS, e6]; exact x5
  · exact x6.cong (fun s => by rw [eS]) (by rw [e1]) e6 e7 e8 e10 e11
def Sy (h : Hp) : Prop := ∃ R, GI h R ∧ MR h h R
theorem MR_cong {h h' g g' : Hp} {R : Int → Nat → Int} (m : MR h g R) (d1 : h' 30 1 = h 30 1) (d2 : h' 30 2 = h 30 2) (d3 : h' 30 3 = h 30 3) (e31 : h' 31 = h 31) (e32 : h' 32 = h 32) (e33 : h' 33 = h 33) (e34 : h' 34 = h 34) (e35 : h' 35 = h 35) (c1 : g' 1 = g 1) (c6 : g' 6 = g 6) (c9 : g' 9 = g 9) (c11 : g' 11 = g 11) : MR h' g' R := by
  obtain ⟨m1, m2, m3, m4, m5⟩ := m
  refine ⟨by rw [d1, c1]; exact m1, by rw [d2, c1]; exact m2, by rw [d3, c1]; exact m3, ?_, ?_⟩
  · rw [e31, e32, e33, c1, c6, c9]; exact m4
  · intro v h1 h2
    rw [c1] at h2
    have := m5 v h1 h2
    rw [e35, c11]
    refine ⟨this.1, fun k hk => ?_⟩
    unfold row
    rw [e34]
    exact this.2 k hk
/-- only scratch cells of the two have changed -/
def Scr (h h' : Hp) : Prop := (∀ k ∈ [1, 6, 7, 8, 9, 10, 11, 31, 32, 33, 34, 35], h' k = h k) ∧ h' 30 1 = h 30 1 ∧ h' 30 2 = h 30 2 ∧ h' 30 3 = h 30 3
theorem Sy_cong {h h' : Hp} (s : Sy h) (e : Scr h h') : Sy h' := by
  obtain ⟨R, G, m⟩ := s
  obtain ⟨e, d1, d2, d3⟩ := e
  exact ⟨R, GI_cong G (e 1 (by decide)) (e 6 (by decide)) (e 7 (by decide)) (e 8 (by decide)) (e 9 (by decide)) (e 10 (by decide)) (e 11 (by decide)), MR_cong m d1 d2 d3 (e 31 (by decide)) (e 32 (by decide)) (e 33 (by decide)) (e 34 (by decide)) (e 35 (by decide)) (e 1 (by decide)) (e 6 (by decide)) (e 9 (by decide)) (e 11 (by decide))⟩
theorem Scr.of {M : List Nat} {h h' : Hp} (f : Fr M h h') (hM : ∀ k ∈ [1, 6, 7, 8, 9, 10, 11, 31, 32, 33, 34, 35], k ∉ M) (d1 : h' 30 1 = h 30 1) (d2 : h' 30 2 = h 30 2) (d3 : h' 30 3 = h 30 3) : Scr h h' := ⟨fun k hk => f k (hM k hk), d1, d2, d3⟩
-- nextSide
def p_nextSide (s : Int) (h : Hp) : Prop := Sy h ∧ Sd h s
def q_nextSide (s : Int) (h : Hp) (r : Int) : Prop := r = ph h s
theorem org_eq {h : Hp} {R : Int → Nat → Int} (G : GI h R) (m : MR h h R) {s : Int} (hs : Sd h s) : orgF h s = h 6 s := by
  have hm := m.2.2.2.1 (s / 2) (by have := hs.1; omega) (by have := hs.2.1; omega)
  unfold orgF
  by_cases w : s % 2 = 0
  · rw [if_pos w, hm.1]; congr 1; omega
  · rw [if_neg w, hm.2.1]; congr 1; omega
set_option maxHeartbeats 1000000 in
theorem ct_nextSide {l : Launch} (s : Int) (h : Hp) (hb : p_nextSide s h) : Ct l yX6_nextSide cX6_nextSide 5 (some .int) 1 23 0 [vr 30, vi s] h [] (fun r _ => q_nextSide s h r) (fun _ => False) := by
  obtain ⟨⟨R, G, m⟩, hs⟩ := hb
  have hlt := Sd_lt G hs
  have ht := Sd_tw hs
  have htl := Sd_lt G ht
  have hv := (G.2.2.2.1 _ ht).1
  have g1 := G.1
  have H := G.ring hv
  obtain ⟨p, hp, ep⟩ := H.2.2.2.1 _ ht rfl
  have hd := mr_deg G m (v := h 6 (tw s)) hv
  obtain ⟨a1, a2, a3⟩ := mr_place G m hv hp ep
  rw [tw_div] at a2 a3
  refine w_X6_nextSide _ p_origin q_origin p_placeOf q_placeOf h s ct_origin ct_placeOf (fun _ _ => ?_)
  unfold V_X6_nextSide
  rw [jx1 hlt]
  refine ⟨htl, fun r _ q z ez => ?_⟩
  have q : r = orgF h (tw s) := q
  rw [org_eq G m ht] at q
  have ez : z = h 6 (tw s) := by rw [ez, q]
  subst ez
  rw [tdiv2 hlt.1]
  refine ⟨by unfold InR; omega, ⟨by omega, by rw [hd.1]; omega⟩, fun r2 _ q2 => ?_⟩
  have er : r2 = p := by
    rcases q2 with ⟨-, w⟩ | ⟨k, w1, w2, w3, -⟩
    · exact absurd a2 (w p a1)
    · rw [w1, a3 k w2 w3]
  rw [er]
  refine ⟨by unfold InR; omega, fun z16 e16 => ⟨by unfold InR; omega, by omega, ?_⟩⟩
  -- the next place
  have key : ∀ k : Nat, (k : Int) < h 11 (h 6 (tw s)) → R (h 6 (tw s)) k = ph h s → V_X6_nextSide_42 (fun r _ => q_nextSide s h r) p_origin q_origin p_placeOf q_placeOf h (h 6 (tw s)) (30 * h 6 (tw s)) k := by
    intro k hk e
    have hsk := H.2.2.1 k hk
    have hr := mr_row G m hv hk
    have hrow := (m.2.2.2.2 _ hv.1 hv.2).2 k hk
    unfold V_X6_nextSide_42 V_X6_nextSide_70 InR
    refine ⟨by omega, by omega, fun z3 e3 => ?_⟩
    have e3 : z3 = row h (h 6 (tw s)) k := e3
    rw [← e3] at hr hrow
    have hm := m.2.2.2.1 z3 (by omega) (by have := hsk.1.2.1; omega)
    rw [hm.1]
    refine ⟨by omega, fun c => ⟨by omega, by omega, ?_⟩, fun c => ⟨by omega, ?_⟩⟩
    · show 2 * z3 + 1 = ph h s
      rw [← e]
      rcases half_cases _ _ hrow.symm with w | w
      · rw [w] at hsk; exact absurd hsk.2 c
      · exact w.symm
    · show 2 * z3 = ph h s
      rw [← e]
      rcases half_cases _ _ hrow.symm with w | w
      · exact w.symm
      · have := (G.2.2.2.1 _ hsk.1).2
        rw [w] at hsk this
        rw [tw_o] at this
        exact absurd (by rw [hsk.2, c]) this
  rw [hd.1]
  refine ⟨fun c => ?_, fun c => ?_⟩
  · have := key (p + 1) (by omega) (by
      have := (H.2.2.2.2.2.1 p (by omega)).1
      rw [ep] at this
      exact this.symm)
    rw [e16]
    exact this
  · have := key 0 (by omega) (by
      have := (H.2.2.2.2.2.2 p (by omega)).1
      rw [ep] at this
      exact this.symm)
    exact this
-- findFaces
def MFO (g h : Hp) : Prop := h 30 12 = cntP (LdF g) (2 * g 1 7).toNat ∧ ∀ t, LdF g t → ∀ u, Orb (ph g) t u → h 37 u = cntP (LdF g) t.toNat
def p_findFaces (h : Hp) : Prop := Sy h
def q_findFaces (h h' : Hp) : Prop := MFO h h' ∧ ∀ j, j ≠ 12 → h' 30 j = h 30 j
theorem Scr.ff {h h' : Hp} (f : Fr [30, 37] h h') (e : ∀ j, j ≠ 12 → h' 30 j = h 30 j) : Scr h h' := Scr.of f (by decide) (e 1 (by decide)) (e 2 (by decide)) (e 3 (by decide))
theorem here_m {h : Hp} {R : Int → Nat → Int} (G : GI h R) (m : MR h h R) {s : Int} (h0 : 0 ≤ s ∧ s < 2 * h 1 7) : (h 33 (s / 2) = 0 ↔ Sd h s) := by
  have hm := (m.2.2.2.1 (s / 2) (by omega) (by omega)).2.2
  unfold Sd
  constructor
  · intro w; exact ⟨h0.1, h0.2, by omega⟩
  · rintro ⟨-, -, w⟩; omega
set_option maxHeartbeats 2000000 in
theorem ct_findFaces {l : Launch} (h : Hp) (hb : p_findFaces h) : Ct l yX6_findFaces cX6_findFaces 3 none 2 47 0 [vr 30] h [30, 37] (fun _ h1 => q_findFaces h h1) (fun _ => False) := by
  obtain ⟨R, G, m⟩ := id hb
  have P := ph_perm G
  have g2 := G.2.1
  have hm2 : h 30 2 = h 1 7 := m.2.1
  refine w_X6_findFaces _ p_nextSide q_nextSide
    (fun n g x1 => ∃ k : Nat, x1 = k ∧ (k : Int) ≤ 2 * h 1 7 ∧ g 30 12 = 0 ∧ (∀ j, j ≠ 12 → g 30 j = h 30 j) ∧ (∀ u : Int, 0 ≤ u → u < k → g 37 u = -1) ∧ n = 200 - k)
    (fun n g x1 => ∃ k : Nat, x1 = k ∧ (k : Int) ≤ 2 * h 1 7 ∧ g 30 12 = cntP (LdF h) k ∧ (∀ j, j ≠ 12 → g 30 j = h 30 j) ∧ (∀ t, LdF h t → t < k → ∀ u, Orb (ph h) t u → g 37 u = cntP (LdF h) t.toNat) ∧ (∀ u, Sd h u → (∀ t, LdF h t → t < k → ¬ Orb (ph h) t u) → g 37 u = -1) ∧ n = 200 - k)
    (fun n32 n g x1 x2 => ∃ k i per : Nat, x1 = k ∧ (k : Int) < 2 * h 1 7 ∧ LdF h k ∧ Per (ph h) k per ∧ per ≤ 200 ∧ i ≤ per ∧ x2 = itF (ph h) i k ∧ g 30 12 = cntP (LdF h) k ∧ (∀ j, j ≠ 12 → g 30 j = h 30 j) ∧ (∀ t, LdF h t → t < k → ∀ u, Orb (ph h) t u → g 37 u = cntP (LdF h) t.toNat) ∧ (∀ j, j < i → g 37 (itF (ph h) j k) = cntP (LdF h) k) ∧ (∀ u, Sd h u → (∀ t, LdF h t → t < k → ¬ Orb (ph h) t u) → (∀ j, j < i → itF (ph h) j k ≠ u) → g 37 u = -1) ∧ n32 = 200 - k ∧ n = 200 - i) h ct_nextSide ?_ ?_ ?_ (fun _ => ?_)
  · rintro n g x1 - F - ⟨k, rfl, i1, i2, i3, i4, i5⟩
    unfold V_X6_findFaces_7
    rw [i3 2 (by decide), hm2]
    refine ⟨by unfold InR; omega, fun c z ez => ⟨200, 0, ez, by omega, by rw [i2]; rfl, i3, fun t ht ht2 => ?_, fun u hu _ => i4 u hu.1 (by have := hu.2.1; omega), rfl⟩, fun c => ⟨by omega, fun h24 e24 => ⟨by unfold InR; omega, fun z ez => ⟨200 - (k + 1), by omega, k + 1, by omega, by omega, by rw [e24, hup_k (by decide)]; exact i2, by rw [e24, hup_k (by decide)]; exact i3, fun u u1 u2 => ?_, rfl⟩⟩⟩⟩
    · have := (P.2.2 t ht.1).1
      omega
    · rw [e24]
      by_cases w : u = k
      · rw [w, hup_s]
      · rw [hup_o (fun z => w z.2)]
        exact i4 u u1 (by omega)
  · rintro n g x1 - F - ⟨k, rfl, i1, i2, i3, i4, i5, i6⟩
    have k33 : g 33 = h 33 := F 33 (by decide)
    have hcl := cntP_le (LdF h) k
    have same : ¬ LdF h k → (∀ t, LdF h t → t < ((k + 1 : Nat) : Int) → t < k) := fun hn t ht h2 => by
      rcases Classical.em (t < k) with w | w
      · exact w
      · exact absurd (show LdF h k by rw [← show t = (k : Int) by omega]; exact ht) hn
    unfold V_X6_findFaces_32 V_X6_findFaces_104
    rw [i3 2 (by decide), hm2, k33, tdiv2 (show (0 : Int) ≤ k by omega)]
    refine ⟨by unfold InR; omega, fun c => ?_, fun c => ⟨⟨by omega, by unfold InR; omega⟩, by omega, fun c1 => ⟨by unfold InR; omega, fun z ez => ?_⟩, fun c1 => ⟨by omega, fun c2 => ⟨by unfold InR; omega, fun z ez => ?_⟩, fun c2 z ez => ?_⟩⟩⟩
    · have hk : k = (2 * h 1 7).toNat := by omega
      exact ⟨⟨by rw [i2, hk], fun t ht => i4 t ht (by have := ht.1.2.1; omega)⟩, i3⟩
    · have hn : ¬ LdF h k := fun z => c1 ((here_m G m ⟨by omega, by omega⟩).mpr z.1)
      exact ⟨200 - (k + 1), by omega, k + 1, by omega, by omega, by rw [i2, cntP_f hn], i3, fun t ht h2 => i4 t ht (same hn t ht h2), fun u hu hno => i5 u hu (fun t ht h2 => hno t ht (by omega)), rfl⟩
    · have hsd : Sd h k := (here_m G m ⟨by omega, by omega⟩).mp c1
      have hn : ¬ LdF h k := by
        intro z
        refine c2 (i5 k hsd (fun t ht h2 o => ?_))
        have := lead_uniq P ht z o
        omega
      exact ⟨200 - (k + 1), by omega, k + 1, by omega, by omega, by rw [i2, cntP_f hn], i3, fun t ht h2 => i4 t ht (same hn t ht h2), fun u hu hno => i5 u hu (fun t ht h2 => hno t ht (by omega)), rfl⟩
    · have hsd : Sd h k := (here_m G m ⟨by omega, by omega⟩).mp c1
      have hld : LdF h k := by
        obtain ⟨t, ht, o, hle⟩ := lead_ex P hsd
        rcases Classical.em (t < k) with w | w
        · have := i4 t ht w k o
          have h3 := cntP_le (LdF h) t.toNat
          omega
        · rw [show (k : Int) = t by omega]; exact ht
      obtain ⟨per, pp, pN⟩ := P.per hsd
      exact ⟨200, k, 0, per, rfl, by omega, hld, pp, pN, by omega, ez, i2, i3, i4, fun j hj => by omega, fun u hu hno _ => i5 u hu hno, i6, rfl⟩
  · rintro n32 n g x1 x2 - F - - ⟨k, i, per, rfl, i1, i2, pp, pN, i3, rfl, i4, i5, i6, i7, i8, i9, i10⟩
    have hs := P.it i2.1 i
    have hlt := Sd_lt G hs
    have hcl := cntP_le (LdF h) k
    have eP : ph g = ph h := ph_cong (F 7 (by decide))
    have eS : Sd g = Sd h := Sd_cong (by rw [F 1 (by decide)]) (F 9 (by decide))
    have hkn : (((k : Nat) : Int)).toNat = k := by omega
    unfold V_X6_findFaces_65 V_X6_findFaces_104
    refine ⟨hlt, fun c => ?_, fun c => ⟨hlt, fun h8 e8 => ?_⟩⟩
    · -- all of the walk is numbered
      have hi : i = per := by
        rcases Nat.lt_or_ge i per with w | w
        · exfalso
          refine c (i8 _ hs (fun t ht h2 o => ?_) (fun j hj e => ?_))
          · have := lead_uniq P ht i2 (o.trans (Orb.symm P i2.1 ⟨i, rfl⟩))
            omega
          · have := Per.inj P i2.1 pp j i (by omega) w e
            omega
        · omega
      rw [i4]
      refine ⟨by unfold InR; omega, fun h6 e6 => ⟨by unfold InR; omega, fun z ez => ⟨200 - (k + 1), by omega, k + 1, by omega, by omega, by rw [e6, hup_s, cntP_t i2], fun j hj => by rw [e6, hup_o (fun z => hj z.2)]; exact i5 j hj, fun t ht h2 u hu => ?_, fun u hu hno => ?_, rfl⟩⟩⟩
      · rw [e6, hup_k (by decide)]
        by_cases w : t = k
        · rw [w] at hu ⊢
          rw [hkn]
          obtain ⟨j, hj, ej⟩ := pp.orb hu
          rw [← ej]
          exact i7 j (by omega)
        · exact i6 t ht (by omega) u hu
      · rw [e6, hup_k (by decide)]
        exact i8 u hu (fun t ht h2 => hno t ht (by omega)) (fun j hj e => hno k i2 (by omega) ⟨j, e⟩)
    · have hi : i < per := by
        rcases Nat.lt_or_ge i per with w | w
        · exact w
        · exfalso
          have e0 : itF (ph h) i k = itF (ph h) 0 k := by rw [show i = per by omega]; exact pp.2.1
          have := i7 0 (by have := pp.1; omega)
          rw [← e0, c] at this
          omega
      have F8 : Fr [30, 37] h h8 := by rw [e8]; exact F.up (by decide)
      have S8 : Sy h8 := Sy_cong hb (Scr.of (M := [30, 37]) F8 (by decide) (by rw [e8, hup_k (by decide)]; exact i5 1 (by decide)) (by rw [e8, hup_k (by decide)]; exact i5 2 (by decide)) (by rw [e8, hup_k (by decide)]; exact i5 3 (by decide)))
      have e8S : Sd h8 = Sd h := by rw [Sd_cong (g := g) (by rw [e8, hup_k (by decide)]) (by rw [e8, hup_k (by decide)]), eS]
      have e8P : ph h8 = ph h := by rw [ph_cong (g := g) (by rw [e8, hup_k (by decide)]), eP]
      refine ⟨⟨S8, by rw [e8S]; exact hs⟩, fun r _ q z ez => ⟨200 - (i + 1), by omega, k, i + 1, per, rfl, i1, i2, pp, pN, by omega, ?_, by rw [e8, hup_k (by decide)]; exact i4, by rw [e8, hup_k (by decide)]; exact i5, fun t ht h2 u hu => ?_, fun j hj => ?_, fun u hu hno hj => ?_, i9, rfl⟩⟩
      · have q : r = ph h8 (itF (ph h) i k) := q
        rw [ez, q, e8P]
        rfl
      · rw [e8, hup_o (fun z => ?_)]
        · exact i6 t ht h2 u hu
        · have := lead_uniq P ht i2 ((show Orb (ph h) t (itF (ph h) i k) by rw [← z.2]; exact hu).trans (Orb.symm P i2.1 ⟨i, rfl⟩))
          omega
      · rw [e8]
        by_cases w : j = i
        · rw [w, hup_s]; exact i4
        · rw [hup_o (fun z => w (Per.inj P i2.1 pp j i (by omega) hi z.2))]
          exact i7 j (by omega)
      · rw [e8, hup_o (fun z => hj i (by omega) z.2.symm)]
        exact i8 u hu hno (fun j' hj' => hj j' (by omega))
  · unfold V_X6_findFaces
    exact fun h27 e27 z ez => ⟨200, 0, ez, by omega, by rw [e27, hup_s], fun j hj => by rw [e27, hup_o (fun z => hj z.2)], fun u u1 u2 => by omega, rfl⟩

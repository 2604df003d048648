/-! The reference's findTree, parts, above, genus -/
def p_findTree (h : Hp) : Prop := Sy h
def q_findTree (h h' : Hp) : Prop := TMr h' (tr h) ∧ ∀ j, j ≠ 16 → h' 30 j = h 30 j
theorem Keep.ft {a b : Hp} (x : ∀ j, j ≠ 16 → b 30 j = a 30 j) : Keep a b := fun j _ _ h3 _ => x j h3
theorem initT_18 : ∀ (k : Nat) {h : Hp} {v : Int}, 0 ≤ v → v < k → initT k h 18 v = -1 := fun k h v h1 h2 => (initT_ok k (h := h)).2 v h1 h2
set_option maxHeartbeats 1000000 in
theorem ct_findTree {l : Launch} (h : Hp) (hb : p_findTree h) : Ct l yX6_findTree cX6_findTree 2 none 2 48 0 [vr 30] h [30, 38, 39, 40] (fun _ h1 => q_findTree h h1) (fun _ => False) := by
  obtain ⟨R, G, m⟩ := id hb
  have g1 := G.1
  have hm1 : h 30 1 = h 1 6 := m.1
  refine w_X6_findTree _ p_spread q_spread
    (fun n a x1 => ∃ k : Nat, x1 = k ∧ (k : Int) ≤ h 1 6 ∧ a 30 16 = 0 ∧ (∀ j, j ≠ 16 → a 30 j = h 30 j) ∧ (∀ v : Int, 0 ≤ v → v < k → a 39 v = -1 ∧ a 38 v = -1) ∧ n = 30 - k)
    (fun n a x1 => ∃ k : Nat, x1 = k ∧ (k : Int) ≤ h 1 6 ∧ TMr a (survL k (g0 h)) ∧ (∀ j, j ≠ 16 → a 30 j = h 30 j) ∧ n = 30 - k) h ct_spread ?_ ?_ (fun _ => ?_)
  · rintro n a x1 - F - ⟨k, rfl, i1, i2, i3, i4, i5⟩
    unfold V_X6_findTree_7
    rw [i3 1 (by decide), hm1]
    refine ⟨fun c z ez => ⟨30, 0, ez, by omega, ⟨fun v v1 v2 => ?_, by show _ = g0 h 3 7; rw [g0_37]; exact i2⟩, i3, rfl⟩, fun c => ⟨by omega, fun h13 e13 => ⟨by omega, fun h15 e15 => ⟨by unfold InR; omega, fun z ez => ⟨30 - (k + 1), by omega, k + 1, by omega, by omega, by rw [e15, hup_k (by decide), e13, hup_k (by decide)]; exact i2, fun j hj => by rw [e15, hup_k (by decide), e13, hup_k (by decide)]; exact i3 j hj, fun v v1 v2 => ?_, rfl⟩⟩⟩⟩⟩
    · rw [F 1 (by decide)] at v2
      have e18 : survL 0 (g0 h) 18 v = -1 := by
        show g0 h 18 v = -1
        unfold g0
        rw [hup_k (by decide)]
        exact initT_18 _ v1 (by omega)
      rw [e18, if_pos rfl]
      exact i4 v v1 (by omega)
    · rw [e15, e13]
      by_cases w : v = k
      · rw [w]
        exact ⟨by rw [hup_k (by decide), hup_s], by rw [hup_s]⟩
      · rw [hup_k (by decide), hup_o (fun z => w z.2), hup_o (fun z => w z.2), hup_k (by decide)]
        exact i4 v v1 (by omega)
  · rintro n a x1 - F - ⟨k, rfl, i1, i2, i3, i5⟩
    have f30 : ∀ q, q < 30 → a q = h q := fun q hq => F q (by intro z; simp only [List.mem_cons, List.not_mem_nil, or_false] at z; omega)
    have eg : g0 a = g0 h := g0_cong f30
    have Sa : Sy a := Sy_keep hb F (by decide) (Keep.ft i3)
    have so := surv_ok k (h := g0 h) g0_37
    unfold V_X6_findTree_37 V_X6_findTree_70
    rw [i3 1 (by decide), hm1]
    refine ⟨fun c => ⟨?_, i3⟩, fun c => ⟨by omega, fun c1 => ⟨by unfold InR; omega, fun z ez => ⟨30 - (k + 1), by omega, k + 1, by omega, by omega, ?_, i3, rfl⟩⟩, fun c1 => ⟨⟨Sa, ⟨by omega, by rw [f30 1 (by decide)]; omega⟩, ?_, ?_⟩, fun h7 f7 _ q7 => ?_⟩⟩⟩
    · unfold tr
      rw [show (h 1 6).toNat = k by omega]
      exact i2
    · have e := (i2.1 k (by omega) (by rw [f30 1 (by decide)]; omega)).1
      show TMr a (if _ then _ else _)
      rw [if_neg (by rw [← e]; exact c1)]
      exact i2
    · rw [eg]
      exact i2
    · have e := (i2.1 k (by omega) (by rw [f30 1 (by decide)]; omega)).1
      rw [eg]
      show survL k (g0 h) 18 k = -1
      rw [← e]
      exact c1
    · have e := (i2.1 k (by omega) (by rw [f30 1 (by decide)]; omega)).1
      have q7 : TMr h7 (growH (survL k (g0 a)) k) := q7
      rw [eg] at q7
      have e16 : h7 30 16 = survL k (g0 h) 3 7 := by rw [q7.2, growH_37]
      rw [e16]
      refine ⟨by unfold InR; omega, fun h9 e9 => ⟨by unfold InR; omega, fun z ez => ⟨30 - (k + 1), by omega, k + 1, by omega, by omega, ?_, fun j hj => by rw [e9, hup_o (fun z => hj z.2), f7 30 (by decide)]; exact i3 j hj, rfl⟩⟩⟩
      show TMr h9 (if _ then _ else _)
      rw [if_pos (by rw [← e]; exact c1), growH_37]
      refine ⟨fun v v1 v2 => ?_, by rw [e9, hup_s, hup_s]⟩
      rw [e9, hup_k (by decide)] at v2
      rw [e9, hup_k (by decide), hup_k (by decide), hup_k (by decide), hup_k (by decide)]
      exact q7.1 v v1 v2
  · unfold V_X6_findTree
    exact fun h18 e18 z ez => ⟨30, 0, ez, by omega, by rw [e18, hup_s], fun j hj => by rw [e18, hup_o (fun z => hj z.2)], fun v v1 v2 => by omega, rfl⟩
theorem lt30 {M : List Nat} {h h' : Hp} (f : Fr M h h') (hM : ∀ k ∈ M, 30 ≤ k) : ∀ k, k < 30 → h' k = h k := fun k hk => f k (fun z => by have := hM k z; omega)
-- parts
def q_mparts (h : Hp) (r : Int) (h' : Hp) : Prop := r = tr h 3 7 ∧ Keep h h'
theorem ct_mparts {l : Launch} (h : Hp) (hb : Sy h) : Ct l yX6_parts cX6_parts 1 (some .int) 3 69 0 [vr 30] h [30, 38, 39, 40] (fun r h1 => q_mparts h r h1) (fun _ => False) := by
  refine w_X6_parts _ p_findTree q_findTree h ct_findTree (fun _ => ?_)
  unfold V_X6_parts
  intro h1 e1
  have k1 : Keep h h1 := Keep.code e1
  have f1 : Fr [30, 38, 39, 40] h h1 := by rw [e1]; exact Fr.rf.up (by decide)
  refine ⟨Sy_keep hb f1 (by decide) k1, fun h3 f3 _ q3 => ⟨?_, k1.trans (Keep.ft q3.2)⟩⟩
  rw [q3.1.2, tr_cong (lt30 f1 (by decide))]
-- above
def q_mabove (v : Int) (h : Hp) (r : Int) (h' : Hp) : Prop := Keep h h' ∧ ((isV h v ∧ h' 30 0 = 0 ∧ r = (if tr h 18 v = -1 then -1 else tr h 15 v)) ∨ (¬ isV h v ∧ h' 30 0 = 1))
theorem ct_mabove {l : Launch} (v : Int) (h : Hp) (hb : Sy h) : Ct l yX6_above cX6_above 2 (some .int) 3 69 0 [vr 30, vi v] h [30, 38, 39, 40] (fun r h1 => q_mabove v h r h1) (fun _ => False) := by
  obtain ⟨R, G, m⟩ := id hb
  have g1 := G.1
  refine w_X6_above _ (fun _ _ => True) q_isVertex p_findTree q_findTree h v (fun v g _ => ct_isVertex v g) ct_findTree (fun _ _ => ?_)
  unfold V_X6_above V_X6_above_14
  refine ⟨trivial, fun r _ q => ⟨fun c h1 e1 => ?_, fun c h1 e1 => ?_⟩⟩
  · have k : h1 30 0 = 1 := by rw [e1, hup_s]
    rw [k]
    refine ⟨fun z => by omega, fun _ => ⟨Keep.code e1, Or.inr ⟨?_, k⟩⟩⟩
    rcases q with ⟨y, -⟩ | ⟨-, y⟩
    · omega
    · exact y
  · have k : h1 30 0 = 0 := by rw [e1, hup_s]
    have hv : isV h v := by
      rcases q with ⟨-, y⟩ | ⟨y, -⟩
      · exact y
      · exact absurd y c
    have hv' := hv
    unfold isV at hv'
    rw [m.1] at hv'
    have k1 : Keep h h1 := Keep.code e1
    have f1 : Fr [30, 38, 39, 40] h h1 := by rw [e1]; exact Fr.rf.up (by decide)
    rw [k]
    refine ⟨fun _ => ⟨Sy_keep hb f1 (by decide) k1, fun h4 f4 _ q4 => ⟨by omega, k1.trans (Keep.ft q4.2), Or.inl ⟨hv, ?_, ?_⟩⟩⟩, fun z => absurd (Int.le_refl 0) z⟩
    · rw [q4.2 0 (by decide)]; exact k
    · have e4 : h4 1 = h 1 := by rw [f4 1 (by decide), f1 1 (by decide)]
      have := (q4.1.1 v hv'.1 (by rw [e4]; exact hv'.2)).2
      rw [tr_cong (lt30 f1 (by decide))] at this
      exact this
-- genus
noncomputable def gnF (h : Hp) : Int := tr h 3 7 - (h 1 6 - h 1 8 + nF h + cnt (fun v => h 11 v = 0) (h 1 6).toNat).tdiv 2
def q_genusOf (h : Hp) (r : Int) (h' : Hp) : Prop := r = gnF h ∧ Keep h h' ∧ h' 30 0 = h 30 0 ∧ MFO h h' ∧ TMr h' (tr h)
theorem td2 {x : Int} (h : -1000 ≤ x ∧ x ≤ 1000) : -1000 ≤ x.tdiv 2 ∧ x.tdiv 2 ≤ 1000 := by
  rcases Int.le_total 0 x with w | w
  · rw [tdiv2 w]; omega
  · obtain ⟨y, rfl⟩ : ∃ y, x = -y := ⟨-x, by omega⟩
    rw [Int.neg_tdiv, tdiv2 (show (0 : Int) ≤ y by omega)]
    omega
theorem nF_le {h : Hp} {R : Int → Nat → Int} (G : GI h R) : 0 ≤ nF h ∧ nF h ≤ 200 := by
  have := cntP_le (LdF h) (2 * h 1 7).toNat
  have := G.2.1
  unfold nF
  omega
theorem tr_37 {h : Hp} {R : Int → Nat → Int} (G : GI h R) : 0 ≤ tr h 3 7 ∧ tr h 3 7 ≤ 30 := by
  have := surv_ok (h 1 6).toNat (h := g0 h) g0_37
  have := G.1
  unfold tr
  omega
set_option maxHeartbeats 1000000 in
theorem ct_genusOf {l : Launch} (h : Hp) (hb : Sy h) : Ct l yX6_genusOf cX6_genusOf 3 (some .int) 3 69 0 [vr 30] h [30, 37, 38, 39, 40] (fun r h1 => q_genusOf h r h1) (fun _ => False) := by
  obtain ⟨R, G, m⟩ := id hb
  have g1 := G.1
  have g2 := G.2.1
  have hl := cnt_le (fun e => h 9 e = 1) (h 1 7).toNat
  have n1 := nF_le G
  have n2 := tr_37 G
  refine w_X6_genusOf _ p_findTree q_findTree p_findFaces q_findFaces (fun n a x1 x2 => ∃ k : Nat, x2 = k ∧ (k : Int) ≤ h 1 6 ∧ x1 = cnt (fun v => h 11 v = 0) k ∧ Keep h a ∧ a 30 0 = h 30 0 ∧ a 30 12 = nF h ∧ a 30 16 = tr h 3 7 ∧ MFO h a ∧ TMr a (tr h) ∧ n = 30 - k) h ct_findTree ct_findFaces ?_ (fun _ => ?_)
  · rintro n a x1 x2 - F - - ⟨k, rfl, i1, i2, i3, i4, i5, i6, i7, i8, i9⟩
    have hc := cnt_le (fun v => h 11 v = 0) k
    have k1 : a 30 1 = h 1 6 := by rw [i3 1 (by decide) (by decide) (by decide) (by decide)]; exact m.1
    have k3 : a 30 3 = h 1 8 := by rw [i3 3 (by decide) (by decide) (by decide) (by decide)]; exact m.2.2.1
    have g7 := G.2.2.2.2.2.2
    have next : ∀ y, y = cnt (fun v => h 11 v = 0) (k + 1) → (k : Int) < h 1 6 → V_X6_genusOf_36 (fun r h1 => q_genusOf h r h1) p_findTree q_findTree p_findFaces q_findFaces (fun n a x1 x2 => ∃ k : Nat, x2 = k ∧ (k : Int) ≤ h 1 6 ∧ x1 = cnt (fun v => h 11 v = 0) k ∧ Keep h a ∧ a 30 0 = h 30 0 ∧ a 30 12 = nF h ∧ a 30 16 = tr h 3 7 ∧ MFO h a ∧ TMr a (tr h) ∧ n = 30 - k) n a k y := by
      intro y ey hk
      unfold V_X6_genusOf_36
      exact fun z ez => ⟨by unfold InR; omega, fun z2 e2 => ⟨30 - (k + 1), by omega, k + 1, by omega, by omega, by rw [ez, ey], i3, i4, i5, i6, i7, i8, rfl⟩⟩
    unfold V_X6_genusOf_12
    rw [k1, k3, i5, i6]
    refine ⟨fun c => ?_, fun c => ⟨by omega, fun c1 => next _ ?_ (by omega), fun c1 => ⟨by unfold InR; omega, next _ ?_ (by omega)⟩⟩⟩
    · have hk : k = (h 1 6).toNat := by omega
      have b : -1000 ≤ h 1 6 - h 1 8 + nF h + x1 ∧ h 1 6 - h 1 8 + nF h + x1 ≤ 1000 := by omega
      have td : -1000 ≤ (h 1 6 - h 1 8 + nF h + x1).tdiv 2 ∧ (h 1 6 - h 1 8 + nF h + x1).tdiv 2 ≤ 1000 := td2 b
      refine ⟨by unfold InR; omega, by unfold InR; omega, by unfold InR; omega, ⟨by omega, by unfold InR; omega⟩, by unfold InR; omega, ?_, i3, i4, i7, i8⟩
      unfold gnF
      rw [i2, hk]
    · have k35 : a 35 = h 35 := F 35 (by decide)
      rw [k35, (mr_deg G m ⟨by omega, by omega⟩).1] at c1
      rw [cnt_succ, if_neg c1, i2]
      omega
    · have k35 : a 35 = h 35 := F 35 (by decide)
      rw [k35, (mr_deg G m ⟨by omega, by omega⟩).1] at c1
      rw [cnt_succ, if_pos c1, i2]
  · unfold V_X6_genusOf
    refine ⟨hb, fun h14 f14 _ q14 => ?_⟩
    have k14 : Keep h h14 := Keep.ft q14.2
    have S14 : Sy h14 := Sy_keep hb f14 (by decide) k14
    have g14 : Gs h h14 := Gs.of f14 (by decide)
    refine ⟨S14, fun h16 f16 _ q16 z ez z2 e2 => ⟨30, 0, e2, by omega, by rw [ez]; rfl, k14.trans (Keep.ff q16.2), ?_, ?_, ?_, ?_, ?_, rfl⟩⟩
    · rw [q16.2 0 (by decide)]; exact q14.2 0 (by decide)
    · rw [q16.1.1]; exact Gs_nF g14
    · rw [q16.2 16 (by decide)]; exact q14.1.2
    · exact MFO_cong q16.1 g14.S.symm g14.P.symm (by rw [g14.1]) rfl rfl
    · refine ⟨fun v v1 v2 => ?_, by rw [q16.2 16 (by decide)]; exact q14.1.2⟩
      rw [f16 1 (by decide)] at v2
      rw [f16 39 (by decide), f16 38 (by decide)]
      exact q14.1.1 v v1 v2
def q_mgenus (h : Hp) (r : Int) (h' : Hp) : Prop := r = gnF h ∧ Keep h h'
theorem gnF_cong {h h' : Hp} (e : ∀ k, k < 30 → h' k = h k) : gnF h' = gnF h := by
  have gs : Gs h h' := ⟨e 1 (by decide), e 6 (by decide), e 7 (by decide), e 8 (by decide), e 9 (by decide), e 10 (by decide), e 11 (by decide)⟩
  unfold gnF
  rw [tr_cong e, Gs_nF gs, e 1 (by decide), e 11 (by decide)]
theorem ct_mgenus {l : Launch} (h : Hp) (hb : Sy h) : Ct l yX6_genus cX6_genus 1 (some .int) 4 91 0 [vr 30] h [30, 37, 38, 39, 40] (fun r h1 => q_mgenus h r h1) (fun _ => False) := by
  refine w_X6_genus _ Sy q_genusOf h ct_genusOf (fun _ => ?_)
  unfold V_X6_genus
  intro h1 e1
  have k1 : Keep h h1 := Keep.code e1
  have f1 : Fr [30, 37, 38, 39, 40] h h1 := by rw [e1]; exact Fr.rf.up (by decide)
  refine ⟨Sy_keep hb f1 (by decide) k1, fun r h4 f4 _ _ q4 => ⟨?_, k1.trans q4.2.1⟩⟩
  rw [q4.1]
  exact gnF_cong (lt30 f1 (by decide))

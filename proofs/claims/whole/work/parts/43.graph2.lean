/-! Graph: taking sides; the whole invariant; adding and dropping an edge -/
def takeH (h : Hp) (x : Int) : Hp :=
  if h 11 (h 6 x) - 1 = 0 then hup (hup h 11 (h 6 x) (h 11 (h 6 x) - 1)) 10 (h 6 x) (-1)
  else linkH (if h 10 (h 6 x) = x then hup (hup h 11 (h 6 x) (h 11 (h 6 x) - 1)) 10 (h 6 x) (h 7 x) else hup h 11 (h 6 x) (h 11 (h 6 x) - 1)) (h 8 x) (h 7 x)
def p_takeSide (x : Int) (h : Hp) : Prop := (0 ≤ x ∧ x < 200) ∧ (0 ≤ h 6 x ∧ h 6 x < 30) ∧ InR (h 11 (h 6 x) - 1) ∧ (h 11 (h 6 x) - 1 ≠ 0 → (0 ≤ h 8 x ∧ h 8 x < 200) ∧ 0 ≤ h 7 x ∧ h 7 x < 200)
def q_takeSide (x : Int) (h h' : Hp) : Prop := h' = takeH h x
theorem ct_takeSide {l : Launch} (x : Int) (h : Hp) (hb : p_takeSide x h) : Ct l yX2_takeSide cX2_takeSide 3 none 1 22 0 [vr 1, vi x] h [7, 8, 10, 11] (fun _ h1 => q_takeSide x h h1) (fun _ => False) := by
  obtain ⟨h1, h2, h3, h4⟩ := hb
  refine w_X2_takeSide _ p_link q_link h x ct_link (fun _ _ => ?_)
  unfold V_X2_takeSide V_X2_takeSide_56
  refine ⟨h1, fun z ez => ?_⟩
  subst ez
  refine ⟨h2, h3, h2, fun g e1 => ⟨h2, ?_⟩⟩
  have k11 : g 11 (h 6 x) = h 11 (h 6 x) - 1 := by rw [e1, hup_s]
  have k10 : g 10 = h 10 := by rw [e1, hup_k (by decide)]
  have k8 : g 8 = h 8 := by rw [e1, hup_k (by decide)]
  have k7 : g 7 = h 7 := by rw [e1, hup_k (by decide)]
  rw [k11, k10, k8, k7]
  refine ⟨fun c => ⟨h2, fun c1 => ⟨h1, h1, ⟨(h4 c).1, (h4 c).2⟩, fun h5 _ _ g5 => ?_⟩, fun c1 => ⟨h1, h2, fun g2 e2 => ⟨h1, h1, ?_⟩⟩⟩, fun c => ⟨h2, fun g2 e2 => ?_⟩⟩
  · show h5 = takeH h x
    unfold takeH
    rw [if_neg c, if_neg c1, ← e1]
    exact g5
  · have m8 : g2 8 = h 8 := by rw [e2, hup_k (by decide), k8]
    have m7 : g2 7 = h 7 := by rw [e2, hup_k (by decide), k7]
    rw [m8, m7]
    refine ⟨⟨(h4 c).1, (h4 c).2⟩, fun h5 _ _ g5 => ?_⟩
    show h5 = takeH h x
    unfold takeH
    rw [if_neg c, if_pos c1, ← e1, ← e2]
    exact g5
  · show g2 = takeH h x
    unfold takeH
    rw [if_pos c, ← e1]
    exact e2
theorem Rg.none {S' : Int → Prop} {st' nx' pv' : Int → Int} {v f' : Int} {r : Nat → Int} (hS : ∀ s, S' s → st' s = v → False) : Rg S' st' nx' pv' v f' 0 r :=
  ⟨Int.le_refl _, fun i j hi _ _ => by omega, fun i hi => by omega, fun s hs hv => absurd (hS s hs hv) id, fun h => by omega, fun i hi => by omega, fun i hi => by omega⟩
set_option maxHeartbeats 1000000 in
theorem take_RI {S : Int → Prop} {h : Hp} {R : Int → Nat → Int} {x : Int} {p : Nat} (H : RI S h R) (hv : 0 ≤ h 6 x ∧ h 6 x < h 1 6) (hp : (p : Int) < h 11 (h 6 x)) (hpx : R (h 6 x) p = x) :
    RI (fun s => S s ∧ s ≠ x) (takeH h x) (updR R (h 6 x) (delF (R (h 6 x)) p)) := by
  obtain ⟨v, ev⟩ : ∃ v, v = h 6 x := ⟨_, rfl⟩
  rw [← ev] at hv hp hpx ⊢
  have Hv := H v hv.1 hv.2
  have hn : takeH h x 1 = h 1 := by
    unfold takeH
    split
    · rw [hup_k (by decide), hup_k (by decide)]
    · rw [link_k (by decide) (by decide)]
      split
      · rw [hup_k (by decide), hup_k (by decide)]
      · rw [hup_k (by decide)]
  have h6' : takeH h x 6 = h 6 := by
    unfold takeH
    split
    · rw [hup_k (by decide), hup_k (by decide)]
    · rw [link_k (by decide) (by decide)]
      split
      · rw [hup_k (by decide), hup_k (by decide)]
      · rw [hup_k (by decide)]
  have h11' : takeH h x 11 = hup h 11 v (h 11 v - 1) 11 := by
    unfold takeH
    rw [← ev]
    split
    · rw [hup_k (by decide)]
    · rw [link_k (by decide) (by decide)]
      split
      · rw [hup_k (by decide)]
      · rfl
  have h10o : ∀ u, u ≠ v → takeH h x 10 u = h 10 u := by
    intro u hu
    unfold takeH
    rw [← ev]
    split
    · rw [hup_o (fun z => hu z.2), hup_k (by decide)]
    · rw [link_k (by decide) (by decide)]
      split
      · rw [hup_o (fun z => hu z.2), hup_k (by decide)]
      · rw [hup_k (by decide)]
  have hSx : S x ∧ h 6 x = v := by rw [← hpx]; exact Hv.2.2.1 p hp
  intro u hu0 hu1
  rw [hn] at hu1
  rw [h6']
  by_cases hd : h 11 v - 1 = 0
  · have e : takeH h x = hup (hup h 11 v (h 11 v - 1)) 10 v (-1) := by unfold takeH; rw [← ev]; exact if_pos hd
    by_cases q : u = v
    · subst q
      rw [updR_s, h11', hup_s, hd]
      refine Rg.none (fun s hs hsu => ?_)
      obtain ⟨i, hi, ei⟩ := Hv.2.2.2.1 s hs.1 hsu
      have : i = p := by omega
      rw [this, hpx] at ei
      exact hs.2 ei.symm
    · rw [updR_o q, h11', hup_o (fun z => q z.2), h10o u q]
      refine (H u hu0 hu1).same (fun s => ⟨fun w => ⟨w.1.1, w.2⟩, fun w => ⟨⟨w.1, fun z => q (by rw [← w.2, z]; exact hSx.2)⟩, w.2⟩⟩) (fun s hs hsu => ?_) (fun s hs hsu => ?_)
      · rw [e, hup_k (by decide), hup_k (by decide)]
      · rw [e, hup_k (by decide), hup_k (by decide)]
  · have e : takeH h x = linkH (if h 10 v = x then hup (hup h 11 v (h 11 v - 1)) 10 v (h 7 x) else hup h 11 v (h 11 v - 1)) (h 8 x) (h 7 x) := by unfold takeH; rw [← ev]; exact if_neg hd
    have h7' : ∀ s, takeH h x 7 s = if s = h 8 x then h 7 x else h 7 s := by
      intro s
      rw [e]
      unfold linkH
      rw [hup_k (by decide)]
      by_cases z : s = h 8 x
      · rw [if_pos z, z, hup_s]
      · rw [if_neg z, hup_o (fun w => z w.2)]
        split
        · rw [hup_k (by decide), hup_k (by decide)]
        · rw [hup_k (by decide)]
    have h8' : ∀ s, takeH h x 8 s = if s = h 7 x then h 8 x else h 8 s := by
      intro s
      rw [e]
      unfold linkH
      by_cases z : s = h 7 x
      · rw [if_pos z, z, hup_s]
      · rw [if_neg z, hup_o (fun w => z w.2), hup_k (by decide)]
        split
        · rw [hup_k (by decide), hup_k (by decide)]
        · rw [hup_k (by decide)]
    have h10' : takeH h x 10 v = if h 10 v = x then h 7 x else h 10 v := by
      rw [e, link_k (by decide) (by decide)]
      split
      · rw [hup_s]
      · rw [hup_k (by decide)]
    -- the sides ahead of and behind x start at v
    have hnv : S (h 7 x) ∧ h 6 (h 7 x) = v := by
      rw [← hpx]
      by_cases w : (p : Int) + 1 = h 11 v
      · rw [(Hv.2.2.2.2.2.2 p w).1]; exact Hv.2.2.1 0 (by omega)
      · rw [(Hv.2.2.2.2.2.1 p (by omega)).1]; exact Hv.2.2.1 (p + 1) (by omega)
    have hpv : S (h 8 x) ∧ h 6 (h 8 x) = v := by
      rw [← hpx]
      by_cases w : p = 0
      · have g := (Hv.2.2.2.2.2.2 (h 11 v - 1).toNat (by omega)).2
        rw [w, g]
        exact Hv.2.2.1 _ (by omega)
      · have g := (Hv.2.2.2.2.2.1 (p - 1) (by omega)).2
        rw [show p - 1 + 1 = p by omega] at g
        rw [g]
        exact Hv.2.2.1 _ (by omega)
    by_cases q : u = v
    · subst q
      rw [updR_s, h11', hup_s]
      refine Hv.del (p := p) hp (by omega) (fun s => ?_) ?_ ?_ ?_ ?_ ?_
      · rw [hpx]
        exact ⟨fun w => ⟨⟨w.1.1, w.2⟩, w.1.2⟩, fun w => ⟨⟨w.1.1, w.2⟩, w.1.2⟩⟩
      · rw [h10']
        have f0 := Hv.2.2.2.2.1 (by omega)
        by_cases w : p = 0
        · rw [if_pos w, if_pos (by rw [f0, ← w]; exact hpx)]
          have g := (Hv.2.2.2.2.2.1 0 (by omega)).1
          rw [← hpx, w]
          exact g
        · rw [if_neg w, if_neg (fun z => w ?_)]
          rw [f0, ← hpx] at z
          exact (Hv.2.1 0 p (by omega) hp z).symm
      · rw [hpx, h7', if_pos rfl]
      · intro s z
        rw [hpx] at z
        rw [h7', if_neg z]
      · rw [hpx, h8', if_pos rfl]
      · intro s z
        rw [hpx] at z
        rw [h8', if_neg z]
    · rw [updR_o q, h11', hup_o (fun z => q z.2), h10o u q]
      refine (H u hu0 hu1).same (fun s => ⟨fun w => ⟨w.1.1, w.2⟩, fun w => ⟨⟨w.1, fun z => q (by rw [← w.2, z]; exact hSx.2)⟩, w.2⟩⟩) (fun s hs hsu => ?_) (fun s hs hsu => ?_)
      · rw [h7', if_neg (fun z => q (by rw [← hsu, z]; exact hpv.2))]
      · rw [h8', if_neg (fun z => q (by rw [← hsu, z]; exact hnv.2))]
/-- a side that is there -/
def Sd (h : Hp) (s : Int) : Prop := 0 ≤ s ∧ s < 2 * h 1 7 ∧ h 9 (s / 2) = 1
/-- what holds of the graph's cells; R: the order round each vertex -/
def GI (h : Hp) (R : Int → Nat → Int) : Prop :=
  (0 ≤ h 1 6 ∧ h 1 6 ≤ 30) ∧ (0 ≤ h 1 7 ∧ h 1 7 ≤ 100) ∧ (∀ e, 0 ≤ e → e < h 1 7 → h 9 e = 0 ∨ h 9 e = 1) ∧ (∀ s, Sd h s → (0 ≤ h 6 s ∧ h 6 s < h 1 6) ∧ h 6 s ≠ h 6 (tw s)) ∧
  (∀ s t, Sd h s → Sd h t → h 6 s = h 6 t → h 6 (tw s) = h 6 (tw t) → s = t) ∧ RI (Sd h) h R ∧ h 1 8 = cnt (fun e => h 9 e = 1) (h 1 7).toNat
theorem Sd_tw {h : Hp} {s : Int} (hs : Sd h s) : Sd h (tw s) := by
  obtain ⟨a, b, c⟩ := hs
  have := tw_in (s := s) (n := h 1 7) ⟨a, b⟩
  exact ⟨this.1, this.2, by rw [tw_div]; exact c⟩
theorem Sd_lt {h : Hp} {R : Int → Nat → Int} {s : Int} (g : GI h R) (hs : Sd h s) : 0 ≤ s ∧ s < 200 := by
  have := g.2.1
  obtain ⟨a, b, -⟩ := hs
  omega
/-- the ring's places -/
theorem GI.ring {h : Hp} {R : Int → Nat → Int} (g : GI h R) {v : Int} (hv : 0 ≤ v ∧ v < h 1 6) : Rg (Sd h) (h 6) (h 7) (h 8) v (h 10 v) (h 11 v) (R v) := g.2.2.2.2.2.1 v hv.1 hv.2
/-- a cell's word: pictures with the same graph cells -/
theorem RI.cong {S S' : Int → Prop} {h h' : Hp} {R : Int → Nat → Int} (H : RI S h R) (hS : ∀ s, S' s ↔ S s) (e1 : h' 1 6 = h 1 6) (e6 : h' 6 = h 6) (e7 : h' 7 = h 7) (e8 : h' 8 = h 8) (e10 : h' 10 = h 10) (e11 : h' 11 = h 11) : RI S' h' R := by
  intro v a b
  rw [e1] at b
  rw [e6, e7, e8, e10, e11]
  exact (H v a b).same (fun s => by rw [hS]) (fun _ _ _ => rfl) (fun _ _ _ => rfl)

/-! Graph: putting and taking sides, by exact pictures; then what they do to the rings -/
def linkH (h : Hp) (a b : Int) : Hp := hup (hup h 7 a b) 8 b a
/-- the side behind which a new one comes -/
def bP (h : Hp) (v b0 : Int) : Int := if b0 = -1 then h 8 (h 10 v) else sdF h v b0
def putH (h : Hp) (x v b0 : Int) : Hp :=
  if h 11 v = 0 then hup (hup (hup (hup (hup h 6 x v) 10 v x) 7 x x) 8 x x) 11 v (h 11 v + 1)
  else hup (linkH (linkH (hup h 6 x v) (bP (hup h 6 x v) v b0) x) x (h 7 (bP (hup h 6 x v) v b0))) 11 v (h 11 v + 1)
def p_putSide (x v b0 : Int) (h : Hp) : Prop := (0 ≤ x ∧ x < 200) ∧ (0 ≤ v ∧ v < 30) ∧ (b0 = -1 ∨ (0 ≤ b0 ∧ b0 < 100)) ∧ InR (h 11 v + 1) ∧
  (h 11 v ≠ 0 → (b0 = -1 → 0 ≤ h 10 v ∧ h 10 v < 200) ∧ (0 ≤ bP (hup h 6 x v) v b0 ∧ bP (hup h 6 x v) v b0 < 200) ∧ 0 ≤ h 7 (bP (hup h 6 x v) v b0) ∧ h 7 (bP (hup h 6 x v) v b0) < 200)
def q_putSide (x v b0 : Int) (h h' : Hp) : Prop := h' = putH h x v b0
theorem link_k {h : Hp} {a b : Int} {k : Nat} (h7 : k ≠ 7) (h8 : k ≠ 8) : linkH h a b k = h k := by
  unfold linkH
  rw [hup_k h8, hup_k h7]
theorem ct_putSide {l : Launch} (x v b0 : Int) (h : Hp) (hb : p_putSide x v b0 h) : Ct l yX2_putSide cX2_putSide 6 none 1 22 0 [vr 1, vi x, vi v, vi b0] h [6, 7, 8, 10, 11] (fun _ h1 => q_putSide x v b0 h h1) (fun _ => False) := by
  obtain ⟨h1, h2, h3, h4, h5⟩ := hb
  refine w_X2_putSide _ p_link q_link p_sideFrom q_sideFrom h x v b0 ct_link ct_sideFrom (fun _ _ _ _ => ?_)
  unfold V_X2_putSide
  refine ⟨h1, fun g e1 => ⟨h2, ?_, ?_⟩⟩
  · have k11 : g 11 = h 11 := by rw [e1, hup_k (by decide)]
    have k10 : g 10 = h 10 := by rw [e1, hup_k (by decide)]
    have k8 : g 8 = h 8 := by rw [e1, hup_k (by decide)]
    have k7 : g 7 = h 7 := by rw [e1, hup_k (by decide)]
    intro c
    rw [k11] at c
    obtain ⟨q1, q2, q3⟩ := h5 c
    have key : ∀ b, b = bP (hup h 6 x v) v b0 → V_X2_putSide_65 (fun _ h1 => q_putSide x v b0 h h1) p_link q_link p_sideFrom q_sideFrom g x v b := by
      intro b hb
      rw [← hb] at q2 q3
      unfold V_X2_putSide_65 V_X2_putSide_90
      intro z5 e5
      subst e5
      refine ⟨q2, fun z7 e7 => ?_⟩
      rw [k7] at e7
      refine ⟨⟨q2, h1⟩, fun h9 _ _ g9 => ⟨⟨h1, by rw [e7]; exact q3⟩, fun h11 _ _ g11 => ?_⟩⟩
      have w11 : h11 11 = h 11 := by rw [g11, hup_k (by decide), hup_k (by decide), g9, hup_k (by decide), hup_k (by decide), k11]
      rw [w11]
      refine ⟨h2, h4, h2, fun hh eh => ?_⟩
      show hh = putH h x v b0
      unfold putH linkH
      rw [if_neg c, eh, g11, g9, e1, e7, ← hb]
    refine ⟨fun c1 => ⟨by rcases h3 with z | z; exact absurd z c1; exact z, fun r _ hr => ?_⟩, fun c1 => ⟨h2, by rw [k10]; exact q1 c1, ?_⟩⟩
    · refine key r ?_
      have hr : r = sdF g v b0 := hr
      unfold bP
      rw [if_neg c1, hr, e1]
    · refine key _ ?_
      unfold bP
      rw [if_pos c1, e1]
  · intro c
    have k11 : g 11 = h 11 := by rw [e1, hup_k (by decide)]
    refine ⟨h2, fun g2 e2 => ⟨h1, fun g3 e3 => ⟨h1, fun g4 e4 => ?_⟩⟩⟩
    unfold V_X2_putSide_90
    have w11 : g4 11 = h 11 := by rw [e4, hup_k (by decide), e3, hup_k (by decide), e2, hup_k (by decide), k11]
    rw [w11]
    rw [k11] at c
    refine ⟨h2, h4, h2, fun hh eh => ?_⟩
    show hh = putH h x v b0
    unfold putH
    rw [if_pos c, eh, e4, e3, e2, e1]
/-- the rings of all vertices, over a set of sides -/
def RI (S : Int → Prop) (h : Hp) (R : Int → Nat → Int) : Prop := ∀ v, 0 ≤ v → v < h 1 6 → Rg S (h 6) (h 7) (h 8) v (h 10 v) (h 11 v) (R v)
def updR (R : Int → Nat → Int) (v : Int) (r : Nat → Int) : Int → Nat → Int := fun u => if u = v then r else R u
theorem updR_s {R : Int → Nat → Int} {v : Int} {r : Nat → Int} : updR R v r v = r := if_pos rfl
theorem updR_o {R : Int → Nat → Int} {u v : Int} {r : Nat → Int} (h : u ≠ v) : updR R v r u = R u := if_neg h
theorem Rg.one' {S S' : Int → Prop} {st st' nx nx' pv pv' : Int → Int} {v f d x : Int} {r : Nat → Int} (H : Rg S st nx pv v f d r) (hd : d = 0) (hS : ∀ s, S' s ∧ st' s = v ↔ (S s ∧ st s = v) ∨ s = x) (n1 : nx' x = x) (v1 : pv' x = x) : Rg S' st' nx' pv' v x (d + 1) (insF r 0 x) := by
  obtain ⟨h0, h1, h2, h3, h4, h5, h6⟩ := H
  subst hd
  have e0 : ∀ i : Nat, (i : Int) < 0 + 1 → insF r 0 x i = x := fun i hi => by rw [show i = 0 by omega]; exact insF_eq
  refine ⟨by omega, fun i j hi hj _ => by omega, fun i hi => by rw [e0 i hi]; exact (hS x).mpr (Or.inr rfl), fun s hs hv => ?_, fun _ => insF_eq.symm, fun i hi => by omega, fun i hi => by rw [e0 i (by omega), e0 0 (by omega)]; exact ⟨n1, v1⟩⟩
  rcases (hS s).mp ⟨hs, hv⟩ with ⟨a, b⟩ | a
  · obtain ⟨i, hi, -⟩ := h3 s a b
    omega
  · exact ⟨0, by omega, by rw [insF_eq, a]⟩
/-- the place at which a new side comes: last, or behind the side of b0 -/
def PlA (h : Hp) (R : Int → Nat → Int) (v b0 : Int) (p : Nat) : Prop := (b0 = -1 ∧ (p : Int) = h 11 v) ∨ (b0 ≠ -1 ∧ 1 ≤ p ∧ (p : Int) ≤ h 11 v ∧ R v (p - 1) / 2 = b0 ∧ h 6 (R v (p - 1)) ≠ h 6 (tw (R v (p - 1))))
theorem half_cases (s e : Int) (h : s / 2 = e) : s = 2 * e ∨ s = 2 * e + 1 := by omega
theorem bP_eq {S : Int → Prop} {h : Hp} {R : Int → Nat → Int} {x v b0 : Int} {p : Nat} (H : Rg S (h 6) (h 7) (h 8) v (h 10 v) (h 11 v) (R v)) (hd : h 11 v ≠ 0) (hp : PlA h R v b0 p) (hx : b0 ≠ -1 → x / 2 ≠ b0) : 1 ≤ p ∧ (p : Int) ≤ h 11 v ∧ bP (hup h 6 x v) v b0 = R v (p - 1) := by
  obtain ⟨h0, h1, h2, h3, h4, h5, h6⟩ := H
  unfold bP
  rcases hp with ⟨e, hp⟩ | ⟨e, hp1, hp2, hp3, hp4⟩
  · refine ⟨by omega, by omega, ?_⟩
    rw [if_pos e, hup_k (by decide), hup_k (by decide), h4 (by omega)]
    exact (h6 (p - 1) (by omega)).2
  · refine ⟨hp1, hp2, ?_⟩
    rw [if_neg e]
    unfold sdF
    have g := (h2 (p - 1) (by omega)).2
    have hx := hx e
    rw [hup_o (fun z => by have := z.2; omega)]
    rcases half_cases _ _ hp3 with q | q
    · rw [q] at g
      rw [if_pos g, q]
    · rw [q] at g hp4
      rw [tw_o] at hp4
      rw [if_neg (fun z => hp4 (by rw [g, z])), q]
set_option maxHeartbeats 1000000 in
theorem put_RI {S : Int → Prop} {h : Hp} {R : Int → Nat → Int} {x v b0 : Int} {p : Nat} (H : RI S h R) (hx : ¬ S x) (hv : 0 ≤ v ∧ v < h 1 6) (hp : PlA h R v b0 p) (hxb : b0 ≠ -1 → x / 2 ≠ b0) :
    RI (fun s => S s ∨ s = x) (putH h x v b0) (updR R v (insF (R v) p x)) := by
  have Hv := H v hv.1 hv.2
  have hn : putH h x v b0 1 = h 1 := by
    unfold putH
    split
    · rw [hup_k (by decide), hup_k (by decide), hup_k (by decide), hup_k (by decide), hup_k (by decide)]
    · rw [hup_k (by decide), link_k (by decide) (by decide), link_k (by decide) (by decide), hup_k (by decide)]
  have h6' : putH h x v b0 6 = hup h 6 x v 6 := by
    unfold putH
    split
    · rw [hup_k (by decide), hup_k (by decide), hup_k (by decide), hup_k (by decide)]
    · rw [hup_k (by decide), link_k (by decide) (by decide), link_k (by decide) (by decide)]
  have h11' : putH h x v b0 11 = hup h 11 v (h 11 v + 1) 11 := by
    unfold putH
    split
    · funext b
      unfold hup
      simp
    · funext b
      unfold hup linkH hup
      simp
  have st1 : ∀ s, s ≠ x → putH h x v b0 6 s = h 6 s := fun s hs => by rw [h6', hup_o (fun z => hs z.2)]
  have st2 : putH h x v b0 6 x = v := by rw [h6', hup_s]
  have dO : ∀ u, u ≠ v → putH h x v b0 11 u = h 11 u := fun u hu => by rw [h11', hup_o (fun z => hu z.2)]
  have dV : putH h x v b0 11 v = h 11 v + 1 := by rw [h11', hup_s]
  have hSv : ∀ s, (S s ∨ s = x) ∧ putH h x v b0 6 s = v ↔ (S s ∧ h 6 s = v) ∨ s = x := by
    intro s
    by_cases q : s = x
    · rw [q, st2]
      exact ⟨fun _ => Or.inr rfl, fun _ => ⟨Or.inr rfl, rfl⟩⟩
    · rw [st1 s q]
      constructor
      · rintro ⟨a | a, b⟩
        · exact Or.inl ⟨a, b⟩
        · exact absurd a q
      · rintro (⟨a, b⟩ | a)
        · exact ⟨Or.inl a, b⟩
        · exact absurd a q
  intro u hu0 hu1
  rw [hn] at hu1
  by_cases hd : h 11 v = 0
  · have e : putH h x v b0 = hup (hup (hup (hup (hup h 6 x v) 10 v x) 7 x x) 8 x x) 11 v (h 11 v + 1) := if_pos hd
    have h7' : putH h x v b0 7 = hup h 7 x x 7 := by rw [e]; funext b; unfold hup; simp
    have h8' : putH h x v b0 8 = hup h 8 x x 8 := by rw [e]; funext b; unfold hup; simp
    have h10' : putH h x v b0 10 = hup h 10 v x 10 := by rw [e]; funext b; unfold hup; simp
    by_cases q : u = v
    · subst q
      rw [updR_s, dV, show putH h x u b0 10 u = x by rw [h10', hup_s]]
      have hp0 : p = 0 := by
        rcases hp with ⟨-, hp⟩ | ⟨-, hp1, hp2, -⟩ <;> omega
      rw [hp0]
      exact Hv.one' hd hSv (by rw [h7', hup_s]) (by rw [h8', hup_s])
    · rw [updR_o q, dO u q, show putH h x v b0 10 u = h 10 u by rw [h10', hup_o (fun z => q z.2)]]
      refine (H u hu0 hu1).same (fun s => ?_) (fun s hs hsu => ?_) (fun s hs hsu => ?_)
      · by_cases z : s = x
        · rw [z, st2]
          exact ⟨fun w => absurd w.2.symm q, fun w => absurd w.1 hx⟩
        · rw [st1 s z]
          exact ⟨fun w => ⟨w.1.elim id (fun w => absurd w z), w.2⟩, fun w => ⟨Or.inl w.1, w.2⟩⟩
      · have hsx : s ≠ x := fun z => hx (by rw [← z]; exact hs)
        rw [h7', hup_o (fun z => hsx z.2)]
      · have hsx : s ≠ x := fun z => hx (by rw [← z]; exact hs)
        rw [h8', hup_o (fun z => hsx z.2)]
  · obtain ⟨p1, p2, p3⟩ := bP_eq (x := x) Hv hd hp hxb
    have e : putH h x v b0 = hup (linkH (linkH (hup h 6 x v) (R v (p - 1)) x) x (h 7 (R v (p - 1)))) 11 v (h 11 v + 1) := by
      unfold putH
      rw [if_neg hd, p3]
    have hb := Hv.2.2.1 (p - 1) (by omega)
    have hbx : R v (p - 1) ≠ x := fun z => hx (z ▸ hb.1)
    have h7' : ∀ s, putH h x v b0 7 s = if s = x then h 7 (R v (p - 1)) else if s = R v (p - 1) then x else h 7 s := by
      intro s
      rw [e]
      unfold linkH hup
      simp
    have h8' : ∀ s, putH h x v b0 8 s = if s = h 7 (R v (p - 1)) then x else if s = x then R v (p - 1) else h 8 s := by
      intro s
      rw [e]
      unfold linkH hup
      simp
    have h10' : putH h x v b0 10 = h 10 := by rw [e, hup_k (by decide), link_k (by decide) (by decide), link_k (by decide) (by decide), hup_k (by decide)]
    -- the side behind is one of the ring
    obtain ⟨j, hj, hja⟩ : ∃ j : Nat, (j : Int) < h 11 v ∧ h 7 (R v (p - 1)) = R v j := by
      by_cases w : (p : Int) = h 11 v
      · exact ⟨0, by omega, (Hv.2.2.2.2.2.2 (p - 1) (by omega)).1⟩
      · exact ⟨p - 1 + 1, by omega, (Hv.2.2.2.2.2.1 (p - 1) (by omega)).1⟩
    have ha := Hv.2.2.1 j hj
    have hax : h 7 (R v (p - 1)) ≠ x := fun z => hx (by rw [← z, hja]; exact ha.1)
    by_cases q : u = v
    · subst q
      rw [updR_s, dV, h10']
      refine Hv.ins p1 p2 hx hSv ?_ ?_ ?_ ?_ ?_ ?_
      · rw [h7', if_neg hbx, if_pos rfl]
      · rw [h7', if_pos rfl]
      · intro s z1 z2
        rw [h7', if_neg z1, if_neg z2]
      · rw [h8', if_neg (fun z => hax z.symm), if_pos rfl]
      · rw [h8', if_pos rfl]
      · intro s z1 z2
        rw [h8', if_neg z2, if_neg z1]
    · rw [updR_o q, dO u q, h10']
      refine (H u hu0 hu1).same (fun s => ?_) (fun s hs hsu => ?_) (fun s hs hsu => ?_)
      · by_cases z : s = x
        · rw [z, st2]
          exact ⟨fun w => absurd w.2.symm q, fun w => absurd w.1 hx⟩
        · rw [st1 s z]
          exact ⟨fun w => ⟨w.1.elim id (fun w => absurd w z), w.2⟩, fun w => ⟨Or.inl w.1, w.2⟩⟩
      · have hsx : s ≠ x := fun z => hx (by rw [← z]; exact hs)
        have hsb : s ≠ R v (p - 1) := fun z => q (by rw [← hsu, z]; exact hb.2)
        rw [h7', if_neg hsx, if_neg hsb]
      · have hsx : s ≠ x := fun z => hx (by rw [← z]; exact hs)
        have hsb : s ≠ h 7 (R v (p - 1)) := fun z => q (by rw [← hsu, z, hja]; exact ha.2)
        rw [h8', if_neg hsb, if_neg hsx]

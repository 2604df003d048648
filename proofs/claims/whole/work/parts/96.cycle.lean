/-! The cycle of an edge: climbing in the tree -/
def cstep (t : Hp) (x : Int × Int × List Int) : Int × Int × List Int := if x.1 = x.2.1 then x else if t 17 x.1 < t 17 x.2.1 then (x.1, t 15 x.2.1, x.2.2 ++ [x.2.1]) else (t 15 x.1, x.2.1, x.2.2 ++ [x.1])
def cst (t : Hp) (u v : Int) : Nat → Int × Int × List Int
  | 0 => (u, v, [])
  | n + 1 => cstep t (cst t u v n)
theorem cst_stop {t : Hp} {u v : Int} {n : Nat} (h : (cst t u v n).1 = (cst t u v n).2.1) : ∀ d : Nat, cst t u v (n + d) = cst t u v n := by
  intro d
  induction d with
  | zero => rfl
  | succ d ih =>
    show cstep t (cst t u v (n + d)) = _
    rw [ih]
    unfold cstep
    rw [if_pos h]
def CI (h : Hp) (u0 v0 : Int) (x : Int × Int × List Int) : Prop := (vOK h x.1 ∧ vOK h x.2.1 ∧ tr h 18 x.1 = tr h 18 x.2.1) ∧ VL h x.2.2 ∧ (∀ y ∈ x.2.2, tr h 17 x.1 ≤ tr h 17 y ∧ tr h 17 x.2.1 ≤ tr h 17 y ∧ y ≠ x.1 ∧ y ≠ x.2.1 ∧ tr h 15 y ≠ -1 ∧ (tr h 15 y ∈ x.2.2 ∨ tr h 15 y = x.1 ∨ tr h 15 y = x.2.1)) ∧ (u0 ∈ x.2.2 ∨ u0 = x.1 ∨ u0 = x.2.1) ∧ (v0 ∈ x.2.2 ∨ v0 = x.1 ∨ v0 = x.2.1)
theorem not_root {h : Hp} {R : Int → Nat → Int} (G : GI h R) {u v : Int} (hu : vOK h u) (hv : vOK h v) (e : tr h 18 u = tr h 18 v) (ne : u ≠ v) (hl : tr h 17 v ≤ tr h 17 u) : tr h 15 u ≠ -1 ∧ vOK h (tr h 15 u) ∧ tr h 18 (tr h 15 u) = tr h 18 u ∧ tr h 17 u = tr h 17 (tr h 15 u) + 1 ∧ ∃ s, Sd h s ∧ h 6 s = tr h 15 u ∧ h 6 (tw s) = u ∧ tr h 16 u = s / 2 := by
  have T := tr_facts G
  rcases (T.1 u hu).2.1 with a | a
  · exfalso
    rcases (T.1 v hv).2.1 with b | b
    · exact ne (T.2.1 u v hu hv a.1 b.1 e)
    · have := (T.1 _ b.1).2.2
      have := b.2.2.1
      have := a.2.2
      omega
  · refine ⟨fun z => ?_, a⟩
    have := a.1.1
    omega
theorem CI_step {h : Hp} {R : Int → Nat → Int} (G : GI h R) {u0 v0 : Int} {x : Int × Int × List Int} (c : CI h u0 v0 x) (ne : x.1 ≠ x.2.1) : CI h u0 v0 (cstep (tr h) x) ∧ (cstep (tr h) x).2.2.length = x.2.2.length + 1 := by
  obtain ⟨⟨c1, c2, c3⟩, c4, c5, c6, c7⟩ := c
  unfold cstep
  rw [if_neg ne]
  by_cases w : tr h 17 x.1 < tr h 17 x.2.1
  · rw [if_pos w]
    obtain ⟨n1, n2, n3, n4, -⟩ := not_root G c2 c1 c3.symm (fun z => ne z.symm) (by omega)
    have nm : x.2.1 ∉ x.2.2 := fun z => (c5 _ z).2.2.2.1 rfl
    refine ⟨⟨⟨c1, n2, c3.trans n3.symm⟩, VL_add c4 c2 nm, fun y hy => ?_, ?_, ?_⟩, by show (x.2.2 ++ [x.2.1]).length = _; rw [List.length_append]; rfl⟩
    · show tr h 17 x.1 ≤ tr h 17 y ∧ tr h 17 (tr h 15 x.2.1) ≤ tr h 17 y ∧ y ≠ x.1 ∧ y ≠ tr h 15 x.2.1 ∧ tr h 15 y ≠ -1 ∧ (tr h 15 y ∈ x.2.2 ++ [x.2.1] ∨ tr h 15 y = x.1 ∨ tr h 15 y = tr h 15 x.2.1)
      have hy : y ∈ x.2.2 ++ [x.2.1] := hy
      rw [List.mem_append, List.mem_singleton] at hy
      rcases hy with hy | hy
      · obtain ⟨d1, d2, d3, d4, d5, d6⟩ := c5 y hy
        refine ⟨d1, by omega, d3, fun z => by rw [← z] at n4; omega, d5, ?_⟩
        rcases d6 with q | q | q
        · exact Or.inl (List.mem_append_left _ q)
        · exact Or.inr (Or.inl q)
        · exact Or.inl (List.mem_append_right _ (List.mem_singleton.mpr q))
      · rw [hy]
        exact ⟨by omega, by omega, fun z => ne z.symm, fun z => by rw [← z] at n4; omega, n1, Or.inr (Or.inr rfl)⟩
    · show u0 ∈ x.2.2 ++ [x.2.1] ∨ u0 = x.1 ∨ u0 = tr h 15 x.2.1
      rcases c6 with q | q | q
      · exact Or.inl (List.mem_append_left _ q)
      · exact Or.inr (Or.inl q)
      · exact Or.inl (List.mem_append_right _ (List.mem_singleton.mpr q))
    · show v0 ∈ x.2.2 ++ [x.2.1] ∨ v0 = x.1 ∨ v0 = tr h 15 x.2.1
      rcases c7 with q | q | q
      · exact Or.inl (List.mem_append_left _ q)
      · exact Or.inr (Or.inl q)
      · exact Or.inl (List.mem_append_right _ (List.mem_singleton.mpr q))
  · rw [if_neg w]
    obtain ⟨n1, n2, n3, n4, -⟩ := not_root G c1 c2 c3 ne (by omega)
    have nm : x.1 ∉ x.2.2 := fun z => (c5 _ z).2.2.1 rfl
    refine ⟨⟨⟨n2, c2, n3.trans c3⟩, VL_add c4 c1 nm, fun y hy => ?_, ?_, ?_⟩, by show (x.2.2 ++ [x.1]).length = _; rw [List.length_append]; rfl⟩
    · show tr h 17 (tr h 15 x.1) ≤ tr h 17 y ∧ tr h 17 x.2.1 ≤ tr h 17 y ∧ y ≠ tr h 15 x.1 ∧ y ≠ x.2.1 ∧ tr h 15 y ≠ -1 ∧ (tr h 15 y ∈ x.2.2 ++ [x.1] ∨ tr h 15 y = tr h 15 x.1 ∨ tr h 15 y = x.2.1)
      have hy : y ∈ x.2.2 ++ [x.1] := hy
      rw [List.mem_append, List.mem_singleton] at hy
      rcases hy with hy | hy
      · obtain ⟨d1, d2, d3, d4, d5, d6⟩ := c5 y hy
        refine ⟨by omega, d2, fun z => by rw [← z] at n4; omega, d4, d5, ?_⟩
        rcases d6 with q | q | q
        · exact Or.inl (List.mem_append_left _ q)
        · exact Or.inl (List.mem_append_right _ (List.mem_singleton.mpr q))
        · exact Or.inr (Or.inr q)
      · rw [hy]
        exact ⟨by omega, by omega, fun z => by rw [← z] at n4; omega, ne, n1, Or.inr (Or.inl rfl)⟩
    · show u0 ∈ x.2.2 ++ [x.1] ∨ u0 = tr h 15 x.1 ∨ u0 = x.2.1
      rcases c6 with q | q | q
      · exact Or.inl (List.mem_append_left _ q)
      · exact Or.inl (List.mem_append_right _ (List.mem_singleton.mpr q))
      · exact Or.inr (Or.inr q)
    · show v0 ∈ x.2.2 ++ [x.1] ∨ v0 = tr h 15 x.1 ∨ v0 = x.2.1
      rcases c7 with q | q | q
      · exact Or.inl (List.mem_append_left _ q)
      · exact Or.inl (List.mem_append_right _ (List.mem_singleton.mpr q))
      · exact Or.inr (Or.inr q)
theorem CI_all {h : Hp} {R : Int → Nat → Int} (G : GI h R) {u0 v0 : Int} (hu : vOK h u0) (hv : vOK h v0) (e : tr h 18 u0 = tr h 18 v0) : ∀ n : Nat, CI h u0 v0 (cst (tr h) u0 v0 n) := by
  intro n
  induction n with
  | zero => exact ⟨⟨hu, hv, e⟩, ⟨List.Pairwise.nil, fun w hw => absurd hw List.not_mem_nil⟩, fun y hy => absurd hy List.not_mem_nil, Or.inr (Or.inl rfl), Or.inr (Or.inr rfl)⟩
  | succ n ih =>
    by_cases w : (cst (tr h) u0 v0 n).1 = (cst (tr h) u0 v0 n).2.1
    · have := cst_stop w 1
      rw [this]
      exact ih
    · exact (CI_step G ih w).1
theorem CI_len {h : Hp} {R : Int → Nat → Int} (G : GI h R) {u0 v0 : Int} {x : Int × Int × List Int} (c : CI h u0 v0 x) : (x.2.2.length : Int) + 1 ≤ h 1 6 := by
  have := VL_len G (VL_add c.2.1 c.1.1 (fun z => (c.2.2.1 _ z).2.2.1 rfl))
  rw [List.length_append] at this
  have h1 : ([x.1] : List Int).length = 1 := rfl
  omega
/-- the climb ends in time -/
theorem cst_end {h : Hp} {R : Int → Nat → Int} (G : GI h R) {u0 v0 : Int} (hu : vOK h u0) (hv : vOK h v0) (e : tr h 18 u0 = tr h 18 v0) : (cst (tr h) u0 v0 30).1 = (cst (tr h) u0 v0 30).2.1 := by
  apply Classical.byContradiction
  intro w
  have key : ∀ n : Nat, n ≤ 30 → (cst (tr h) u0 v0 n).2.2.length = n := by
    intro n
    induction n with
    | zero => intro _; rfl
    | succ n ih =>
      intro hn
      have c := CI_all G hu hv e n
      have ne : (cst (tr h) u0 v0 n).1 ≠ (cst (tr h) u0 v0 n).2.1 := by
        intro z
        have := cst_stop z (30 - n)
        rw [show n + (30 - n) = 30 by omega] at this
        rw [this] at w
        exact w z
      have := (CI_step G c ne).2
      have : (cst (tr h) u0 v0 (n + 1)).2.2.length = (cst (tr h) u0 v0 n).2.2.length + 1 := this
      rw [this, ih (by omega)]
  have := CI_len G (CI_all G hu hv e 30)
  rw [key 30 (Nat.le_refl _)] at this
  have := G.1
  omega
def cyF (h : Hp) (e : Int) : Int × Int × List Int := cst (tr h) (h 6 (2 * e)) (h 6 (2 * e + 1)) 30
def cyV (h : Hp) (e : Int) : List Int := (cyF h e).2.2 ++ [(cyF h e).1]
def cyE (h : Hp) (e : Int) : List Int := e :: (cyF h e).2.2.map (tr h 16)
theorem edge_ok {h : Hp} {R : Int → Nat → Int} (G : GI h R) {e : Int} (he : eOK h e) : (Sd h (2 * e) ∧ Sd h (2 * e + 1)) ∧ vOK h (h 6 (2 * e)) ∧ vOK h (h 6 (2 * e + 1)) ∧ tr h 18 (h 6 (2 * e)) = tr h 18 (h 6 (2 * e + 1)) := by
  obtain ⟨he, h9⟩ := he
  have s1 : Sd h (2 * e) := ⟨by omega, by omega, by rw [show 2 * e / 2 = e by omega]; exact h9⟩
  have s2 : Sd h (2 * e + 1) := ⟨by omega, by omega, by rw [show (2 * e + 1) / 2 = e by omega]; exact h9⟩
  have v := ends_v G he h9
  have := (tr_facts G).2.2 _ s1
  rw [tw_e] at this
  exact ⟨⟨s1, s2⟩, v.1, v.2, this.symm⟩
theorem cyF_gs {h h' : Hp} {R : Int → Nat → Int} (G : GI h R) (gs : Gs h h') {e : Int} (he : eOK h e) : cyF h' e = cyF h e ∧ cyE h' e = cyE h e := by
  obtain ⟨-, hu, hv, ep⟩ := edge_ok G he
  have T := (tr_gs G gs).2
  have key : ∀ n : Nat, cst (tr h') (h 6 (2 * e)) (h 6 (2 * e + 1)) n = cst (tr h) (h 6 (2 * e)) (h 6 (2 * e + 1)) n := by
    intro n
    induction n with
    | zero => rfl
    | succ n ih =>
      have c := CI_all G hu hv ep n
      show cstep (tr h') _ = cstep (tr h) _
      rw [ih]
      unfold cstep
      rw [(T _ c.1.1).2.2.2, (T _ c.1.2.1).2.2.2, (T _ c.1.1).2.1, (T _ c.1.2.1).2.1]
  have e1 : cyF h' e = cyF h e := by
    unfold cyF
    rw [gs.2.1]
    exact key 30
  refine ⟨e1, ?_⟩
  unfold cyE
  rw [e1]
  congr 1
  have c := CI_all G hu hv ep 30
  exact List.map_congr_left (fun x hx => (T x (c.2.1.2 x hx)).2.2.1)
theorem cyV_gs {h h' : Hp} {R : Int → Nat → Int} (G : GI h R) (gs : Gs h h') {e : Int} (he : eOK h e) : cyV h' e = cyV h e := by
  unfold cyV
  rw [(cyF_gs G gs he).1]
/-- the ends of the cycle's edges stand on it -/
theorem cy_ends {h : Hp} {R : Int → Nat → Int} (G : GI h R) {e : Int} (he : eOK h e) {s : Int} (hs : Sd h s) (hm : s / 2 ∈ cyE h e) : h 6 s ∈ cyV h e := by
  obtain ⟨⟨s1, s2⟩, hu, hv, ep⟩ := edge_ok G he
  have c := CI_all G hu hv ep 30
  have en := cst_end G hu hv ep
  have inV : ∀ y, (y ∈ (cyF h e).2.2 ∨ y = (cyF h e).1 ∨ y = (cyF h e).2.1) → y ∈ cyV h e := by
    intro y hy
    unfold cyV
    rw [List.mem_append, List.mem_singleton]
    rcases hy with q | q | q
    · exact Or.inl q
    · exact Or.inr q
    · exact Or.inr (q.trans en.symm)
  have c' : CI h (h 6 (2 * e)) (h 6 (2 * e + 1)) (cyF h e) := c
  unfold cyE at hm
  rw [List.mem_cons] at hm
  rcases hm with q | q
  · rcases half_cases s e q with z | z
    · rw [z]; exact inV _ c'.2.2.2.1
    · rw [z]; exact inV _ c'.2.2.2.2
  · obtain ⟨x, x1, x2⟩ := List.mem_map.mp q
    have vx := c'.2.1.2 x x1
    have d := c'.2.2.1 x x1
    rcases ((tr_facts G).1 x vx).2.1 with a | ⟨b1, b2, b3, r, r1, r2, r3, r4⟩
    · exact absurd a.1 d.2.2.2.2.1
    · rw [r4] at x2
      have hx2 : s = r ∨ s = tw r := by
        unfold tw
        split <;> omega
      rcases hx2 with z | z
      · rw [z, r2]
        exact inV _ d.2.2.2.2.2
      · rw [z, r3]
        exact inV _ (Or.inl x1)
def inT (h : Hp) (e : Int) : Prop := tr h 15 (h 6 (2 * e)) = h 6 (2 * e + 1) ∨ tr h 15 (h 6 (2 * e + 1)) = h 6 (2 * e)
theorem up_edge {h : Hp} {R : Int → Nat → Int} (G : GI h R) {s : Int} (hs : Sd h s) : tr h 16 (h 6 s) = s / 2 ↔ tr h 15 (h 6 s) = h 6 (tw s) := by
  have vs : vOK h (h 6 s) := (G.2.2.2.1 s hs).1
  have vt : vOK h (h 6 (tw s)) := (G.2.2.2.1 _ (Sd_tw hs)).1
  have s0 := hs.1
  rcases ((tr_facts G).1 _ vs).2.1 with a | ⟨b1, b2, b3, r, r1, r2, r3, r4⟩
  · rw [a.1, a.2.1]
    constructor
    · intro z; omega
    · intro z
      have := vt.1
      omega
  · constructor
    · intro z
      rw [r4] at z
      have hx2 : r = s ∨ r = tw s := by
        unfold tw
        split <;> omega
      rcases hx2 with q | q
      · rw [q] at r3
        exact absurd r3.symm (G.2.2.2.1 s hs).2
      · rw [← r2, q]
    · intro z
      have : r = tw s := G.2.2.2.2.1 r (tw s) r1 (Sd_tw hs) (by rw [r2, z]) (by rw [tw_tw]; exact r3)
      rw [r4, this, tw_div]
-- holds
def p_holds (e : Int) (h : Hp) : Prop := (∃ R, GI h R) ∧ TS h ∧ eOK h e
def q_holds (e : Int) (h : Hp) (r : Int) : Prop := (r = 1 ∧ inT h e) ∨ (r = 0 ∧ ¬ inT h e)
theorem ct_holds {l : Launch} (e : Int) (h : Hp) (hb : p_holds e h) : Ct l yX4_holds cX4_holds 2 (some .boolean) 0 0 0 [vr 3, vi e] h [] (fun r _ => q_holds e h r) (fun _ => False) := by
  obtain ⟨⟨R, G⟩, ts, he⟩ := hb
  obtain ⟨⟨s1, s2⟩, hu, hv, -⟩ := edge_ok G he
  have g1 := G.1
  have l1 := Sd_lt G s1
  have l2 := Sd_lt G s2
  have hu' := hu
  have hv' := hv
  unfold vOK at hu' hv'
  have a := up_edge G s1
  have b := up_edge G s2
  rw [tw_e, show 2 * e / 2 = e by omega] at a
  rw [tw_o, show (2 * e + 1) / 2 = e by omega] at b
  refine w_X4_holds _ h e (fun _ _ => ?_)
  unfold V_X4_holds V_X4_holds_42 V_X4_holds_47
  rw [(ts.2 _ hu).2.2.1, (ts.2 _ hv).2.2.1]
  refine ⟨by unfold InR; omega, by omega, by omega, fun c => ⟨Or.inr rfl, Or.inl ⟨rfl, Or.inl (a.mp c)⟩⟩, fun c => ⟨by unfold InR; omega, by unfold InR; omega, by omega, by omega, fun c1 => ⟨Or.inl rfl, Or.inr ⟨rfl, ?_⟩⟩, fun c1 => ⟨Or.inr rfl, Or.inl ⟨rfl, Or.inr (b.mp c1)⟩⟩⟩⟩
  rintro (z | z)
  · exact c (a.mpr z)
  · exact c1 (b.mpr z)
-- unmarkCycle, climbFrom
def p_unmark (h : Hp) : Prop := ∃ R, GI h R
def q_unmark (h h' : Hp) : Prop := (∀ v, vOK h v → h' 26 v = 0) ∧ (∀ k, 0 ≤ k → k < h 1 7 → h' 27 k = 0) ∧ h' 5 8 = 0 ∧ ∀ j, j ≠ 8 → h' 5 j = h 5 j
theorem ct_unmark {l : Launch} (h : Hp) (hb : p_unmark h) : Ct l yX3_unmarkCycle cX3_unmarkCycle 2 none 0 0 0 [vr 5] h [5, 26, 27] (fun _ h1 => q_unmark h h1) (fun _ => False) := by
  obtain ⟨R, G⟩ := hb
  have g1 := G.1
  have g2 := G.2.1
  refine w_X3_unmarkCycle _
    (fun n g x1 => ∃ k : Nat, x1 = k ∧ (k : Int) ≤ h 1 6 ∧ (∀ w : Int, 0 ≤ w → w < k → g 26 w = 0) ∧ g 5 = h 5 ∧ n = 30 - k)
    (fun n g x1 => ∃ k : Nat, x1 = k ∧ (k : Int) ≤ h 1 7 ∧ (∀ w : Int, 0 ≤ w → w < h 1 6 → g 26 w = 0) ∧ (∀ w : Int, 0 ≤ w → w < k → g 27 w = 0) ∧ g 5 = h 5 ∧ n = 100 - k) h ?_ ?_ (fun _ => ?_)
  · rintro n g x1 - F - ⟨k, rfl, i1, i2, i3, i4⟩
    unfold V_X3_unmarkCycle_2
    rw [F 1 (by decide)]
    refine ⟨fun c z8 e8 => ⟨100, 0, e8, by omega, fun w w1 w2 => i2 w w1 (by omega), fun w w1 w2 => by omega, i3, rfl⟩, fun c => ⟨by omega, fun h10 e10 => ⟨by unfold InR; omega, fun z ez => ⟨30 - (k + 1), by omega, k + 1, by omega, by omega, fun w w1 w2 => ?_, by rw [e10, hup_k (by decide)]; exact i3, rfl⟩⟩⟩⟩
    rw [e10]
    by_cases z : w = k
    · rw [z, hup_s]
    · rw [hup_o (fun q => z q.2)]
      exact i2 w w1 (by omega)
  · rintro n g x1 - F - ⟨k, rfl, i1, i0, i2, i3, i4⟩
    unfold V_X3_unmarkCycle_28
    rw [F 1 (by decide)]
    refine ⟨fun c h2 e2 => ⟨fun v hv => ?_, fun w w1 w2 => ?_, by rw [e2, hup_s], fun j hj => by rw [e2, hup_o (fun z => hj z.2), i3]⟩, fun c => ⟨by omega, fun h4 e4 => ⟨by unfold InR; omega, fun z ez => ⟨100 - (k + 1), by omega, k + 1, by omega, by omega, fun w w1 w2 => by rw [e4, hup_k (by decide)]; exact i0 w w1 w2, fun w w1 w2 => ?_, by rw [e4, hup_k (by decide)]; exact i3, rfl⟩⟩⟩⟩
    · rw [e2, hup_k (by decide)]
      exact i0 v hv.1 hv.2
    · rw [e2, hup_k (by decide)]
      exact i2 w w1 (by omega)
    · rw [e4]
      by_cases z : w = k
      · rw [z, hup_s]
      · rw [hup_o (fun q => z q.2)]
        exact i2 w w1 (by omega)
  · unfold V_X3_unmarkCycle
    exact fun z ez => ⟨30, 0, ez, by omega, fun w w1 w2 => by omega, rfl, rfl⟩
def p_climb (v : Int) (h : Hp) : Prop := (0 ≤ v ∧ v < 30) ∧ (0 ≤ h 16 v ∧ h 16 v < 100) ∧ 0 ≤ h 5 8 ∧ h 5 8 ≤ 1000
def q_climb (v : Int) (h : Hp) (r : Int) (h' : Hp) : Prop := r = h 15 v ∧ h' = hup (hup (hup h 26 v 1) 27 (h 16 v) 1) 5 8 (h 5 8 + 1)
theorem ct_climb {l : Launch} (v : Int) (h : Hp) (hb : p_climb v h) : Ct l yX3_climbFrom cX3_climbFrom 2 (some .int) 0 0 0 [vr 5, vi v] h [5, 26, 27] (fun r h1 => q_climb v h r h1) (fun _ => False) := by
  obtain ⟨b1, b2, b3⟩ := hb
  refine w_X3_climbFrom _ h v (fun _ _ => ?_)
  unfold V_X3_climbFrom
  refine ⟨b1, fun h2 e2 => ?_⟩
  have k16 : h2 16 = h 16 := by rw [e2, hup_k (by decide)]
  rw [k16]
  refine ⟨b1, b2, fun h5 e5 => ?_⟩
  have k5 : h5 5 8 = h 5 8 := by rw [e5, hup_k (by decide), e2, hup_k (by decide)]
  rw [k5]
  refine ⟨by unfold InR; omega, fun h7 e7 => ⟨b1, ?_, ?_⟩⟩
  · rw [e7, hup_k (by decide), e5, hup_k (by decide), e2, hup_k (by decide)]
  · rw [e7, e5, e2]
/-- marks of a list -/
theorem mark_add {f : Int → Int} {g : Int → Int} {L : List Int} {w v : Int} (a : f v = if v ∈ L then 1 else 0) (e1 : v = w → g v = 1) (e2 : v ≠ w → g v = f v) : g v = if v ∈ L ++ [w] then 1 else 0 := by
  by_cases z : v = w
  · rw [e1 z, if_pos (List.mem_append_right _ (List.mem_singleton.mpr z))]
  · rw [e2 z, a]
    have : v ∈ L ++ [w] ↔ v ∈ L := by
      rw [List.mem_append, List.mem_singleton]
      exact ⟨fun y => y.resolve_right z, Or.inl⟩
    by_cases y : v ∈ L
    · rw [if_pos y, if_pos (this.mpr y)]
    · rw [if_neg y, if_neg (fun q => y (this.mp q))]
def p_mark (e : Int) (h : Hp) : Prop := (∃ R, GI h R) ∧ TS h ∧ eOK h e
def q_mark (e : Int) (h h' : Hp) : Prop := (∀ v, vOK h v → h' 26 v = if v ∈ cyV h e then 1 else 0) ∧ (∀ k, 0 ≤ k → k < h 1 7 → h' 27 k = if k ∈ cyE h e then 1 else 0) ∧ h' 5 8 = (cyV h e).length ∧ ∀ j, j ≠ 8 → h' 5 j = h 5 j
set_option maxHeartbeats 1000000 in
theorem ct_mark {l : Launch} (e : Int) (h : Hp) (hb : p_mark e h) : Ct l yX3_markCycle cX3_markCycle 5 none 1 21 0 [vr 5, vi e] h [5, 26, 27] (fun _ h1 => q_mark e h h1) (fun _ => False) := by
  obtain ⟨⟨R, G⟩, ts, he⟩ := hb
  obtain ⟨⟨s1, s2⟩, hu, hv, ep⟩ := edge_ok G he
  have g1 := G.1
  have g2 := G.2.1
  have l1 := Sd_lt G s1
  have l2 := Sd_lt G s2
  have call := CI_all G hu hv ep
  obtain ⟨X, eX⟩ : ∃ X, X = cst (tr h) (h 6 (2 * e)) (h 6 (2 * e + 1)) := ⟨_, rfl⟩
  rw [← eX] at call
  have eF : cyF h e = X 30 := by rw [eX]; rfl
  have he' := he
  obtain ⟨he1, he2⟩ := he'
  refine w_X3_markCycle _ p_unmark q_unmark p_climb q_climb
    (fun n g x2 x3 x4 => ∃ i : Nat, x4 = i ∧ x2 = (X i).1 ∧ x3 = (X i).2.1 ∧ (X i).2.2.length = i ∧ (∀ v, vOK h v → g 26 v = if v ∈ (X i).2.2 then 1 else 0) ∧ (∀ k, 0 ≤ k → k < h 1 7 → g 27 k = if k ∈ e :: (X i).2.2.map (tr h 16) then 1 else 0) ∧ g 5 8 = i ∧ (∀ j, j ≠ 8 → g 5 j = h 5 j) ∧ n = 30 - i) h e ct_unmark ct_climb ?_ (fun _ _ => ?_)
  · rintro n g x2 x3 x4 - F - - - ⟨i, rfl, rfl, rfl, i1, i2, i3, i4, i5, i6⟩
    have gs : Gs h g := Gs.of F (by decide)
    have c := call i
    have hl := CI_len G c
    obtain ⟨⟨c1, c2, c3⟩, c4, c5, -⟩ := id c
    have c1' := c1
    have c2' := c2
    unfold vOK at c1' c2'
    have t1 := ts.2 _ c1
    have t2 := ts.2 _ c2
    have step : (X i).1 ≠ (X i).2.1 → X (i + 1) = cstep (tr h) (X i) := fun _ => by rw [eX]; rfl
    unfold V_X3_markCycle_40 V_X3_markCycle_94 V_X3_markCycle_88
    rw [F 17 (by decide), t1.2.2.2, t2.2.2.2]
    refine ⟨fun d => ⟨by omega, fun h2 e2 => ?_⟩, fun d => ⟨fun d1 => by omega, fun d1 => ⟨by omega, by omega, fun d2 => ?_, fun d2 => ?_⟩⟩⟩
    · have k58 : h2 5 8 = i := by rw [e2, hup_k (by decide)]; exact i4
      rw [k58]
      have ef : cyF h e = X i := by
        rw [eF]
        have := cst_stop (t := tr h) (u := h 6 (2 * e)) (v := h 6 (2 * e + 1)) (n := i) (by rw [← eX]; exact d) (30 - i)
        rw [show i + (30 - i) = 30 by omega, ← eX] at this
        exact this
      refine ⟨by unfold InR; omega, fun h4 e4 => ⟨fun v hv => ?_, fun k k1 k2 => ?_, ?_, fun j hj => ?_⟩⟩
      · unfold cyV
        rw [ef]
        refine mark_add (f := g 26) (i2 v hv) (fun z => ?_) (fun z => ?_)
        · rw [e4, hup_k (by decide), e2, z, hup_s]
        · rw [e4, hup_k (by decide), e2, hup_o (fun q => z q.2)]
      · unfold cyE
        rw [ef, e4, hup_k (by decide), e2, hup_k (by decide)]
        exact i3 k k1 k2
      · unfold cyV
        rw [ef, e4, hup_s, List.length_append, i1]
        rfl
      · rw [e4, hup_o (fun z => hj z.2), e2, hup_k (by decide)]
        exact i5 j hj
    · have ne := d
      obtain ⟨n1, n2, n3, n4, s, q1, q2, q3, q4⟩ := not_root G c2 c1 c3.symm (fun z => d z.symm) (by omega)
      have ls := Sd_lt G q1
      have k16 : g 16 (X i).2.1 = tr h 16 (X i).2.1 := by rw [F 16 (by decide)]; exact t2.2.2.1
      have k15 : g 15 (X i).2.1 = tr h 15 (X i).2.1 := by rw [F 15 (by decide)]; exact t2.2.1
      have len := (CI_step G c ne).2
      rw [← step ne] at len
      have sx : X (i + 1) = ((X i).1, tr h 15 (X i).2.1, (X i).2.2 ++ [(X i).2.1]) := by
        rw [step ne]
        unfold cstep
        rw [if_neg ne, if_pos d2]
      refine ⟨⟨by omega, by rw [k16, q4]; omega, by omega⟩, fun r h14 f14 _ _ q14 z15 e15 => ⟨by unfold InR; omega, fun z5 e5 => ⟨30 - (i + 1), by omega, i + 1, by omega, ?_, ?_, by omega, fun v hv => ?_, fun k k1 k2 => ?_, ?_, fun j hj => ?_, rfl⟩⟩⟩
      · rw [sx]
      · rw [sx, e15, q14.1, k15]
      · rw [sx]
        show h14 26 v = if v ∈ (X i).2.2 ++ [(X i).2.1] then 1 else 0
        refine mark_add (f := g 26) (i2 v hv) (fun z => ?_) (fun z => ?_)
        · rw [q14.2, hup_k (by decide), hup_k (by decide), z, hup_s]
        · rw [q14.2, hup_k (by decide), hup_k (by decide), hup_o (fun q => z q.2)]
      · rw [sx]
        show h14 27 k = if k ∈ e :: ((X i).2.2 ++ [(X i).2.1]).map (tr h 16) then 1 else 0
        rw [List.map_append, ← List.cons_append]
        refine mark_add (f := g 27) (w := tr h 16 (X i).2.1) (i3 k k1 k2) (fun z => ?_) (fun z => ?_)
        · rw [q14.2, hup_k (by decide), k16, z, hup_s]
        · rw [q14.2, hup_k (by decide), k16, hup_o (fun q => z q.2), hup_k (by decide)]
      · rw [q14.2, hup_s, i4]; rfl
      · rw [q14.2, hup_o (fun z => hj z.2), hup_k (by decide), hup_k (by decide)]
        exact i5 j hj
    · have ne := d
      obtain ⟨n1, n2, n3, n4, s, q1, q2, q3, q4⟩ := not_root G c1 c2 c3 d (by omega)
      have ls := Sd_lt G q1
      have k16 : g 16 (X i).1 = tr h 16 (X i).1 := by rw [F 16 (by decide)]; exact t1.2.2.1
      have k15 : g 15 (X i).1 = tr h 15 (X i).1 := by rw [F 15 (by decide)]; exact t1.2.1
      have len := (CI_step G c ne).2
      rw [← step ne] at len
      have sx : X (i + 1) = (tr h 15 (X i).1, (X i).2.1, (X i).2.2 ++ [(X i).1]) := by
        rw [step ne]
        unfold cstep
        rw [if_neg ne, if_neg d2]
      refine ⟨⟨by omega, by rw [k16, q4]; omega, by omega⟩, fun r h14 f14 _ _ q14 z15 e15 => ⟨by unfold InR; omega, fun z5 e5 => ⟨30 - (i + 1), by omega, i + 1, by omega, ?_, ?_, by omega, fun v hv => ?_, fun k k1 k2 => ?_, ?_, fun j hj => ?_, rfl⟩⟩⟩
      · rw [sx, e15, q14.1, k15]
      · rw [sx]
      · rw [sx]
        show h14 26 v = if v ∈ (X i).2.2 ++ [(X i).1] then 1 else 0
        refine mark_add (f := g 26) (i2 v hv) (fun z => ?_) (fun z => ?_)
        · rw [q14.2, hup_k (by decide), hup_k (by decide), z, hup_s]
        · rw [q14.2, hup_k (by decide), hup_k (by decide), hup_o (fun q => z q.2)]
      · rw [sx]
        show h14 27 k = if k ∈ e :: ((X i).2.2 ++ [(X i).1]).map (tr h 16) then 1 else 0
        rw [List.map_append, ← List.cons_append]
        refine mark_add (f := g 27) (w := tr h 16 (X i).1) (i3 k k1 k2) (fun z => ?_) (fun z => ?_)
        · rw [q14.2, hup_k (by decide), k16, z, hup_s]
        · rw [q14.2, hup_k (by decide), k16, hup_o (fun q => z q.2), hup_k (by decide)]
      · rw [q14.2, hup_s, i4]; rfl
      · rw [q14.2, hup_o (fun z => hj z.2), hup_k (by decide), hup_k (by decide)]
        exact i5 j hj
  · unfold V_X3_markCycle
    refine ⟨⟨R, G⟩, fun h21 f21 _ q21 => ⟨by omega, fun h23 e23 => ?_⟩⟩
    have k6 : h23 6 = h 6 := by rw [e23, hup_k (by decide), f21 6 (by decide)]
    rw [k6]
    refine ⟨by unfold InR; omega, by omega, fun z26 e26 => ⟨by unfold InR; omega, by unfold InR; omega, by omega, fun z30 e30 z31 e31 => ⟨30, 0, e31, by rw [e26, eX]; rfl, by rw [e30, eX]; rfl, by rw [eX]; rfl, fun v hv => ?_, fun k k1 k2 => ?_, ?_, fun j hj => ?_, rfl⟩⟩⟩
    · rw [e23, hup_k (by decide), q21.1 v hv, eX]
      show (0 : Int) = if v ∈ [] then 1 else 0
      rw [if_neg List.not_mem_nil]
    · rw [e23, eX]
      show hup h21 27 e 1 27 k = if k ∈ [e] then 1 else 0
      by_cases z : k = e
      · rw [z, hup_s, if_pos (List.mem_singleton.mpr rfl)]
      · rw [hup_o (fun q => z q.2), q21.2.1 k k1 k2, if_neg (fun q => z (List.mem_singleton.mp q))]
    · rw [e23, hup_k (by decide)]
      exact q21.2.2.1
    · rw [e23, hup_k (by decide)]
      exact q21.2.2.2 j hj

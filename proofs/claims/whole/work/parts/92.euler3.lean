/-! PURE: no set of vertices has six neighbours each -/
section Euler3
variable {S : Int → Prop} {st nx : Int → Int} {V : Int}
/-- different sides, as many as sides there are at most -/
theorem sides_le (hS : ∀ s, S s → 0 ≤ s ∧ s < 200) (f : Nat → Int) (d : Nat) (h1 : ∀ i, i < d → S (f i)) (h2 : ∀ i j, i < d → j < d → f i = f j → i = j) : (d : Int) ≤ cntP S 200 := by
  have hc := cntP_le S 200
  have := inj_le (cntP S 200).toNat (fun i => cntP S (f i).toNat) d (fun i hi => by
    have a := h1 i hi
    have b := hS _ a
    have := cntP_lt (p := S) (a := (f i).toNat) (b := 200) (by omega) (by rw [show (((f i).toNat : Nat) : Int) = f i by omega]; exact a)
    have := cntP_le S (f i).toNat
    show 0 ≤ cntP S (f i).toNat ∧ cntP S (f i).toNat < _
    omega) (fun i j hi hj e => by
    have e : cntP S (f i).toNat = cntP S (f j).toNat := e
    have a1 := h1 i hi
    have a2 := h1 j hj
    have b1 := hS _ a1
    have b2 := hS _ a2
    refine h2 i j hi hj ?_
    rcases Nat.lt_trichotomy (f i).toNat (f j).toNat with w | w | w
    · have := cntP_lt (p := S) w (by rw [show (((f i).toNat : Nat) : Int) = f i by omega]; exact a1)
      omega
    · omega
    · have := cntP_lt (p := S) w (by rw [show (((f j).toNat : Nat) : Int) = f j by omega]; exact a2)
      omega)
  omega
theorem cntP_comp (p : Int → Prop) : ∀ n : Nat, cntP p n + cntP (fun x => ¬ p x) n = n := by
  intro n
  induction n with
  | zero => rfl
  | succ n ih =>
    by_cases w : p n
    · rw [cntP_t w, cntP_f (p := fun x => ¬ p x) (fun z => z w)]
      omega
    · rw [cntP_f w, cntP_t (p := fun x => ¬ p x) w]
      omega
/-- rank of one that has p -/
theorem rank_lt {p : Int → Prop} {v : Int} {n : Nat} (hv : 0 ≤ v ∧ v < n) (h : p v) : 0 ≤ cntP p v.toNat ∧ cntP p v.toNat < cntP p n := by
  have := cntP_le p v.toNat
  have := cntP_lt (p := p) (a := v.toNat) (b := n) (by omega) (by rw [show ((v.toNat : Nat) : Int) = v by omega]; exact h)
  omega
theorem rank_inj {p : Int → Prop} {v w : Int} (hv : 0 ≤ v) (hw : 0 ≤ w) (pv : p v) (pw : p w) (e : cntP p v.toNat = cntP p w.toNat) : v = w := by
  rcases Nat.lt_trichotomy v.toNat w.toNat with z | z | z
  · have := cntP_lt (p := p) z (by rw [show ((v.toNat : Nat) : Int) = v by omega]; exact pv)
    omega
  · omega
  · have := cntP_lt (p := p) z (by rw [show ((w.toNat : Nat) : Int) = w by omega]; exact pw)
    omega
theorem no_six (p : PMp S st nx V) (ce : CE S st nx V) {X : Int → Prop} (hV : 0 ≤ V) (u : Int) (hu : (0 ≤ u ∧ u < V) ∧ ¬ X u)
    (hT : ∀ v, 0 ≤ v → v < V → X v → Iso S st v) (six : ∀ v, 0 ≤ v → v < V → ¬ X v → ∃ g : Nat → Int, (∀ j, j < 6 → S (g j) ∧ st (g j) = v) ∧ ∀ i j, i < 6 → j < 6 → g i = g j → i = j) : False := by
  obtain ⟨lam, mu, kap, k, c, c1, c2, c3, c4, c5, c6, c7, c8⟩ := ce
  have P := p.perm
  obtain ⟨n, en⟩ : ∃ n : Nat, V = n := ⟨V.toNat, by omega⟩
  subst en
  have comp := cntP_comp X n
  have hX := cntP_le X n
  have hY := cntP_le (fun v => ¬ X v) n
  -- six sides for each vertex outside X
  have exv : ∀ i : Nat, (i : Int) < cntP (fun v => ¬ X v) n → ∃ a : Nat, a < n ∧ ¬ X a ∧ cntP (fun v => ¬ X v) a = i := fun i hi => cntP_ex n i (by omega) hi
  have s6 : 6 * cntP (fun v => ¬ X v) n ≤ cntP S 200 := by
    obtain ⟨d, ed⟩ : ∃ d : Nat, cntP (fun v => ¬ X v) n = d := ⟨(cntP (fun v => ¬ X v) n).toNat, by omega⟩
    rw [ed] at exv ⊢
    have ch : ∀ i : Nat, ∃ (a : Nat) (g : Nat → Int), i < d → cntP (fun v => ¬ X v) a = i ∧ (∀ j, j < 6 → S (g j) ∧ st (g j) = a) ∧ ∀ x y, x < 6 → y < 6 → g x = g y → x = y := by
      intro i
      by_cases hi : i < d
      · obtain ⟨a, a1, a2, a3⟩ := exv i (by omega)
        obtain ⟨g, g1, g2⟩ := six a (by omega) (by omega) a2
        exact ⟨a, g, fun _ => ⟨a3, g1, g2⟩⟩
      · exact ⟨0, fun _ => 0, fun z => absurd z hi⟩
    have := sides_le p.1 (fun i => (Classical.choose (Classical.choose_spec (ch (i / 6)))) (i % 6)) (6 * d) (fun i hi => by
      obtain ⟨-, z, -⟩ := Classical.choose_spec (Classical.choose_spec (ch (i / 6))) (by omega)
      exact (z (i % 6) (Nat.mod_lt _ (by decide))).1) (fun i j hi hj e => by
      obtain ⟨x1, x2, x3⟩ := Classical.choose_spec (Classical.choose_spec (ch (i / 6))) (by omega)
      obtain ⟨y1, y2, y3⟩ := Classical.choose_spec (Classical.choose_spec (ch (j / 6))) (by omega)
      have e : (Classical.choose (Classical.choose_spec (ch (i / 6)))) (i % 6) = (Classical.choose (Classical.choose_spec (ch (j / 6)))) (j % 6) := e
      have s1 := (x2 (i % 6) (Nat.mod_lt _ (by decide))).2
      have s2 := (y2 (j % 6) (Nat.mod_lt _ (by decide))).2
      rw [e, s2] at s1
      have hq : i / 6 = j / 6 := by
        have : Classical.choose (ch (j / 6)) = Classical.choose (ch (i / 6)) := by omega
        rw [← this, y1] at x1
        omega
      rw [hq] at e
      have := y3 (i % 6) (j % 6) (Nat.mod_lt _ (by decide)) (Nat.mod_lt _ (by decide)) e
      omega)
    omega
  -- a vertex with a side has two
  have two : ∀ s, S s → nx s ≠ s := by
    intro s hs z
    have hv := (p.2.2.2.2.1 s hs).1
    by_cases w : X (st s)
    · exact hT _ hv.1 hv.2 w s hs rfl
    · obtain ⟨g, g1, g2⟩ := six _ hv.1 hv.2 w
      have e0 := p.fix hs z (g1 0 (by decide)).1 (g1 0 (by decide)).2
      have e1 := p.fix hs z (g1 1 (by decide)).1 (g1 1 (by decide)).2
      have := g2 0 1 (by decide) (by decide) (e0.trans e1.symm)
      omega
  -- every face has three sides
  have three : ∀ s, S s → ∀ i j : Nat, i < 3 → j < 3 → itF (pf nx) i s = itF (pf nx) j s → i = j := by
    intro s hs
    have n1 : pf nx s ≠ s := pf_ne p hs
    have n2 : pf nx (pf nx s) ≠ pf nx s := pf_ne p (P.1 s hs)
    have n3 : pf nx (pf nx s) ≠ s := by
      intro z
      have a1 := p.stf hs
      have a2 := p.stf (P.1 s hs)
      rw [z] at a2
      have e := p.2.2.2.2.2.1 (pf nx s) (tw s) (P.1 s hs) (p.2.1 s hs) a1 (by rw [tw_tw]; exact a2.symm)
      exact two _ (p.2.1 s hs) e
    intro i j hi hj e
    have key : ∀ x : Nat, x < 3 → x = 0 ∨ x = 1 ∨ x = 2 := by omega
    rcases key i hi with rfl | rfl | rfl <;> rcases key j hj with rfl | rfl | rfl
    · rfl
    · exact absurd e.symm n1
    · exact absurd e.symm n3
    · exact absurd e n1
    · rfl
    · exact absurd e.symm n2
    · exact absurd e n3
    · exact absurd e n2
    · rfl
  obtain ⟨m, em⟩ : ∃ m : Nat, k = m := ⟨k.toNat, by omega⟩
  subst em
  -- labels of sides
  obtain ⟨Q, hQ⟩ : ∃ Q : Int → Prop, ∀ l, Q l ↔ ∃ s, S s ∧ lam s = l := ⟨fun l => ∃ s, S s ∧ lam s = l, fun _ => Iff.rfl⟩
  have hq := cntP_le Q m
  have qcomp := cntP_comp Q m
  have s3 : 3 * cntP Q m ≤ cntP S 200 := by
    obtain ⟨d, ed⟩ : ∃ d : Nat, cntP Q m = d := ⟨(cntP Q m).toNat, by omega⟩
    have ch : ∀ i : Nat, ∃ s : Int, i < d → S s ∧ ∃ a : Nat, cntP Q a = i ∧ lam s = a := by
      intro i
      by_cases hi : i < d
      · obtain ⟨a, a1, a2, a3⟩ := cntP_ex (p := Q) m i (by omega) (by omega)
        obtain ⟨s, s1, s2⟩ := (hQ a).mp a2
        exact ⟨s, fun _ => ⟨s1, a, a3, s2⟩⟩
      · exact ⟨0, fun z => absurd z hi⟩
    have := sides_le p.1 (fun i => itF (pf nx) (i % 3) (Classical.choose (ch (i / 3)))) (3 * d) (fun i hi => P.it (Classical.choose_spec (ch (i / 3)) (by omega)).1 _) (fun i j hi hj e => by
      obtain ⟨x1, a, x2, x3⟩ := Classical.choose_spec (ch (i / 3)) (by omega)
      obtain ⟨y1, b, y2, y3⟩ := Classical.choose_spec (ch (j / 3)) (by omega)
      have e : itF (pf nx) (i % 3) (Classical.choose (ch (i / 3))) = itF (pf nx) (j % 3) (Classical.choose (ch (j / 3))) := e
      have l1 := lam_it p c1 x1 (i % 3)
      have l2 := lam_it p c1 y1 (j % 3)
      rw [e, l2, y3, x3] at l1
      have hab : a = b := by omega
      rw [← hab, x2] at y2
      have hq : i / 3 = j / 3 := by omega
      rw [hq] at e
      have := three _ y1 (i % 3) (j % 3) (Nat.mod_lt _ (by decide)) (Nat.mod_lt _ (by decide)) e
      omega)
    omega
  -- the other labels belong to vertices of X
  have sT : cntP (fun l => ¬ Q l) m ≤ cntP X n := by
    obtain ⟨d, ed⟩ : ∃ d : Nat, cntP (fun l => ¬ Q l) m = d := ⟨(cntP (fun l => ¬ Q l) m).toNat, by have := cntP_le (fun l => ¬ Q l) m; omega⟩
    have ch : ∀ i : Nat, ∃ v : Int, i < d → ((0 ≤ v ∧ v < n) ∧ X v) ∧ ∃ a : Nat, cntP (fun l => ¬ Q l) a = i ∧ mu v = a := by
      intro i
      by_cases hi : i < d
      · obtain ⟨a, a1, a2, a3⟩ := cntP_ex (p := fun l => ¬ Q l) m i (by omega) (by omega)
        rcases c4 a (by omega) (by omega) with z | ⟨v, v1, v2, v3⟩
        · exact absurd ((hQ a).mpr z) a2
        · refine ⟨v, fun _ => ⟨⟨v1, ?_⟩, a, a3, v3⟩⟩
          apply Classical.byContradiction
          intro nx'
          obtain ⟨g, g1, -⟩ := six v v1.1 v1.2 nx'
          exact v2 _ (g1 0 (by decide)).1 (g1 0 (by decide)).2
      · exact ⟨0, fun z => absurd z hi⟩
    have := inj_le (cntP X n).toNat (fun i => cntP X (Classical.choose (ch i)).toNat) d (fun i hi => by
      obtain ⟨⟨x1, x2⟩, -⟩ := Classical.choose_spec (ch i) hi
      have := rank_lt (p := X) x1 x2
      show 0 ≤ cntP X (Classical.choose (ch i)).toNat ∧ cntP X (Classical.choose (ch i)).toNat < _
      omega) (fun i j hi hj e => by
      obtain ⟨⟨x1, x2⟩, a, x3, x4⟩ := Classical.choose_spec (ch i) hi
      obtain ⟨⟨y1, y2⟩, b, y3, y4⟩ := Classical.choose_spec (ch j) hj
      have e := rank_inj (p := X) x1.1 y1.1 x2 y2 e
      rw [e, y4] at x4
      have : a = b := by omega
      rw [this, y3] at x3
      omega)
    omega
  -- each vertex of X is a part of its own, and there is one more
  have sc : cntP X n + 1 ≤ c := by
    obtain ⟨d, ed⟩ : ∃ d : Nat, cntP X n = d := ⟨(cntP X n).toNat, by omega⟩
    have ch : ∀ i : Nat, ∃ v : Int, (i < d → ((0 ≤ v ∧ v < n) ∧ X v) ∧ cntP X v.toNat = i) ∧ (¬ i < d → v = u) := by
      intro i
      by_cases hi : i < d
      · obtain ⟨a, a1, a2, a3⟩ := cntP_ex (p := X) n i (by omega) (by omega)
        exact ⟨a, fun _ => ⟨⟨⟨by omega, by omega⟩, a2⟩, by rw [show ((a : Int)).toNat = a by omega]; exact a3⟩, fun z => absurd hi z⟩
      · exact ⟨u, fun z => absurd z hi, fun _ => rfl⟩
    have vr : ∀ i : Nat, 0 ≤ Classical.choose (ch i) ∧ Classical.choose (ch i) < n := by
      intro i
      have sp := Classical.choose_spec (ch i)
      by_cases hi : i < d
      · exact (sp.1 hi).1.1
      · rw [sp.2 hi]; exact hu.1
    have iso : ∀ v w, X v → 0 ≤ v → v < n → Cn S st v w → w = v := by
      intro v w xv v1 v2 cn
      exact cn (fun x => x = v) rfl (fun s hs z => absurd z (hT v v1 v2 xv s hs))
    have := inj_le c.toNat (fun i => kap (Classical.choose (ch i))) (d + 1) (fun i hi => by
      have := c5 _ (vr i).1 (vr i).2
      show 0 ≤ kap (Classical.choose (ch i)) ∧ kap (Classical.choose (ch i)) < _
      omega) (fun i j hi hj e => by
      have cn := c6 _ _ (vr i).1 (vr i).2 (vr j).1 (vr j).2 e
      have si := Classical.choose_spec (ch i)
      have sj := Classical.choose_spec (ch j)
      by_cases w1 : i < d <;> by_cases w2 : j < d
      · obtain ⟨⟨x1, x2⟩, x3⟩ := si.1 w1
        obtain ⟨⟨y1, y2⟩, y3⟩ := sj.1 w2
        have := iso _ _ x2 x1.1 x1.2 cn
        rw [this, x3] at y3
        omega
      · obtain ⟨⟨x1, x2⟩, x3⟩ := si.1 w1
        have := iso _ _ x2 x1.1 x1.2 cn
        rw [sj.2 w2] at this
        rw [← this] at x2
        exact absurd x2 hu.2
      · obtain ⟨⟨y1, y2⟩, y3⟩ := sj.1 w2
        have := iso _ _ y2 y1.1 y1.2 (cn.sm p.2.1)
        rw [si.2 w1] at this
        rw [← this] at y2
        exact absurd y2 hu.2
      · omega)
    omega
  omega
end Euler3

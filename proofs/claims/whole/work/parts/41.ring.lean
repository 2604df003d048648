/-! PURE: rings of sides round a vertex, as functions: r k is the side at place k -/
/-- the sides S that start (st) at v, d of them, stand in a ring r: first f, next nx, previous pv -/
def Rg (S : Int → Prop) (st nx pv : Int → Int) (v f d : Int) (r : Nat → Int) : Prop :=
  0 ≤ d ∧ (∀ i j : Nat, (i : Int) < d → (j : Int) < d → r i = r j → i = j) ∧ (∀ i : Nat, (i : Int) < d → S (r i) ∧ st (r i) = v) ∧ (∀ s, S s → st s = v → ∃ i : Nat, (i : Int) < d ∧ r i = s) ∧ (0 < d → f = r 0) ∧
  (∀ i : Nat, (i : Int) + 1 < d → nx (r i) = r (i + 1) ∧ pv (r (i + 1)) = r i) ∧ (∀ i : Nat, (i : Int) + 1 = d → nx (r i) = r 0 ∧ pv (r 0) = r i)
def insF (r : Nat → Int) (p : Nat) (x : Int) : Nat → Int := fun k => if k < p then r k else if k = p then x else r (k - 1)
def delF (r : Nat → Int) (p : Nat) : Nat → Int := fun k => if k < p then r k else r (k + 1)
theorem insF_lt {r : Nat → Int} {p k : Nat} {x : Int} (h : k < p) : insF r p x k = r k := if_pos h
theorem insF_eq {r : Nat → Int} {p : Nat} {x : Int} : insF r p x p = x := by unfold insF; rw [if_neg (Nat.lt_irrefl p), if_pos rfl]
theorem insF_gt {r : Nat → Int} {p k : Nat} {x : Int} (h : p < k) : insF r p x k = r (k - 1) := by unfold insF; rw [if_neg (by omega), if_neg (by omega)]
theorem delF_lt {r : Nat → Int} {p k : Nat} (h : k < p) : delF r p k = r k := if_pos h
theorem delF_ge {r : Nat → Int} {p k : Nat} (h : p ≤ k) : delF r p k = r (k + 1) := if_neg (by omega)
/-- a new side x behind place p - 1 -/
theorem Rg.ins {S S' : Int → Prop} {st st' nx nx' pv pv' : Int → Int} {v f d x : Int} {r : Nat → Int} {p : Nat} (H : Rg S st nx pv v f d r) (hp : 1 ≤ p) (hpd : (p : Int) ≤ d) (hx : ¬ S x)
    (hS : ∀ s, S' s ∧ st' s = v ↔ (S s ∧ st s = v) ∨ s = x)
    (n1 : nx' (r (p - 1)) = x) (n2 : nx' x = nx (r (p - 1))) (n3 : ∀ s, s ≠ x → s ≠ r (p - 1) → nx' s = nx s)
    (v1 : pv' x = r (p - 1)) (v2 : pv' (nx (r (p - 1))) = x) (v3 : ∀ s, s ≠ x → s ≠ nx (r (p - 1)) → pv' s = pv s) : Rg S' st' nx' pv' v f (d + 1) (insF r p x) := by
  obtain ⟨h0, h1, h2, h3, h4, h5, h6⟩ := H
  have hne : ∀ i : Nat, (i : Int) < d → r i ≠ x := fun i hi e => hx (e ▸ (h2 i hi).1)
  refine ⟨by omega, ?_, ?_, ?_, ?_, ?_, ?_⟩
  · intro i j hi hj e
    rcases Nat.lt_trichotomy i p with a | a | a <;> rcases Nat.lt_trichotomy j p with b | b | b
    · rw [insF_lt a, insF_lt b] at e; exact h1 i j (by omega) (by omega) e
    · subst b; rw [insF_lt a, insF_eq] at e; exact absurd e (hne i (by omega))
    · rw [insF_lt a, insF_gt b] at e; have := h1 i (j - 1) (by omega) (by omega) e; omega
    · subst a; rw [insF_eq, insF_lt b] at e; exact absurd e.symm (hne j (by omega))
    · omega
    · subst a; rw [insF_eq, insF_gt b] at e; exact absurd e.symm (hne (j - 1) (by omega))
    · rw [insF_gt a, insF_lt b] at e; have := h1 (i - 1) j (by omega) (by omega) e; omega
    · subst b; rw [insF_gt a, insF_eq] at e; exact absurd e (hne (i - 1) (by omega))
    · rw [insF_gt a, insF_gt b] at e; have := h1 (i - 1) (j - 1) (by omega) (by omega) e; omega
  · intro i hi
    rw [hS]
    rcases Nat.lt_trichotomy i p with a | a | a
    · rw [insF_lt a]; exact Or.inl (h2 i (by omega))
    · subst a; exact Or.inr insF_eq
    · rw [insF_gt a]; exact Or.inl (h2 (i - 1) (by omega))
  · intro s hs hv
    rcases (hS s).mp ⟨hs, hv⟩ with ⟨a, b⟩ | a
    · obtain ⟨i, hi, e⟩ := h3 s a b
      by_cases q : i < p
      · exact ⟨i, by omega, by rw [insF_lt q]; exact e⟩
      · exact ⟨i + 1, by omega, by rw [insF_gt (by omega)]; exact e⟩
    · exact ⟨p, by omega, by rw [insF_eq, a]⟩
  · intro _
    rw [insF_lt (by omega)]
    exact h4 (by omega)
  · intro i hi
    rcases Nat.lt_trichotomy (i + 1) p with a | a | a
    · rw [insF_lt (by omega), insF_lt a]
      have hA : r i ≠ r (p - 1) := fun e => by have := h1 i (p - 1) (by omega) (by omega) e; omega
      have g := h5 i (by omega)
      rw [n3 _ (hne i (by omega)) hA]
      refine ⟨g.1, ?_⟩
      rw [v3 _ (hne (i + 1) (by omega))]
      · exact g.2
      · intro e
        by_cases q : (p : Int) < d
        · have g2 := (h5 (p - 1) (by omega)).1
          rw [show p - 1 + 1 = p by omega] at g2
          rw [g2] at e
          have := h1 (i + 1) p (by omega) (by omega) e
          omega
        · have g2 := (h6 (p - 1) (by omega)).1
          rw [g2] at e
          have := h1 (i + 1) 0 (by omega) (by omega) e
          omega
    · rw [insF_lt (by omega)]
      rw [a, insF_eq]
      have e : r i = r (p - 1) := by congr 1; omega
      rw [e]
      exact ⟨n1, v1⟩
    · by_cases q : i = p
      · subst q
        rw [insF_eq, insF_gt (by omega), Nat.add_sub_cancel]
        have g2 := (h5 (i - 1) (by omega)).1
        rw [show i - 1 + 1 = i by omega] at g2
        rw [g2] at n2 v2
        exact ⟨n2, v2⟩
      · rw [insF_gt (by omega), insF_gt (by omega), Nat.add_sub_cancel]
        have g := h5 (i - 1) (by omega)
        rw [show i - 1 + 1 = i by omega] at g
        have hA : r (i - 1) ≠ r (p - 1) := fun e => by have := h1 (i - 1) (p - 1) (by omega) (by omega) e; omega
        rw [n3 _ (hne (i - 1) (by omega)) hA]
        refine ⟨g.1, ?_⟩
        rw [v3 _ (hne i (by omega))]
        · exact g.2
        · intro e
          have g2 := (h5 (p - 1) (by omega)).1
          rw [show p - 1 + 1 = p by omega] at g2
          rw [g2] at e
          have := h1 i p (by omega) (by omega) e
          omega
  · intro i hi
    rw [insF_lt (k := 0) (by omega)]
    by_cases q : i = p
    · subst q
      rw [insF_eq]
      have g2 := (h6 (i - 1) (by omega)).1
      rw [g2] at n2 v2
      exact ⟨n2, v2⟩
    · rw [insF_gt (by omega)]
      have g := h6 (i - 1) (by omega)
      have hA : r (i - 1) ≠ r (p - 1) := fun e => by have := h1 (i - 1) (p - 1) (by omega) (by omega) e; omega
      rw [n3 _ (hne (i - 1) (by omega)) hA]
      refine ⟨g.1, ?_⟩
      rw [v3 _ (hne 0 (by omega))]
      · exact g.2
      · intro e
        have g2 := (h5 (p - 1) (by omega)).1
        rw [show p - 1 + 1 = p by omega] at g2
        rw [g2] at e
        have := h1 0 p (by omega) (by omega) e
        omega
/-- the first side of all -/
theorem Rg.one {S S' : Int → Prop} {st st' nx nx' pv pv' : Int → Int} {v f d x : Int} {r : Nat → Int} (H : Rg S st nx pv v f d r) (hd : d = 0) (hS : ∀ s, S' s ∧ st' s = v ↔ (S s ∧ st s = v) ∨ s = x) (n1 : nx' x = x) (v1 : pv' x = x) : Rg S' st' nx' pv' v x (d + 1) (fun _ => x) := by
  obtain ⟨h0, h1, h2, h3, h4, h5, h6⟩ := H
  subst hd
  refine ⟨by omega, fun i j hi hj _ => by omega, fun i _ => (hS x).mpr (Or.inr rfl), fun s hs hv => ?_, fun _ => rfl, fun i hi => by omega, fun i _ => ⟨n1, v1⟩⟩
  rcases (hS s).mp ⟨hs, hv⟩ with ⟨a, b⟩ | a
  · obtain ⟨i, hi, -⟩ := h3 s a b
    omega
  · exact ⟨0, by omega, a.symm⟩
/-- another vertex's ring: nothing of it has changed -/
theorem Rg.same {S S' : Int → Prop} {st st' nx nx' pv pv' : Int → Int} {v f d : Int} {r : Nat → Int} (H : Rg S st nx pv v f d r) (hS : ∀ s, S' s ∧ st' s = v ↔ S s ∧ st s = v) (n3 : ∀ s, S s → st s = v → nx' s = nx s) (v3 : ∀ s, S s → st s = v → pv' s = pv s) : Rg S' st' nx' pv' v f d r := by
  obtain ⟨h0, h1, h2, h3, h4, h5, h6⟩ := H
  refine ⟨h0, h1, fun i hi => (hS _).mpr (h2 i hi), fun s hs hv => ?_, h4, fun i hi => ?_, fun i hi => ?_⟩
  · have := (hS s).mp ⟨hs, hv⟩
    exact h3 s this.1 this.2
  · have a := h2 i (by omega)
    have b := h2 (i + 1) (by omega)
    rw [n3 _ a.1 a.2, v3 _ b.1 b.2]
    exact h5 i hi
  · have a := h2 i (by omega)
    have b := h2 0 (by omega)
    rw [n3 _ a.1 a.2, v3 _ b.1 b.2]
    exact h6 i hi
/-- the side at place p goes (there are others) -/
theorem Rg.del {S S' : Int → Prop} {st st' nx nx' pv pv' : Int → Int} {v f f' d : Int} {r : Nat → Int} {p : Nat} (H : Rg S st nx pv v f d r) (hpd : (p : Int) < d) (hd : 1 < d)
    (hS : ∀ s, S' s ∧ st' s = v ↔ (S s ∧ st s = v) ∧ s ≠ r p) (hf : f' = if p = 0 then r 1 else f)
    (n1 : nx' (pv (r p)) = nx (r p)) (n3 : ∀ s, s ≠ pv (r p) → nx' s = nx s) (v1 : pv' (nx (r p)) = pv (r p)) (v3 : ∀ s, s ≠ nx (r p) → pv' s = pv s) : Rg S' st' nx' pv' v f' (d - 1) (delF r p) := by
  obtain ⟨h0, h1, h2, h3, h4, h5, h6⟩ := H
  -- the places before and behind p
  have hnp : nx (r p) = r (if (p : Int) + 1 = d then 0 else p + 1) := by
    by_cases q : (p : Int) + 1 = d
    · rw [if_pos q]; exact (h6 p q).1
    · rw [if_neg q]; exact (h5 p (by omega)).1
  have hpp : pv (r p) = r (if p = 0 then (d - 1).toNat else p - 1) := by
    by_cases q : p = 0
    · rw [if_pos q]
      subst q
      exact (h6 (d - 1).toNat (by omega)).2
    · rw [if_neg q]
      have g := (h5 (p - 1) (by omega)).2
      rw [show p - 1 + 1 = p by omega] at g
      exact g
  have inj : ∀ {i j : Nat}, (i : Int) < d → (j : Int) < d → i ≠ j → r i ≠ r j := fun hi hj hn e => hn (h1 _ _ hi hj e)
  refine ⟨by omega, ?_, ?_, ?_, ?_, ?_, ?_⟩
  · intro i j hi hj e
    by_cases a : i < p <;> by_cases b : j < p
    · rw [delF_lt a, delF_lt b] at e; exact h1 i j (by omega) (by omega) e
    · rw [delF_lt a, delF_ge (by omega)] at e; have := h1 i (j + 1) (by omega) (by omega) e; omega
    · rw [delF_ge (by omega), delF_lt b] at e; have := h1 (i + 1) j (by omega) (by omega) e; omega
    · rw [delF_ge (by omega), delF_ge (by omega)] at e; have := h1 (i + 1) (j + 1) (by omega) (by omega) e; omega
  · intro i hi
    rw [hS]
    by_cases a : i < p
    · rw [delF_lt a]; exact ⟨h2 i (by omega), inj (by omega) hpd (by omega)⟩
    · rw [delF_ge (by omega)]; exact ⟨h2 (i + 1) (by omega), inj (by omega) hpd (by omega)⟩
  · intro s hs hv
    obtain ⟨⟨a, b⟩, c⟩ := (hS s).mp ⟨hs, hv⟩
    obtain ⟨i, hi, e⟩ := h3 s a b
    have hip : i ≠ p := fun z => c (by rw [← e, z])
    by_cases q : i < p
    · exact ⟨i, by omega, by rw [delF_lt q]; exact e⟩
    · exact ⟨i - 1, by omega, by rw [delF_ge (by omega), show i - 1 + 1 = i by omega]; exact e⟩
  · intro _
    rw [hf]
    by_cases q : p = 0
    · rw [if_pos q, delF_ge (by omega)]
    · rw [if_neg q, delF_lt (by omega)]; exact h4 (by omega)
  · intro i hi
    by_cases a : i + 1 < p
    · rw [delF_lt (by omega), delF_lt a]
      have g := h5 i (by omega)
      rw [n3 _ (by rw [hpp]; exact inj (by omega) (by split <;> omega) (by split <;> omega)), v3 _ (by rw [hnp]; exact inj (by omega) (by split <;> omega) (by split <;> omega))]
      exact g
    · by_cases b : i + 1 = p
      · rw [delF_lt (by omega), delF_ge (by omega)]
        have e1 : pv (r p) = r i := by rw [hpp, if_neg (by omega)]; congr 1; omega
        have e2 : nx (r p) = r (i + 1 + 1) := by rw [hnp, if_neg (by omega)]; congr 1; omega
        rw [e1, e2] at n1 v1
        exact ⟨n1, v1⟩
      · rw [delF_ge (by omega), delF_ge (by omega)]
        have g := h5 (i + 1) (by omega)
        rw [n3 _ (by rw [hpp]; exact inj (by omega) (by split <;> omega) (by split <;> omega)), v3 _ (by rw [hnp]; exact inj (by omega) (by split <;> omega) (by split <;> omega))]
        exact g
  · intro i hi
    by_cases q : p = 0
    · subst q
      rw [delF_ge (by omega), delF_ge (by omega)]
      have e1 : pv (r 0) = r (i + 1) := by rw [hpp, if_pos rfl]; congr 1; omega
      have e2 : nx (r 0) = r (0 + 1) := by rw [hnp, if_neg (by omega)]
      rw [e1, e2] at n1 v1
      exact ⟨n1, v1⟩
    · rw [delF_lt (k := 0) (by omega)]
      by_cases b : (p : Int) + 1 = d
      · rw [delF_lt (by omega)]
        have e1 : pv (r p) = r i := by rw [hpp, if_neg q]; congr 1; omega
        have e2 : nx (r p) = r 0 := by rw [hnp, if_pos b]
        rw [e1, e2] at n1 v1
        exact ⟨n1, v1⟩
      · rw [delF_ge (by omega)]
        have g := h6 (i + 1) (by omega)
        rw [n3 _ (by rw [hpp, if_neg q]; exact inj (by omega) (by omega) (by omega)), v3 _ (by rw [hnp, if_neg b]; exact inj (by omega) (by omega) (by omega))]
        exact g

/-! PURE: Euler's inequality when an edge goes -/
section Euler2
variable {S : Int → Prop} {st nx : Int → Int} {V : Int}
theorem cntP_del {p q : Int → Prop} {e : Int} (he : p e) (hq : ∀ k, q k ↔ p k ∧ k ≠ e) {n : Nat} (h0 : 0 ≤ e) (h1 : e < n) : cntP q n = cntP p n - 1 :=
  @cnt_off p q (fun a => Classical.propDecidable (p a)) (fun a => Classical.propDecidable (q a)) e he (fun z => ((hq e).mp z).2 rfl) (fun k hk => ⟨fun z => (hq k).mpr ⟨z, hk⟩, fun z => ((hq k).mp z).1⟩) n h0 h1
theorem del_cnt (p : PMp S st nx V) {a : Int} (ha : S a) : cntP (EulerDel S a) 200 = cntP S 200 - 2 := by
  have h1 := p.1 a ha
  have h2 := p.1 _ (p.2.1 a ha)
  have e1 := cntP_del (p := S) (q := fun s => S s ∧ s ≠ a) (e := a) ha (fun k => Iff.rfl) (n := 200) h1.1 (by omega)
  have e2 := cntP_del (p := fun s => S s ∧ s ≠ a) (q := EulerDel S a) (e := tw a) ⟨p.2.1 a ha, tw_ne a⟩ (fun k => ⟨fun z => ⟨⟨z.1, z.2.1⟩, z.2.2⟩, fun z => ⟨z.1.1, z.1.2, z.2⟩⟩) (n := 200) h2.1 (by omega)
  omega
/-- the new way round a face -/
theorem pf_cases (p : PMp S st nx V) {a : Int} (ha : S a) {s : Int} (hs : EulerDel S a s) : (pf nx s = a ∧ pf (skp nx a) s = pf nx (tw a)) ∨ (pf nx s = tw a ∧ pf (skp nx a) s = pf nx a) ∨ (pf nx s ≠ a ∧ pf nx s ≠ tw a ∧ pf (skp nx a) s = pf nx s) := by
  have ht := del_tw p hs
  unfold pf
  rw [tw_tw]
  rcases skp_cases p ha ht with ⟨q1, q2, -⟩ | ⟨q1, q2, -⟩ | ⟨q1, q2, q3⟩
  · exact Or.inl ⟨q1, q2⟩
  · exact Or.inr (Or.inl ⟨q1, q2⟩)
  · exact Or.inr (Or.inr ⟨q1, q2, q3⟩)
theorem pf_ne (p : PMp S st nx V) {s : Int} (hs : S s) : pf nx s ≠ s := by
  intro z
  have := p.stf hs
  rw [z] at this
  exact (p.2.2.2.2.1 s hs).2 this
theorem Iso_del {a v : Int} (h : Iso S st v) : Iso (EulerDel S a) st v := fun s hs => h s hs.1
theorem Iso_new (p : PMp S st nx V) {a b : Int} (hb : S b) (hab : b = a ∨ b = tw a) (e : nx b = b) : Iso (EulerDel S a) st (st b) := by
  intro s hs z
  have := p.fix hb e hs.1 z
  rcases hab with w | w
  · exact hs.2.1 (this.trans w)
  · exact hs.2.2 (this.trans w)
/-- the ends stay together when the edge's two sides lie on different faces -/
theorem ends_stay (p : PMp S st nx V) {a : Int} (ha : S a) (no : ¬ Orb (pf nx) a (tw a)) : Cn (EulerDel S a) st (st (tw a)) (st a) := by
  obtain ⟨n, pn, -⟩ := p.perm.per ha
  have key : ∀ i : Nat, 1 ≤ i → i ≤ n → Cn (EulerDel S a) st (st (tw a)) (st (itF (pf nx) i a)) := by
    intro i
    induction i with
    | zero => intro h; omega
    | succ i ih =>
      intro _ h2
      by_cases w : i = 0
      · subst w
        show Cn _ _ _ (st (pf nx a))
        rw [p.stf ha]
        exact Cn.rf
      · have hi := p.perm.it ha i
        have hd : EulerDel S a (itF (pf nx) i a) := ⟨hi, pn.2.2 i (by omega) (by omega), fun z => no ⟨i, z⟩⟩
        have e : st (itF (pf nx) (i + 1) a) = st (tw (itF (pf nx) i a)) := p.stf hi
        rw [e]
        exact (ih (by omega) (by omega)).tr (Cn.ed hd)
  have := key n pn.1 (Nat.le_refl _)
  rw [pn.2.1] at this
  exact this
theorem Cn_stay (p : PMp S st nx V) {a : Int} (ha : S a) (c : Cn (EulerDel S a) st (st (tw a)) (st a)) {v w : Int} (h : Cn S st v w) : Cn (EulerDel S a) st v w := by
  intro P pv cl
  refine h P pv (fun s hs ps => ?_)
  by_cases w1 : s = a
  · rw [w1] at ps ⊢
    exact (c.sm (fun s hs => del_tw p hs)) P ps cl
  · by_cases w2 : s = tw a
    · rw [w2] at ps ⊢
      rw [tw_tw]
      exact c P ps cl
    · exact cl s ⟨hs, w1, w2⟩ ps
theorem CE_merge (p : PMp S st nx V) {a : Int} (ha : S a) (ce : CE S st nx V) (no : ¬ Orb (pf nx) a (tw a)) : CE (EulerDel S a) st (skp nx a) V := by
  obtain ⟨lam, mu, kap, k, c, c1, c2, c3, c4, c5, c6, c7, c8⟩ := ce
  have hb := p.2.1 a ha
  have no' : ¬ Orb (pf nx) (tw a) a := fun z => no (z.symm p.perm hb)
  have conn := ends_stay p ha no
  have fa : EulerDel S a (pf nx a) := ⟨p.perm.1 a ha, pf_ne p ha, fun z => no ⟨1, z⟩⟩
  have fb : EulerDel S a (pf nx (tw a)) := ⟨p.perm.1 _ hb, fun z => no' ⟨1, z⟩, pf_ne p hb⟩
  have carry : ∀ l, (∃ s, S s ∧ lam s = l) → ∃ s, EulerDel S a s ∧ lam s = l := by
    rintro l ⟨s, hs, e⟩
    by_cases w1 : s = a
    · exact ⟨_, fa, by rw [c1 a ha, ← w1]; exact e⟩
    · by_cases w2 : s = tw a
      · exact ⟨_, fb, by rw [c1 _ hb, ← w2]; exact e⟩
      · exact ⟨s, ⟨hs, w1, w2⟩, e⟩
  have iso : ∀ v, Iso (EulerDel S a) st v → Iso S st v := by
    intro v hv s hs z
    by_cases w1 : s = a
    · rw [w1] at z
      exact hv _ fb (by rw [p.stf hb, tw_tw]; exact z)
    · by_cases w2 : s = tw a
      · rw [w2] at z
        exact hv _ fa (by rw [p.stf ha]; exact z)
      · exact hv s ⟨hs, w1, w2⟩ z
  have dc := del_cnt p ha
  -- any renaming that puts the two labels together
  have go : ∀ (ren : Int → Int) (k' : Int), ren (lam a) = ren (lam (tw a)) → (∀ l, 0 ≤ l → l < k → 0 ≤ ren l ∧ ren l < k') → (∀ l, 0 ≤ l → l < k' → ∃ l0, 0 ≤ l0 ∧ l0 < k ∧ ren l0 = l) → k - 1 ≤ k' → 0 ≤ k' → CE (EulerDel S a) st (skp nx a) V := by
    intro ren k' r1 r2 r3 r4 r5
    refine ⟨fun s => ren (lam s), fun v => ren (mu v), kap, k', c, fun s hs => ?_, fun s hs => r2 _ (c2 s hs.1).1 (c2 s hs.1).2, fun v v1 v2 hv => ?_, fun l l1 l2 => ?_, c5, fun v w v1 v2 w1 w2 e => Cn_stay p ha conn (c6 v w v1 v2 w1 w2 e), r5, by omega⟩
    · show ren (lam (pf (skp nx a) s)) = ren (lam s)
      rcases pf_cases p ha hs with ⟨q1, q2⟩ | ⟨q1, q2⟩ | ⟨-, -, q2⟩
      · rw [q2, c1 _ hb, ← c1 s hs.1, q1, r1]
      · rw [q2, c1 _ ha, ← c1 s hs.1, q1, r1]
      · rw [q2, c1 s hs.1]
    · have := c3 v v1 v2 (iso v hv)
      exact r2 _ this.1 this.2
    · obtain ⟨l0, a1, a2, a3⟩ := r3 l l1 l2
      rcases c4 l0 a1 a2 with z | ⟨v, v1, v2, v3⟩
      · obtain ⟨s, hs, e⟩ := carry l0 z
        exact Or.inl ⟨s, hs, by show ren (lam s) = l; rw [e, a3]⟩
      · exact Or.inr ⟨v, v1, Iso_del v2, by show ren (mu v) = l; rw [v3, a3]⟩
  have la := c2 a ha
  have lb := c2 _ hb
  by_cases w : lam a = lam (tw a)
  · exact go (fun l => l) k w (fun l h1 h2 => ⟨h1, h2⟩) (fun l h1 h2 => ⟨l, h1, h2, rfl⟩) (by omega) c7
  · obtain ⟨q, eq⟩ : ∃ q, q = lam (tw a) := ⟨_, rfl⟩
    obtain ⟨r, er⟩ : ∃ r, r = lam a := ⟨_, rfl⟩
    rw [← eq, ← er] at w
    rw [← eq] at lb
    rw [← er] at la
    refine go (fun l => if (if l = q then r else l) = k - 1 then q else (if l = q then r else l)) (k - 1) ?_ (fun l h1 h2 => ?_) (fun l h1 h2 => ?_) (by omega) (by omega)
    · show (if (if lam a = q then r else lam a) = k - 1 then q else (if lam a = q then r else lam a)) = (if (if lam (tw a) = q then r else lam (tw a)) = k - 1 then q else (if lam (tw a) = q then r else lam (tw a)))
      rw [← eq, ← er, if_neg w, if_pos rfl]
    · show 0 ≤ (if (if l = q then r else l) = k - 1 then q else (if l = q then r else l)) ∧ (if (if l = q then r else l) = k - 1 then q else (if l = q then r else l)) < k - 1
      by_cases z : l = q
      · rw [if_pos z]
        split <;> omega
      · rw [if_neg z]
        split <;> omega
    · by_cases z : l = q
      · refine ⟨k - 1, by omega, by omega, ?_⟩
        show (if (if k - 1 = q then r else k - 1) = k - 1 then q else (if k - 1 = q then r else k - 1)) = l
        rw [if_neg (show ¬ k - 1 = q by omega), if_pos rfl, z]
      · refine ⟨l, h1, by omega, ?_⟩
        show (if (if l = q then r else l) = k - 1 then q else (if l = q then r else l)) = l
        rw [if_neg z, if_neg (by omega)]
theorem CE_split (p : PMp S st nx V) {a : Int} (ha : S a) (ce : CE S st nx V) (o : Orb (pf nx) a (tw a)) : CE (EulerDel S a) st (skp nx a) V := by
  obtain ⟨lam, mu, kap, k, c, c1, c2, c3, c4, c5, c6, c7, c8⟩ := ce
  have hb := p.2.1 a ha
  have hne := (p.2.2.2.2.1 a ha).2
  have va := (p.2.2.2.2.1 a ha).1
  have vb := (p.2.2.2.2.1 _ hb).1
  have dc := del_cnt p ha
  have P := p.perm
  obtain ⟨n, pn, -⟩ := P.per ha
  obtain ⟨j, hj, ej⟩ := pn.orb o
  have inj := Per.inj P ha pn
  have j1 : 1 ≤ j := by
    rcases Nat.eq_zero_or_pos j with z | z
    · subst z
      exact absurd ej.symm (tw_ne a)
    · exact z
  have lab : lam (tw a) = lam a := by rw [← ej]; exact lam_it p c1 ha j
  -- the sides strictly between a and its other side
  obtain ⟨A, hA⟩ : ∃ A : Int → Prop, ∀ s, A s ↔ ∃ i : Nat, 1 ≤ i ∧ i < j ∧ itF (pf nx) i a = s := ⟨fun s => ∃ i : Nat, 1 ≤ i ∧ i < j ∧ itF (pf nx) i a = s, fun _ => Iff.rfl⟩
  have Ana : ¬ A a := by
    intro z
    obtain ⟨i, i1, i2, i3⟩ := (hA a).mp z
    exact pn.2.2 i i1 (by omega) i3
  have Anb : ¬ A (tw a) := by
    intro z
    obtain ⟨i, i1, i2, i3⟩ := (hA _).mp z
    have := inj i j (by omega) hj (i3.trans ej.symm)
    omega
  have Alam : ∀ s, A s → lam s = lam a := by
    intro s hs
    obtain ⟨i, -, -, i3⟩ := (hA s).mp hs
    rw [← i3]
    exact lam_it p c1 ha i
  have fb_nA : ¬ A (pf nx (tw a)) := by
    intro z
    obtain ⟨i, i1, i2, i3⟩ := (hA _).mp z
    have e : itF (pf nx) (j + 1) a = pf nx (tw a) := by
      show pf nx (itF (pf nx) j a) = _
      rw [ej]
    by_cases w : j + 1 = n
    · rw [w, pn.2.1] at e
      rw [← e] at i3
      exact pn.2.2 i i1 (by omega) i3
    · have := inj i (j + 1) (by omega) (by omega) (i3.trans e.symm)
      omega
  -- closed the new way
  have step : ∀ s, EulerDel S a s → (A s ↔ A (pf (skp nx a) s)) ∧ lam (pf (skp nx a) s) = lam s := by
    intro s hs
    rcases pf_cases p ha hs with ⟨q1, q2⟩ | ⟨q1, q2⟩ | ⟨q0, q1, q2⟩
    · rw [q2, c1 _ hb, lab, ← q1, c1 s hs.1]
      refine ⟨⟨fun z => ?_, fun z => absurd (by rw [q1] at z; exact z) fb_nA⟩, rfl⟩
      exfalso
      obtain ⟨i, i1, i2, i3⟩ := (hA s).mp z
      have e : itF (pf nx) (i + 1) a = a := by
        show pf nx (itF (pf nx) i a) = a
        rw [i3, q1]
      exact pn.2.2 (i + 1) (by omega) (by omega) e
    · rw [q2, c1 _ ha, ← lab, ← q1, c1 s hs.1]
      refine ⟨?_, rfl⟩
      -- s comes just before b
      have e : itF (pf nx) (j - 1) a = s := by
        refine P.2.1 _ _ (P.it ha _) hs.1 ?_
        rw [q1, ← ej]
        show itF (pf nx) ((j - 1) + 1) a = _
        rw [show j - 1 + 1 = j by omega]
      have j2 : 2 ≤ j := by
        rcases Nat.lt_or_ge j 2 with z | z
        · have : j - 1 = 0 := by omega
          rw [this] at e
          exact absurd e.symm hs.2.1
        · exact z
      have a1 : A s := (hA s).mpr ⟨j - 1, by omega, by omega, e⟩
      have a2 : A (pf nx a) := (hA _).mpr ⟨1, by omega, by omega, rfl⟩
      exact ⟨fun _ => a2, fun _ => a1⟩
    · rw [q2, c1 s hs.1]
      refine ⟨⟨fun z => ?_, fun z => ?_⟩, rfl⟩
      · obtain ⟨i, i1, i2, i3⟩ := (hA s).mp z
        have e : itF (pf nx) (i + 1) a = pf nx s := by
          show pf nx (itF (pf nx) i a) = _
          rw [i3]
        refine (hA _).mpr ⟨i + 1, by omega, ?_, e⟩
        rcases Nat.lt_or_ge (i + 1) j with w | w
        · exact w
        · have : i + 1 = j := by omega
          rw [this, ej] at e
          exact absurd e.symm q1
      · obtain ⟨i, i1, i2, i3⟩ := (hA _).mp z
        have e : itF (pf nx) (i - 1) a = s := by
          refine P.2.1 _ _ (P.it ha _) hs.1 ?_
          rw [← i3]
          show itF (pf nx) ((i - 1) + 1) a = _
          rw [show i - 1 + 1 = i by omega]
        refine (hA s).mpr ⟨i - 1, ?_, by omega, e⟩
        rcases Nat.eq_zero_or_pos (i - 1) with w | w
        · rw [w] at e
          exact absurd e.symm hs.2.1
        · exact w
  have la := c2 a ha
  have dtw : ∀ s, EulerDel S a s → EulerDel S a (tw s) := fun s hs => del_tw p hs
  refine ⟨fun s => iteP (A s) k (lam s), fun v => if v = st (tw a) then k else if v = st a then lam a else mu v, fun v => iteP (Cn (EulerDel S a) st v (st (tw a))) c (kap v), k + 1, c + 1, fun s hs => ?_, fun s hs => ?_, fun v v1 v2 hv => ?_, fun l l1 l2 => ?_, fun v v1 v2 => ?_, fun v w v1 v2 w1 w2 e => ?_, by omega, by omega⟩
  · obtain ⟨s1, s2⟩ := step s hs
    show iteP (A (pf (skp nx a) s)) k (lam (pf (skp nx a) s)) = iteP (A s) k (lam s)
    by_cases w : A s
    · rw [iteP_t w, iteP_t (s1.mp w)]
    · rw [iteP_f w, iteP_f (fun z => w (s1.mpr z)), s2]
  · show 0 ≤ iteP (A s) k (lam s) ∧ iteP (A s) k (lam s) < k + 1
    have := c2 s hs.1
    by_cases w : A s
    · rw [iteP_t w]; omega
    · rw [iteP_f w]; omega
  · show 0 ≤ (if v = st (tw a) then k else if v = st a then lam a else mu v) ∧ (if v = st (tw a) then k else if v = st a then lam a else mu v) < k + 1
    by_cases w1 : v = st (tw a)
    · rw [if_pos w1]; omega
    · rw [if_neg w1]
      by_cases w2 : v = st a
      · rw [if_pos w2]; omega
      · rw [if_neg w2]
        have : Iso S st v := by
          intro s hs z
          by_cases y1 : s = a
          · rw [y1] at z; exact w2 z.symm
          · by_cases y2 : s = tw a
            · rw [y2] at z; exact w1 z.symm
            · exact hv s ⟨hs, y1, y2⟩ z
        have := c3 v v1 v2 this
        omega
  · show (∃ s, EulerDel S a s ∧ iteP (A s) k (lam s) = l) ∨ ∃ v, (0 ≤ v ∧ v < V) ∧ Iso (EulerDel S a) st v ∧ (if v = st (tw a) then k else if v = st a then lam a else mu v) = l
    have forp : (∃ s, EulerDel S a s ∧ iteP (A s) k (lam s) = lam a) ∨ ∃ v, (0 ≤ v ∧ v < V) ∧ Iso (EulerDel S a) st v ∧ (if v = st (tw a) then k else if v = st a then lam a else mu v) = lam a := by
      by_cases w : pf nx (tw a) = a
      · refine Or.inr ⟨st a, va, Iso_new p ha (Or.inl rfl) ?_, ?_⟩
        · unfold pf at w
          rw [tw_tw] at w
          exact w
        · rw [if_neg hne, if_pos rfl]
      · exact Or.inl ⟨pf nx (tw a), ⟨P.1 _ hb, w, pf_ne p hb⟩, by rw [iteP_f fb_nA, c1 _ hb, lab]⟩
    by_cases w : l = k
    · rcases Nat.lt_or_ge j 2 with z | z
      · have e1 : j = 1 := by omega
        subst e1
        have ej : nx (tw a) = tw a := ej
        exact Or.inr ⟨st (tw a), vb, Iso_new p hb (Or.inr rfl) ej, by rw [if_pos rfl, w]⟩
      · have Af : A (pf nx a) := (hA _).mpr ⟨1, by omega, by omega, rfl⟩
        exact Or.inl ⟨pf nx a, ⟨P.1 a ha, pf_ne p ha, fun y => Anb (by rw [← y]; exact Af)⟩, by rw [iteP_t Af, w]⟩
    · rcases c4 l l1 (by omega) with ⟨s, hs, e⟩ | ⟨v, v1, v2, v3⟩
      · by_cases y : s = a ∨ s = tw a ∨ A s
        · have : l = lam a := by
            rw [← e]
            rcases y with y | y | y
            · rw [y]
            · rw [y, lab]
            · exact Alam s y
          rw [this]
          exact forp
        · exact Or.inl ⟨s, ⟨hs, fun q => y (Or.inl q), fun q => y (Or.inr (Or.inl q))⟩, by rw [iteP_f (fun q => y (Or.inr (Or.inr q)))]; exact e⟩
      · refine Or.inr ⟨v, v1, Iso_del v2, ?_⟩
        rw [if_neg (fun z => v2 _ hb z.symm), if_neg (fun z => v2 _ ha z.symm)]
        exact v3
  · show 0 ≤ iteP (Cn (EulerDel S a) st v (st (tw a))) c (kap v) ∧ iteP (Cn (EulerDel S a) st v (st (tw a))) c (kap v) < c + 1
    have := c5 v v1 v2
    by_cases w : Cn (EulerDel S a) st v (st (tw a))
    · rw [iteP_t w]; omega
    · rw [iteP_f w]; omega
  · have e : iteP (Cn (EulerDel S a) st v (st (tw a))) c (kap v) = iteP (Cn (EulerDel S a) st w (st (tw a))) c (kap w) := e
    have kv := c5 v v1 v2
    have kw := c5 w w1 w2
    by_cases y1 : Cn (EulerDel S a) st v (st (tw a)) <;> by_cases y2 : Cn (EulerDel S a) st w (st (tw a))
    · exact y1.tr (y2.sm dtw)
    · rw [iteP_t y1, iteP_f y2] at e
      omega
    · rw [iteP_f y1, iteP_t y2] at e
      omega
    · rw [iteP_f y1, iteP_f y2] at e
      have cn := c6 v w v1 v2 w1 w2 e
      have key := cn (fun x => Cn (EulerDel S a) st v x ∨ ((Cn (EulerDel S a) st v (st a) ∨ Cn (EulerDel S a) st v (st (tw a))) ∧ (Cn (EulerDel S a) st x (st a) ∨ Cn (EulerDel S a) st x (st (tw a))))) (Or.inl Cn.rf) (fun s hs z => by
        by_cases x1 : s = a
        · subst x1
          right
          refine ⟨?_, Or.inr Cn.rf⟩
          rcases z with z | z
          · exact Or.inl z
          · exact z.1
        · by_cases x2 : s = tw a
          · subst x2
            rw [tw_tw]
            right
            refine ⟨?_, Or.inl Cn.rf⟩
            rcases z with z | z
            · exact Or.inr z
            · exact z.1
          · have hd : EulerDel S a s := ⟨hs, x1, x2⟩
            rcases z with z | z
            · exact Or.inl (z.tr (Cn.ed hd))
            · right
              refine ⟨z.1, ?_⟩
              have back : Cn (EulerDel S a) st (st (tw s)) (st s) := (Cn.ed hd).sm dtw
              rcases z.2 with q | q
              · exact Or.inl (back.tr q)
              · exact Or.inr (back.tr q))
      rcases key with q | ⟨q1, q2⟩
      · exact q
      · rcases q1 with q1 | q1
        · rcases q2 with q2 | q2
          · exact q1.tr (q2.sm dtw)
          · exact absurd q2 y2
        · exact absurd q1 y1
theorem CE_del (p : PMp S st nx V) {a : Int} (ha : S a) (ce : CE S st nx V) : CE (EulerDel S a) st (skp nx a) V := by
  by_cases o : Orb (pf nx) a (tw a)
  · exact CE_split p ha ce o
  · exact CE_merge p ha ce o
/-- all edges of a kind go -/
theorem CE_all (p : PMp S st nx V) (ce : CE S st nx V) {D : Int → Prop} (hD : ∀ s, D (tw s) ↔ D s) : ∀ m : Nat, ∃ nx', PMp (fun s => S s ∧ ¬ (D s ∧ s / 2 < m)) st nx' V ∧ CE (fun s => S s ∧ ¬ (D s ∧ s / 2 < m)) st nx' V := by
  intro m
  induction m with
  | zero =>
    have e : (fun s => S s ∧ ¬ (D s ∧ s / 2 < ((0 : Nat) : Int))) = S := by
      funext s
      refine propext ⟨fun z => z.1, fun z => ⟨z, fun y => ?_⟩⟩
      have := p.1 s z
      omega
    exact ⟨nx, by rw [e]; exact p, by rw [e]; exact ce⟩
  | succ m ih =>
    obtain ⟨nx', q, ce'⟩ := ih
    by_cases w : S (2 * m) ∧ D (2 * m)
    · have ha : (fun s => S s ∧ ¬ (D s ∧ s / 2 < (m : Int))) (2 * m) := ⟨w.1, fun z => by omega⟩
      have e : EulerDel (fun s => S s ∧ ¬ (D s ∧ s / 2 < (m : Int))) (2 * m) = (fun s => S s ∧ ¬ (D s ∧ s / 2 < ((m + 1 : Nat) : Int))) := by
        funext s
        refine propext ⟨fun z => ⟨z.1.1, fun y => ?_⟩, fun z => ⟨⟨z.1, fun y => z.2 ⟨y.1, by omega⟩⟩, fun y => ?_, fun y => ?_⟩⟩
        · have y2 := y.2
          have h1 := z.2.1
          have h2 := z.2.2
          rw [tw_e] at h2
          exact z.1.2 ⟨y.1, by omega⟩
        · rw [y] at z
          exact z.2 ⟨w.2, by omega⟩
        · rw [y] at z
          refine z.2 ⟨(hD _).mpr w.2, ?_⟩
          rw [tw_e]
          omega
      exact ⟨skp nx' (2 * m), by rw [← e]; exact q.del ha, by rw [← e]; exact CE_del q ha ce'⟩
    · have e : (fun s => S s ∧ ¬ (D s ∧ s / 2 < (m : Int))) = (fun s => S s ∧ ¬ (D s ∧ s / 2 < ((m + 1 : Nat) : Int))) := by
        funext s
        refine propext ⟨fun z => ⟨z.1, fun y => ?_⟩, fun z => ⟨z.1, fun y => z.2 ⟨y.1, by omega⟩⟩⟩
        by_cases x : s / 2 < m
        · exact z.2 ⟨y.1, x⟩
        · have y2 := y.2
          rcases half_cases s m (by omega) with h1 | h1
          · rw [h1] at z y
            exact w ⟨z.1, y.1⟩
          · refine w ⟨?_, ?_⟩
            · have := p.2.1 s z.1
              rw [h1, tw_o] at this
              exact this
            · have := (hD s).mpr y.1
              rw [h1, tw_o] at this
              exact this
      exact ⟨nx', by rw [← e]; exact q, by rw [← e]; exact ce'⟩
end Euler2

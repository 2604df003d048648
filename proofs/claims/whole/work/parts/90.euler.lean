/-! PURE: sides in rings; taking an edge away keeps Euler's inequality -/
noncomputable def iteP (p : Prop) (x y : Int) : Int := @ite Int p (Classical.propDecidable p) x y
theorem iteP_t {p : Prop} {x y : Int} (h : p) : iteP p x y = x := if_pos h
theorem iteP_f {p : Prop} {x y : Int} (h : ¬ p) : iteP p x y = y := if_neg h
def pf (nx : Int → Int) (s : Int) : Int := nx (tw s)
/-- sides, their starts and the ring round each vertex -/
def PMp (S : Int → Prop) (st nx : Int → Int) (V : Int) : Prop :=
  (∀ s, S s → 0 ≤ s ∧ s < 200) ∧ (∀ s, S s → S (tw s)) ∧ (∀ s, S s → S (nx s) ∧ st (nx s) = st s) ∧ (∀ s t, S s → S t → nx s = nx t → s = t) ∧ (∀ s, S s → (0 ≤ st s ∧ st s < V) ∧ st s ≠ st (tw s)) ∧
  (∀ s t, S s → S t → st s = st t → st (tw s) = st (tw t) → s = t) ∧ ∀ s t, S s → S t → st s = st t → Orb nx s t
def Cn (S : Int → Prop) (st : Int → Int) (v w : Int) : Prop := ∀ P : Int → Prop, P v → (∀ s, S s → P (st s) → P (st (tw s))) → P w
theorem Cn.rf {S : Int → Prop} {st : Int → Int} {v : Int} : Cn S st v v := fun _ a _ => a
theorem Cn.tr {S : Int → Prop} {st : Int → Int} {u v w : Int} (a : Cn S st u v) (b : Cn S st v w) : Cn S st u w := fun P p c => b P (a P p c) c
theorem Cn.ed {S : Int → Prop} {st : Int → Int} {s : Int} (h : S s) : Cn S st (st s) (st (tw s)) := fun _ p c => c s h p
theorem Cn.sm {S : Int → Prop} {st : Int → Int} {v w : Int} (ht : ∀ s, S s → S (tw s)) (a : Cn S st v w) : Cn S st w v :=
  a (fun x => Cn S st x v) Cn.rf (fun s hs c P p cl => c P (by have := cl (tw s) (ht s hs) p; rw [tw_tw] at this; exact this) cl)
def Iso (S : Int → Prop) (st : Int → Int) (v : Int) : Prop := ∀ s, S s → st s ≠ v
/-- labels that are carried, parts that hang together, and the inequality -/
def CE (S : Int → Prop) (st nx : Int → Int) (V : Int) : Prop :=
  ∃ (lam mu kap : Int → Int) (k c : Int), (∀ s, S s → lam (pf nx s) = lam s) ∧ (∀ s, S s → 0 ≤ lam s ∧ lam s < k) ∧ (∀ v, 0 ≤ v → v < V → Iso S st v → 0 ≤ mu v ∧ mu v < k) ∧
  (∀ l, 0 ≤ l → l < k → (∃ s, S s ∧ lam s = l) ∨ ∃ v, (0 ≤ v ∧ v < V) ∧ Iso S st v ∧ mu v = l) ∧
  (∀ v, 0 ≤ v → v < V → 0 ≤ kap v ∧ kap v < c) ∧ (∀ v w, 0 ≤ v → v < V → 0 ≤ w → w < V → kap v = kap w → Cn S st v w) ∧ 0 ≤ k ∧ 0 ≤ 2 * V - cntP S 200 + 2 * k - 4 * c
section Euler
variable {S : Int → Prop} {st nx : Int → Int} {V : Int}
theorem PMp.perm (p : PMp S st nx V) : Perm S (pf nx) 200 := ⟨fun s hs => (p.2.2.1 _ (p.2.1 s hs)).1, fun s t hs ht e => tw_inj (p.2.2.2.1 _ _ (p.2.1 s hs) (p.2.1 t ht) e), p.1⟩
theorem PMp.stf (p : PMp S st nx V) {s : Int} (hs : S s) : st (pf nx s) = st (tw s) := (p.2.2.1 _ (p.2.1 s hs)).2
theorem lam_it {lam : Int → Int} (p : PMp S st nx V) (hl : ∀ s, S s → lam (pf nx s) = lam s) {s : Int} (hs : S s) : ∀ k : Nat, lam (itF (pf nx) k s) = lam s := by
  intro k
  induction k with
  | zero => rfl
  | succ k ih =>
    show lam (pf nx (itF (pf nx) k s)) = _
    rw [hl _ (p.perm.it hs k), ih]
def EulerDel (S : Int → Prop) (a : Int) : Int → Prop := fun s => S s ∧ s ≠ a ∧ s ≠ tw a
def skp (nx : Int → Int) (a : Int) : Int → Int := fun s => if nx s = a then nx a else if nx s = tw a then nx (tw a) else nx s
/-- the next of a side that stays, when it stays too -/
theorem skp_same {a s : Int} (h1 : nx s ≠ a) (h2 : nx s ≠ tw a) : skp nx a s = nx s := by
  unfold skp
  rw [if_neg h1, if_neg h2]
theorem PMp.fix (p : PMp S st nx V) {a : Int} (ha : S a) (e : nx a = a) {t : Int} (ht : S t) (et : st t = st a) : t = a := by
  obtain ⟨k, hk⟩ := p.2.2.2.2.2.2 a t ha ht et.symm
  have key : ∀ k : Nat, itF nx k a = a := by
    intro k
    induction k with
    | zero => rfl
    | succ k ih => show nx (itF nx k a) = a; rw [ih, e]
  rw [← hk, key]
theorem skp_cases (p : PMp S st nx V) {a : Int} (ha : S a) {s : Int} (hs : EulerDel S a s) : (nx s = a ∧ skp nx a s = nx a ∧ nx a ≠ a ∧ nx a ≠ tw a ∧ st s = st a) ∨ (nx s = tw a ∧ skp nx a s = nx (tw a) ∧ nx (tw a) ≠ a ∧ nx (tw a) ≠ tw a ∧ st s = st (tw a)) ∨ (nx s ≠ a ∧ nx s ≠ tw a ∧ skp nx a s = nx s) := by
  obtain ⟨p1, p2, p3, p4, p5, p6, p7⟩ := p
  have hb := p2 a ha
  have hne := (p5 a ha).2
  by_cases w1 : nx s = a
  · left
    refine ⟨w1, by unfold skp; rw [if_pos w1], fun z => hs.2.1 (p4 _ _ hs.1 ha (w1.trans z.symm)), fun z => hne ?_, ?_⟩
    · have := (p3 a ha).2
      rw [z] at this
      exact this.symm
    · have := (p3 s hs.1).2
      rw [w1] at this
      exact this.symm
  · right
    by_cases w2 : nx s = tw a
    · left
      refine ⟨w2, by unfold skp; rw [if_neg w1, if_pos w2], fun z => hne ?_, fun z => hs.2.2 (p4 _ _ hs.1 hb (w2.trans z.symm)), ?_⟩
      · have := (p3 _ hb).2
        rw [z] at this
        exact this
      · have := (p3 s hs.1).2
        rw [w2] at this
        exact this.symm
    · right
      exact ⟨w1, w2, skp_same w1 w2⟩
theorem del_tw (p : PMp S st nx V) {a s : Int} (hs : EulerDel S a s) : EulerDel S a (tw s) := ⟨p.2.1 s hs.1, fun z => hs.2.2 (by rw [← z, tw_tw]), fun z => hs.2.1 (tw_inj z)⟩
theorem PMp.del (p : PMp S st nx V) {a : Int} (ha : S a) : PMp (EulerDel S a) st (skp nx a) V := by
  have p0 := p
  obtain ⟨p1, p2, p3, p4, p5, p6, p7⟩ := p
  have hb := p2 a ha
  have hne := (p5 a ha).2
  refine ⟨fun s hs => p1 s hs.1, fun s hs => del_tw p0 hs, fun s hs => ?_, fun s t hs ht e => ?_, fun s hs => p5 s hs.1, fun s t hs ht => p6 s t hs.1 ht.1, fun s t hs ht e => ?_⟩
  · rcases skp_cases p0 ha hs with ⟨-, q2, q3, q4, q5⟩ | ⟨-, q2, q3, q4, q5⟩ | ⟨q1, q2, q3⟩
    · rw [q2]
      exact ⟨⟨(p3 a ha).1, q3, q4⟩, (p3 a ha).2.trans q5.symm⟩
    · rw [q2]
      exact ⟨⟨(p3 _ hb).1, q3, q4⟩, (p3 _ hb).2.trans q5.symm⟩
    · rw [q3]
      exact ⟨⟨(p3 s hs.1).1, q1, q2⟩, (p3 s hs.1).2⟩
  · rcases skp_cases p0 ha hs with ⟨q1, q2, q3, q4, q5⟩ | ⟨q1, q2, q3, q4, q5⟩ | ⟨q1, q2, q3⟩ <;> rcases skp_cases p0 ha ht with ⟨r1, r2, r3, r4, r5⟩ | ⟨r1, r2, r3, r4, r5⟩ | ⟨r1, r2, r3⟩
    · exact p4 _ _ hs.1 ht.1 (q1.trans r1.symm)
    · rw [q2, r2] at e
      exact absurd (p4 _ _ ha hb e).symm (tw_ne a)
    · rw [q2, r3] at e
      exact absurd (p4 _ _ ha ht.1 e).symm ht.2.1
    · rw [q2, r2] at e
      exact absurd (p4 _ _ hb ha e) (tw_ne a)
    · exact p4 _ _ hs.1 ht.1 (q1.trans r1.symm)
    · rw [q2, r3] at e
      exact absurd (p4 _ _ hb ht.1 e).symm ht.2.2
    · rw [q3, r2] at e
      exact absurd (p4 _ _ hs.1 ha e) hs.2.1
    · rw [q3, r2] at e
      exact absurd (p4 _ _ hs.1 hb e) hs.2.2
    · rw [q3, r3] at e
      exact p4 _ _ hs.1 ht.1 e
  · obtain ⟨k, hk⟩ := p7 s t hs.1 ht.1 e
    have hst : ∀ i : Nat, S (itF nx i s) ∧ st (itF nx i s) = st s := by
      intro i
      induction i with
      | zero => exact ⟨hs.1, rfl⟩
      | succ i ih => exact ⟨(p3 _ ih.1).1, (p3 _ ih.1).2.trans ih.2⟩
    have key : ∀ i : Nat, (∀ j, j < i → EulerDel S a (itF nx j s) → Orb (skp nx a) s (itF nx j s)) → EulerDel S a (itF nx i s) → Orb (skp nx a) s (itF nx i s) := by
      intro i ih hd
      cases i with
      | zero => exact Orb.rf
      | succ i =>
        have hx := hst i
        by_cases w : itF nx i s = a ∨ itF nx i s = tw a
        · cases i with
          | zero =>
            rcases w with w | w
            · exact absurd w hs.2.1
            · exact absurd w hs.2.2
          | succ i =>
            have hy := hst i
            have hd : EulerDel S a (nx (nx (itF nx i s))) := hd
            have w : nx (itF nx i s) = a ∨ nx (itF nx i s) = tw a := w
            have dy : EulerDel S a (itF nx i s) := by
              refine ⟨hy.1, fun z => ?_, fun z => ?_⟩
              · rcases w with w | w
                · rw [w] at hd
                  rw [z] at w
                  exact hd.2.1 w
                · have := (p3 a ha).2
                  rw [z] at w
                  rw [w] at this
                  exact hne this.symm
              · rcases w with w | w
                · have := (p3 _ hb).2
                  rw [z] at w
                  rw [w] at this
                  exact hne this
                · rw [w] at hd
                  rw [z] at w
                  exact hd.2.2 w
            have o := ih i (by omega) dy
            refine o.trans ⟨1, ?_⟩
            show skp nx a (itF nx i s) = nx (nx (itF nx i s))
            rcases w with w | w
            · unfold skp
              rw [if_pos w, w]
            · unfold skp
              rw [if_neg (fun z => tw_ne a (w.symm.trans z)), if_pos w, w]
        · have dx : EulerDel S a (itF nx i s) := ⟨hx.1, fun z => w (Or.inl z), fun z => w (Or.inr z)⟩
          have o := ih i (by omega) dx
          refine o.trans ⟨1, ?_⟩
          show skp nx a (itF nx i s) = nx (itF nx i s)
          have hd : EulerDel S a (nx (itF nx i s)) := hd
          exact skp_same hd.2.1 hd.2.2
    have all : ∀ i : Nat, EulerDel S a (itF nx i s) → Orb (skp nx a) s (itF nx i s) := by
      intro i
      induction i using Nat.strongRecOn with
      | ind i ih => exact key i (fun j hj => ih j hj)
    have := all k (by rw [hk]; exact ht)
    rw [hk] at this
    exact this
end Euler

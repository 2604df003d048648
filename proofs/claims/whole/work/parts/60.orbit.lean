/-! PURE: walks of a one-to-one map on a bounded set of numbers; leaders; counting them -/
def itF (f : Int → Int) : Nat → Int → Int
  | 0, s => s
  | k + 1, s => f (itF f k s)
theorem itF_add (f : Int → Int) (a : Nat) : ∀ (b : Nat) (s : Int), itF f (a + b) s = itF f a (itF f b s) := by
  induction a with
  | zero => intro b s; rw [Nat.zero_add]; rfl
  | succ a ih => intro b s; rw [Nat.succ_add]; show f (itF f (a + b) s) = f (itF f a (itF f b s)); rw [ih]
theorem itF_s (f : Int → Int) (k : Nat) (s : Int) : itF f (k + 1) s = itF f k (f s) := itF_add f k 1 s
/-- f goes from S to S, different to different; S lies below N -/
def Perm (S : Int → Prop) (f : Int → Int) (N : Nat) : Prop := (∀ s, S s → S (f s)) ∧ (∀ s t, S s → S t → f s = f t → s = t) ∧ ∀ s, S s → 0 ≤ s ∧ s < N
def Orb (f : Int → Int) (s t : Int) : Prop := ∃ k : Nat, itF f k s = t
def Per (f : Int → Int) (s : Int) (n : Nat) : Prop := 1 ≤ n ∧ itF f n s = s ∧ ∀ j : Nat, 1 ≤ j → j < n → itF f j s ≠ s
def Lead (S : Int → Prop) (f : Int → Int) (t : Int) : Prop := S t ∧ ∀ k : Nat, t ≤ itF f k t
section Orbits
variable {S : Int → Prop} {f : Int → Int} {N : Nat}
theorem Perm.it (P : Perm S f N) {s : Int} (hs : S s) : ∀ k, S (itF f k s) := by
  intro k
  induction k with
  | zero => exact hs
  | succ k ih => exact P.1 _ ih
theorem Perm.itinj (P : Perm S f N) : ∀ (k : Nat) {s t : Int}, S s → S t → itF f k s = itF f k t → s = t := by
  intro k
  induction k with
  | zero => intro s t _ _ e; exact e
  | succ k ih => intro s t hs ht e; exact ih hs ht (P.2.1 _ _ (P.it hs k) (P.it ht k) e)
theorem Perm.back (P : Perm S f N) {s : Int} (hs : S s) : ∃ n, 1 ≤ n ∧ n ≤ N ∧ itF f n s = s := by
  -- else N + 1 different numbers below N
  apply Classical.byContradiction
  intro hno
  have := inj_le N (fun i => itF f i s) (N + 1) (fun i _ => P.2.2 _ (P.it hs i)) (fun i j hi hj e => by
    have key : ∀ a b : Nat, a < b → b < N + 1 → itF f a s = itF f b s → False := by
      intro a b hab hb e
      have e2 : itF f a s = itF f a (itF f (b - a) s) := by rw [← itF_add, show a + (b - a) = b by omega]; exact e
      have e3 := P.itinj a hs (P.it hs (b - a)) e2
      exact hno ⟨b - a, by omega, by omega, e3.symm⟩
    rcases Nat.lt_trichotomy i j with w | w | w
    · exact absurd (key i j w hj e) id
    · exact w
    · exact absurd (key j i w hi e.symm) id)
  omega
theorem Perm.per (P : Perm S f N) {s : Int} (hs : S s) : ∃ n, Per f s n ∧ n ≤ N := by
  obtain ⟨n, h1, h2, h3⟩ := P.back hs
  obtain ⟨k, ⟨k1, k2⟩, k3⟩ := pk_least (fun k => 1 ≤ k ∧ itF f k s = s) ⟨n, h1, h3⟩
  refine ⟨k, ⟨k1, k2, fun j j1 j2 e => k3 j j2 ⟨j1, e⟩⟩, ?_⟩
  rcases Nat.lt_or_ge N k with w | w
  · exact absurd ⟨h1, h3⟩ (k3 n (by omega))
  · exact w
theorem Per.inj (P : Perm S f N) {s : Int} {n : Nat} (hs : S s) (p : Per f s n) : ∀ i j : Nat, i < n → j < n → itF f i s = itF f j s → i = j := by
  have key : ∀ a b : Nat, a < b → b < n → itF f a s = itF f b s → False := by
    intro a b hab hb e
    have e2 : itF f a s = itF f a (itF f (b - a) s) := by rw [← itF_add, show a + (b - a) = b by omega]; exact e
    exact p.2.2 (b - a) (by omega) (by omega) (P.itinj a hs (P.it hs (b - a)) e2).symm
  intro i j hi hj e
  rcases Nat.lt_trichotomy i j with w | w | w
  · exact absurd (key i j w hj e) id
  · exact w
  · exact absurd (key j i w hi e.symm) id
theorem Per.mul {s : Int} {n : Nat} (p : Per f s n) : ∀ q : Nat, itF f (q * n) s = s := by
  intro q
  induction q with
  | zero => rw [Nat.zero_mul]; rfl
  | succ q ih => rw [Nat.succ_mul, itF_add, p.2.1]; exact ih
theorem Per.mod {s : Int} {n : Nat} (p : Per f s n) (k : Nat) : itF f k s = itF f (k % n) s := by
  have e : k = k % n + k / n * n := by
    have := Nat.mod_add_div k n
    rw [Nat.mul_comm] at this
    exact this.symm
  have h2 := p.mul (k / n)
  have h3 := itF_add f (k % n) (k / n * n) s
  rw [← e, h2] at h3
  exact h3
theorem Per.orb {s t : Int} {n : Nat} (p : Per f s n) (h : Orb f s t) : ∃ i, i < n ∧ itF f i s = t := by
  obtain ⟨k, e⟩ := h
  exact ⟨k % n, Nat.mod_lt _ p.1, by rw [← p.mod k]; exact e⟩
theorem Per.uniq {s : Int} {n m : Nat} (p : Per f s n) (q : Per f s m) : n = m := by
  rcases Nat.lt_trichotomy n m with w | w | w
  · exact absurd p.2.1 (q.2.2 n p.1 w)
  · exact w
  · exact absurd q.2.1 (p.2.2 m q.1 w)
theorem Orb.rf {s : Int} : Orb f s s := ⟨0, rfl⟩
theorem Orb.st {s : Int} : Orb f s (f s) := ⟨1, rfl⟩
theorem Orb.trans {s t u : Int} (a : Orb f s t) (b : Orb f t u) : Orb f s u := by
  obtain ⟨i, rfl⟩ := a
  obtain ⟨j, rfl⟩ := b
  exact ⟨j + i, itF_add f j i s⟩
theorem Orb.symm (P : Perm S f N) {s t : Int} (hs : S s) (a : Orb f s t) : Orb f t s := by
  obtain ⟨n, p, -⟩ := P.per hs
  obtain ⟨i, hi, e⟩ := p.orb a
  refine ⟨n - i, ?_⟩
  rw [← e, ← itF_add, show n - i + i = n by omega]
  exact p.2.1
theorem Orb.in (P : Perm S f N) {s t : Int} (hs : S s) (a : Orb f s t) : S t := by
  obtain ⟨i, rfl⟩ := a
  exact P.it hs i
/-- every walk has its least one -/
theorem lead_ex (P : Perm S f N) {s : Int} (hs : S s) : ∃ t, Lead S f t ∧ Orb f t s ∧ t ≤ s := by
  obtain ⟨k, ⟨u, hu, e⟩, hmin⟩ := pk_least (fun k => ∃ u, Orb f s u ∧ u = (k : Int)) ⟨s.toNat, s, Orb.rf, by have := (P.2.2 s hs).1; omega⟩
  have hu2 := Orb.in P hs hu
  have key : ∀ w, Orb f s w → u ≤ w := by
    intro w hw
    have h0 := (P.2.2 w (Orb.in P hs hw)).1
    rcases Classical.em (u ≤ w) with z | z
    · exact z
    · exact absurd ⟨w, hw, by omega⟩ (hmin w.toNat (by omega))
  exact ⟨u, ⟨hu2, fun i => key _ (hu.trans ⟨i, rfl⟩)⟩, hu.symm P hs, key s Orb.rf⟩
theorem lead_uniq (P : Perm S f N) {t u : Int} (a : Lead S f t) (b : Lead S f u) (o : Orb f t u) : t = u := by
  obtain ⟨i, e⟩ := o
  obtain ⟨j, e2⟩ := Orb.symm P a.1 ⟨i, e⟩
  have h1 := a.2 i
  have h2 := b.2 j
  omega
end Orbits
/-- how many of 0 .. n-1 have p, p any -/
noncomputable def cntP (p : Int → Prop) (n : Nat) : Int := @cnt p (fun a => Classical.propDecidable (p a)) n
theorem cntP_0 (p : Int → Prop) : cntP p 0 = 0 := rfl
theorem cntP_t {p : Int → Prop} {n : Nat} (h : p n) : cntP p (n + 1) = cntP p n + 1 := by
  have e := @cnt_succ p (fun a => Classical.propDecidable (p a)) n
  rw [if_pos h] at e
  exact e
theorem cntP_f {p : Int → Prop} {n : Nat} (h : ¬ p n) : cntP p (n + 1) = cntP p n := by
  have e := @cnt_succ p (fun a => Classical.propDecidable (p a)) n
  rw [if_neg h, Int.add_zero] at e
  exact e
theorem cntP_le (p : Int → Prop) (n : Nat) : 0 ≤ cntP p n ∧ cntP p n ≤ n := @cnt_le p (fun a => Classical.propDecidable (p a)) n
theorem cntP_mono (p : Int → Prop) : ∀ (d n : Nat), cntP p n ≤ cntP p (n + d) := by
  intro d
  induction d with
  | zero => intro n; exact Int.le_refl _
  | succ d ih =>
    intro n
    have h1 := ih n
    by_cases w : p ((n + d : Nat) : Int)
    · rw [← Nat.add_assoc, cntP_t w]; omega
    · rw [← Nat.add_assoc, cntP_f w]; exact h1
/-- different ones that have p have different numbers of them below -/
theorem cntP_lt {p : Int → Prop} {a b : Nat} (h : a < b) (ha : p a) : cntP p a < cntP p b := by
  have h1 := cntP_mono p (b - (a + 1)) (a + 1)
  rw [show a + 1 + (b - (a + 1)) = b by omega, cntP_t ha] at h1
  omega
theorem cntP_congr {p q : Int → Prop} (n : Nat) (h : ∀ k : Nat, k < n → (p k ↔ q k)) : cntP p n = cntP q n := @cnt_congr p q (fun a => Classical.propDecidable (p a)) (fun a => Classical.propDecidable (q a)) n h
/-- each number below the count belongs to one that has p -/
theorem cntP_ex {p : Int → Prop} : ∀ (n : Nat) (c : Int), 0 ≤ c → c < cntP p n → ∃ a : Nat, a < n ∧ p a ∧ cntP p a = c := by
  intro n
  induction n with
  | zero => intro c h1 h2; rw [cntP_0] at h2; omega
  | succ n ih =>
    intro c h1 h2
    by_cases w : p n
    · rw [cntP_t w] at h2
      by_cases z : c < cntP p n
      · obtain ⟨a, a1, a2, a3⟩ := ih c h1 z
        exact ⟨a, by omega, a2, a3⟩
      · exact ⟨n, by omega, w, by omega⟩
    · rw [cntP_f w] at h2
      obtain ⟨a, a1, a2, a3⟩ := ih c h1 h2
      exact ⟨a, by omega, a2, a3⟩

/-! The tree: what the survey's picture says of the graph -/
def Nd (h g : Hp) (v : Int) : Prop := (g 15 v = -1 ∧ g 16 v = -1 ∧ g 17 v = 0) ∨ (vOK h (g 15 v) ∧ g 18 (g 15 v) = g 18 v ∧ g 17 v = g 17 (g 15 v) + 1 ∧ ∃ s, Sd h s ∧ h 6 s = g 15 v ∧ h 6 (tw s) = v ∧ g 16 v = s / 2)
def TA (h g : Hp) (p : Int) : Prop := ∀ v, vOK h v → g 18 v ≠ -1 → (0 ≤ g 18 v ∧ g 18 v ≤ p) ∧ Nd h g v ∧ 0 ≤ g 17 v ∧ g 17 v ≤ 29
def TBr (h g : Hp) : Prop := ∀ v w, vOK h v → vOK h w → g 18 v ≠ -1 → g 18 w ≠ -1 → g 15 v = -1 → g 15 w = -1 → g 18 v = g 18 w → v = w
def TD (h g : Hp) (p : Int) : Prop := ∀ s, Sd h s → g 18 (h 6 s) ≠ -1 → g 18 (h 6 s) ≠ p → g 18 (h 6 (tw s)) = g 18 (h 6 s)
/-- while a part grows -/
def TW (h g : Hp) (hd : Nat) : Prop := TA h g (g 3 7) ∧ TBr h g ∧ (∀ v, vOK h v → g 18 v = g 3 7 → ∃ i : Nat, (i : Int) < g 3 6 ∧ g 19 i = v) ∧ TD h g (g 3 7) ∧ ((hd : Int) ≤ g 3 6 ∧ ∀ i : Nat, i < hd → ∀ s, Sd h s → h 6 s = g 19 i → g 18 (h 6 (tw s)) ≠ -1) ∧ TI g ∧ Gs h g
theorem TW_reach {h g : Hp} {R : Int → Nat → Int} (G : GI h R) {hd : Nat} {s : Int} (t : TW h g hd) (hs : Sd h s) (hu : g 18 (h 6 s) = g 3 7) (hw : g 18 (h 6 (tw s)) = -1) : TW h (reachH g (h 6 (tw s)) (h 6 s) (s / 2) (g 17 (h 6 s) + 1)) hd := by
  obtain ⟨tA, tB, tC, tD, ⟨tE0, tE⟩, tI, gs⟩ := t
  have vu := (G.2.2.2.1 s hs).1
  have vw : vOK h (h 6 (tw s)) := (G.2.2.2.1 _ (Sd_tw hs)).1
  have vu' : vOK h (h 6 s) := vu
  obtain ⟨i, i1, i2⟩ := tC _ vu' hu
  have p0 := tI.1.2
  have lv := tI.2.1 i i1
  rw [i2] at lv
  have vwg : vOK g (h 6 (tw s)) := by unfold vOK; rw [gs.1]; exact vw
  have lt := TI_lt (Gs_GI gs G) tI vwg hw
  have une : h 6 s ≠ h 6 (tw s) := fun z => by rw [← z, hu] at hw; omega
  have gs' : Gs h (reachH g (h 6 (tw s)) (h 6 s) (s / 2) (g 17 (h 6 s) + 1)) := gs.tr (Gs.T Fr_reach)
  obtain ⟨w, ew⟩ : ∃ w, w = h 6 (tw s) := ⟨_, rfl⟩
  obtain ⟨u, eu⟩ : ∃ u, u = h 6 s := ⟨_, rfl⟩
  rw [← ew, ← eu] at gs' ⊢
  rw [← ew] at vw vwg hw une
  rw [← eu] at vu vu' hu une i2 lv
  have TI' := TI_reach (p := u) (e := s / 2) (d := g 17 u + 1) tI vwg hw ⟨by omega, by omega⟩
  have o18 : ∀ v, v ≠ w → reachH g w u (s / 2) (g 17 u + 1) 18 v = g 18 v := fun v hv => by rw [reach_18, hup_o (fun z => hv z.2)]
  have o17 : ∀ v, v ≠ w → reachH g w u (s / 2) (g 17 u + 1) 17 v = g 17 v := fun v hv => by rw [reach_17, hup_o (fun z => hv z.2)]
  have o16 : ∀ v, v ≠ w → reachH g w u (s / 2) (g 17 u + 1) 16 v = g 16 v := fun v hv => by rw [reach_16, hup_o (fun z => hv z.2)]
  have o15 : ∀ v, v ≠ w → reachH g w u (s / 2) (g 17 u + 1) 15 v = g 15 v := fun v hv => by rw [reach_15, hup_o (fun z => hv z.2)]
  have s18 : reachH g w u (s / 2) (g 17 u + 1) 18 w = g 3 7 := by rw [reach_18, hup_s]
  have s17 : reachH g w u (s / 2) (g 17 u + 1) 17 w = g 17 u + 1 := by rw [reach_17, hup_s]
  have s16 : reachH g w u (s / 2) (g 17 u + 1) 16 w = s / 2 := by rw [reach_16, hup_s]
  have s15 : reachH g w u (s / 2) (g 17 u + 1) 15 w = u := by rw [reach_15, hup_s]
  unfold TW
  rw [reach_37, reach_36, reach_19]
  refine ⟨fun v hv hr => ?_, fun v x hv hx rv rx ev ex e => ?_, fun v hv e => ?_, fun x hx a b => ?_, ⟨by omega, fun j hj x hx e => ?_⟩, TI', gs'⟩
  · by_cases z : v = w
    · subst z
      rw [s18, s17]
      refine ⟨by omega, Or.inr ?_, by omega, by omega⟩
      rw [s15, s16, s17, s18, o18 u une, o17 u une]
      exact ⟨vu', hu, rfl, s, hs, eu.symm, ew.symm, rfl⟩
    · rw [o18 v z] at hr
      obtain ⟨a1, a2, a3⟩ := tA v hv hr
      rw [o18 v z, o17 v z]
      refine ⟨a1, ?_, a3⟩
      unfold Nd
      rw [o15 v z, o16 v z, o17 v z, o18 v z]
      rcases a2 with a2 | ⟨b1, b2, b3, b4⟩
      · exact Or.inl a2
      · have nz : g 15 v ≠ w := fun y => by rw [y, hw] at b2; exact hr b2.symm
        refine Or.inr ⟨b1, ?_, ?_, b4⟩
        · rw [o18 _ nz]; exact b2
        · rw [o17 _ nz]; exact b3
  · have zv : v ≠ w := fun z => by
      rw [z, s15] at ev
      have := vu'.1
      omega
    have zx : x ≠ w := fun z => by
      rw [z, s15] at ex
      have := vu'.1
      omega
    rw [o18 v zv] at rv e
    rw [o18 x zx] at rx e
    rw [o15 v zv] at ev
    rw [o15 x zx] at ex
    exact tB v x hv hx rv rx ev ex e
  · by_cases z : v = w
    · obtain ⟨n, en⟩ : ∃ n : Nat, g 3 6 = n := ⟨(g 3 6).toNat, by omega⟩
      exact ⟨n, by omega, by rw [en, hup_s, z]⟩
    · rw [o18 v z] at e
      obtain ⟨j, j1, j2⟩ := tC v hv e
      exact ⟨j, by omega, by rw [hup_o (fun y => by have := y.2; omega)]; exact j2⟩
  · by_cases z : h 6 x = w
    · rw [z, s18] at b
      exact absurd rfl b
    · rw [o18 _ z] at a b ⊢
      have := tD x hx a b
      rw [o18 _ (fun y => by rw [y, hw] at this; exact a this.symm)]
      exact this
  · rw [hup_o (fun y => by have := y.2; omega)] at e
    by_cases z : h 6 (tw x) = w
    · rw [z, s18]; omega
    · rw [o18 _ z]
      exact tE j hj x hx e
theorem TW_nb {h g : Hp} {R : Int → Nat → Int} (G : GI h R) {hd : Nat} (t : TW h g hd) (hlt : (hd : Int) < g 3 6) : ∀ k : Nat, (k : Int) ≤ h 11 (g 19 hd) → TW h (nbH (g 19 hd) k g) hd ∧ ∀ j : Nat, j < k → nbH (g 19 hd) k g 18 (nbr h (g 19 hd) j) ≠ -1 := by
  have gs := t.2.2.2.2.2.2
  have tI := t.2.2.2.2.2.1
  have Gg := Gs_GI gs G
  have hu := tI.2.1 hd hlt
  have vu : vOK h (g 19 hd) := by have := hu.1; unfold vOK at this ⊢; rw [gs.1] at this; exact this
  intro k
  induction k with
  | zero => intro _; exact ⟨t, fun j hj => absurd hj (Nat.not_lt_zero _)⟩
  | succ k ih =>
    intro hk
    obtain ⟨a, b⟩ := ih (by omega)
    have hk' : (k : Int) < h 11 (g 19 hd) := by omega
    have hs := sk_S G vu hk'
    have ek : sk g (g 19 hd) k = sk h (g 19 hd) k := Gs_sk gs _ _
    have en : g 6 (tw (sk g (g 19 hd) k)) = nbr h (g 19 hd) k := by rw [ek, gs.2.1]; rfl
    have qg := (nb_ok Gg tI hlt k (by rw [gs.2.2.2.2.2.2]; omega)).2
    have hp := (qg.2.2 (g 19 hd) (by rw [hu.2.1]; have := tI.1.2; omega)).2.1
    by_cases c : nbH (g 19 hd) k g 18 (g 6 (tw (sk g (g 19 hd) k))) = -1
    · have E : nbH (g 19 hd) (k + 1) g = reachH (nbH (g 19 hd) k g) (g 6 (tw (sk g (g 19 hd) k))) (g 19 hd) (sk g (g 19 hd) k / 2) (nbH (g 19 hd) k g 17 (g 19 hd) + 1) := if_pos c
      rw [E]
      rw [en] at c ⊢
      have c' : nbH (g 19 hd) k g 18 (h 6 (tw (sk h (g 19 hd) k))) = -1 := c
      have T := TW_reach G a hs.1 (by rw [hs.2, hp, hu.2.1, nb_37]) c'
      rw [hs.2] at T
      rw [ek]
      refine ⟨T, fun j hj => ?_⟩
      by_cases z : nbr h (g 19 hd) j = nbr h (g 19 hd) k
      · rw [z, reach_18, hup_s, nb_37]
        have := tI.1.2
        omega
      · rw [reach_18, hup_o (fun y => z y.2)]
        exact b j (by
          rcases Nat.lt_or_ge j k with q | q
          · exact q
          · exact absurd (by rw [show j = k by omega]) z)
    · rw [nb_no c]
      rw [en] at c
      refine ⟨a, fun j hj => ?_⟩
      by_cases z : j = k
      · rw [z]; exact c
      · exact b j (by omega)
theorem sk_all {h : Hp} {R : Int → Nat → Int} (G : GI h R) {v s : Int} (hv : vOK h v) (hs : Sd h s) (e : h 6 s = v) : ∃ j : Nat, (j : Int) < h 11 v ∧ sk h v j = s := by
  obtain ⟨j, j1, j2⟩ := (G.ring hv).2.2.2.1 s hs e
  exact ⟨j, j1, by rw [sk_R G hv j j1]; exact j2⟩
theorem TW_grow {h : Hp} {R : Int → Nat → Int} (G : GI h R) : ∀ (f hd : Nat) {g : Hp}, TW h g hd → 31 ≤ f + hd → ∃ n : Nat, (n : Int) = growL f hd g 3 6 ∧ TW h (growL f hd g) n ∧ QG g (growL f hd g) := by
  intro f
  induction f with
  | zero =>
    intro hd g t hf
    exfalso
    have := TI_le (Gs_GI t.2.2.2.2.2.2 G) t.2.2.2.2.2.1
    have := t.2.2.2.2.1.1
    omega
  | succ f ih =>
    intro hd g t hf
    unfold growL
    split
    · next c =>
      have gs := t.2.2.2.2.2.2
      have tI := t.2.2.2.2.2.1
      have hu := tI.2.1 hd c
      have vu : vOK h (g 19 hd) := by have := hu.1; unfold vOK at this ⊢; rw [gs.1] at this; exact this
      have dg := G.deg vu
      obtain ⟨a, b⟩ := TW_nb G t c (h 11 (g 19 hd)).toNat (by omega)
      have qg := (nb_ok (Gs_GI gs G) tI c (g 11 (g 19 hd)).toNat (by rw [gs.2.2.2.2.2.2]; omega)).2
      rw [gs.2.2.2.2.2.2] at qg ⊢
      have T : TW h (nbH (g 19 hd) (h 11 (g 19 hd)).toNat g) (hd + 1) := by
        obtain ⟨a1, a2, a3, a4, ⟨a5, a6⟩, a7, a8⟩ := a
        refine ⟨a1, a2, a3, a4, ⟨by have := qg.1; omega, fun i hi s hs e => ?_⟩, a7, a8⟩
        by_cases z : i = hd
        · subst z
          rw [qg.2.1 i c] at e
          obtain ⟨j, j1, j2⟩ := sk_all G vu hs e
          have := b j (by omega)
          unfold nbr at this
          rw [j2] at this
          exact this
        · exact a6 i (by omega) s hs e
      obtain ⟨n, n1, n2, n3⟩ := ih (hd + 1) T (by omega)
      exact ⟨n, n1, n2, qg.tr n3⟩
    · next c =>
      have h0 := t.2.2.2.2.1.1
      exact ⟨hd, by omega, t, QG.rf⟩
/-- between parts -/
def TB (h g : Hp) : Prop := TA h g (g 3 7 - 1) ∧ TBr h g ∧ TD h g (g 3 7) ∧ 0 ≤ g 3 7 ∧ Gs h g
theorem TB_grow {h g : Hp} {R : Int → Nat → Int} (G : GI h R) (t : TB h g) {r : Int} (hr : vOK h r) (hn : g 18 r = -1) : TB h (hup (growH g r) 3 7 (growH g r 3 7 + 1)) ∧ (∀ v, g 18 v ≠ -1 → growH g r 18 v = g 18 v) ∧ growH g r 18 r ≠ -1 := by
  obtain ⟨tA, tB, tD, t0, gs⟩ := t
  have ev : vOK g r := by unfold vOK; rw [gs.1]; exact hr
  have e37 : hup g 3 6 0 3 7 = g 3 7 := hup_o (fun z => by have := z.2; omega)
  have e36 : hup g 3 6 0 3 6 = 0 := hup_s _ _ _ _
  have hk : ∀ k, k ≠ 3 → hup g 3 6 0 k = g k := fun k hk => hup_k hk
  have gs0 : Gs h (reachH (hup g 3 6 0) r (-1) (-1) 0) := gs.tr ((Gs.T (Fr.rf.up (by decide))).tr (Gs.T Fr_reach))
  have o18 : ∀ v, v ≠ r → reachH (hup g 3 6 0) r (-1) (-1) 0 18 v = g 18 v := fun v hv => by rw [reach_18, hup_o (fun z => hv z.2), hk 18 (by decide)]
  have o17 : ∀ v, v ≠ r → reachH (hup g 3 6 0) r (-1) (-1) 0 17 v = g 17 v := fun v hv => by rw [reach_17, hup_o (fun z => hv z.2), hk 17 (by decide)]
  have o16 : ∀ v, v ≠ r → reachH (hup g 3 6 0) r (-1) (-1) 0 16 v = g 16 v := fun v hv => by rw [reach_16, hup_o (fun z => hv z.2), hk 16 (by decide)]
  have o15 : ∀ v, v ≠ r → reachH (hup g 3 6 0) r (-1) (-1) 0 15 v = g 15 v := fun v hv => by rw [reach_15, hup_o (fun z => hv z.2), hk 15 (by decide)]
  have s18 : reachH (hup g 3 6 0) r (-1) (-1) 0 18 r = g 3 7 := by rw [reach_18, hup_s, e37]
  have s17 : reachH (hup g 3 6 0) r (-1) (-1) 0 17 r = 0 := by rw [reach_17, hup_s]
  have s16 : reachH (hup g 3 6 0) r (-1) (-1) 0 16 r = -1 := by rw [reach_16, hup_s]
  have s15 : reachH (hup g 3 6 0) r (-1) (-1) 0 15 r = -1 := by rw [reach_15, hup_s]
  have start : TW h (reachH (hup g 3 6 0) r (-1) (-1) 0) 0 := by
    unfold TW
    rw [reach_37, reach_36, reach_19, e37, e36]
    refine ⟨fun v hv h1 => ?_, fun v x hv hx rv rx a b e => ?_, fun v hv e => ?_, fun x hx a b => ?_, ⟨by omega, fun j hj => absurd hj (Nat.not_lt_zero _)⟩, TI_start ev hn t0, gs0⟩
    · by_cases z : v = r
      · subst z
        rw [s18, s17]
        refine ⟨by omega, Or.inl ?_, by omega, by omega⟩
        rw [s15, s16, s17]
        exact ⟨rfl, rfl, rfl⟩
      · rw [o18 v z] at h1
        obtain ⟨a1, a2, a3⟩ := tA v hv h1
        rw [o18 v z, o17 v z]
        refine ⟨by omega, ?_, a3⟩
        unfold Nd
        rw [o15 v z, o16 v z, o17 v z, o18 v z]
        rcases a2 with a2 | ⟨b1, b2, b3, b4⟩
        · exact Or.inl a2
        · have nz : g 15 v ≠ r := fun y => by rw [y, hn] at b2; exact h1 b2.symm
          refine Or.inr ⟨b1, ?_, ?_, b4⟩
          · rw [o18 _ nz]; exact b2
          · rw [o17 _ nz]; exact b3
    · have old : ∀ y, vOK h y → y ≠ r → reachH (hup g 3 6 0) r (-1) (-1) 0 18 y ≠ -1 → reachH (hup g 3 6 0) r (-1) (-1) 0 18 y < g 3 7 := by
        intro y hy z1 z2
        rw [o18 y z1] at z2 ⊢
        have := (tA y hy z2).1
        omega
      by_cases z1 : v = r <;> by_cases z2 : x = r
      · rw [z1, z2]
      · have := old x hx z2 rx
        rw [z1, s18] at e
        omega
      · have := old v hv z1 rv
        rw [z2, s18] at e
        omega
      · rw [o18 v z1] at rv e
        rw [o18 x z2] at rx e
        rw [o15 v z1] at a
        rw [o15 x z2] at b
        exact tB v x hv hx rv rx a b e
    · refine ⟨0, by omega, ?_⟩
      have z : v = r := by
        apply Classical.byContradiction
        intro z
        rw [o18 v z] at e
        have := (tA v hv (by omega)).1
        omega
      show hup (hup g 3 6 0) 19 0 r 19 0 = v
      rw [hup_s, z]
    · by_cases z : h 6 x = r
      · rw [z, s18] at b
        exact absurd rfl b
      · rw [o18 _ z] at a b ⊢
        have := tD x hx a b
        rw [o18 _ (fun y => by rw [y, hn] at this; exact a this.symm)]
        exact this
  obtain ⟨n, n1, n2, n3⟩ := TW_grow G 31 0 start (by omega)
  have eg : growL 31 0 (reachH (hup g 3 6 0) r (-1) (-1) 0) = growH g r := rfl
  rw [eg] at n1 n2 n3
  have g37 : growH g r 3 7 = g 3 7 := growH_37
  obtain ⟨a1, a2, a3, a4, ⟨a5, a6⟩, a7, a8⟩ := n2
  rw [g37] at a1 a3 a4
  refine ⟨?_, fun v hv => ?_, ?_⟩
  · unfold TB
    have k18 : ∀ k, k ≠ 3 → hup (growH g r) 3 7 (growH g r 3 7 + 1) k = growH g r k := fun k hk => hup_k hk
    have eA : hup (growH g r) 3 7 (growH g r 3 7 + 1) 3 7 = g 3 7 + 1 := by rw [hup_s, g37]
    unfold TA TBr TD Nd
    rw [eA, k18 18 (by decide), k18 15 (by decide), k18 16 (by decide), k18 17 (by decide)]
    refine ⟨fun v hv h1 => ?_, a2, fun s hs h1 h2 => ?_, by omega, a8.tr (Gs.T (Fr.rf.up (by decide)))⟩
    · have := a1 v hv h1
      exact ⟨by omega, this.2⟩
    · have vs : vOK h (h 6 s) := (G.2.2.2.1 s hs).1
      have vt : vOK h (h 6 (tw s)) := (G.2.2.2.1 _ (Sd_tw hs)).1
      by_cases z : growH g r 18 (h 6 s) = g 3 7
      · obtain ⟨i, i1, i2⟩ := a3 _ vs z
        have nt := a6 i (by omega) s hs i2.symm
        by_cases y : growH g r 18 (h 6 (tw s)) = g 3 7
        · rw [y, z]
        · have := a4 (tw s) (Sd_tw hs) nt y
          rw [tw_tw] at this
          exact this.symm
      · exact a4 s hs h1 z
  · have hvr : v ≠ r := fun z => hv (by rw [z]; exact hn)
    rw [← o18 v hvr]
    exact (n3.2.2 v (by rw [o18 v hvr]; exact hv)).2.1
  · have := (n3.2.2 r (by rw [s18]; omega)).2.1
    rw [this, s18]
    omega
/-- the whole tree -/
def TF (h : Hp) : Prop := (∀ v, vOK h v → (0 ≤ tr h 18 v ∧ tr h 18 v < tr h 3 7) ∧ Nd h (tr h) v ∧ 0 ≤ tr h 17 v ∧ tr h 17 v ≤ 29) ∧ (∀ v w, vOK h v → vOK h w → tr h 15 v = -1 → tr h 15 w = -1 → tr h 18 v = tr h 18 w → v = w) ∧ ∀ s, Sd h s → tr h 18 (h 6 (tw s)) = tr h 18 (h 6 s)
theorem tr_facts {h : Hp} {R : Int → Nat → Int} (G : GI h R) : TF h := by
  have g1 := G.1
  have key : ∀ k : Nat, (k : Int) ≤ h 1 6 → TB h (survL k (g0 h)) ∧ ∀ v : Int, 0 ≤ v → v < k → survL k (g0 h) 18 v ≠ -1 := by
    intro k
    induction k with
    | zero =>
      intro _
      have e18 : ∀ v, vOK h v → g0 h 18 v = -1 := by
        intro v hv
        unfold g0
        rw [hup_k (by decide)]
        exact initT_18 _ hv.1 (by have := hv.2; omega)
      refine ⟨⟨fun v hv h1 => absurd (e18 v hv) h1, fun v w hv _ h1 => absurd (e18 v hv) h1, fun s hs h1 => absurd (e18 _ (G.2.2.2.1 s hs).1) h1, ?_, Gs_g0⟩, fun v h1 h2 => by omega⟩
      show 0 ≤ g0 h 3 7
      rw [g0_37]
      omega
    | succ k ih =>
      intro hk
      obtain ⟨a, b⟩ := ih (by omega)
      unfold survL
      split
      · next c =>
        obtain ⟨x1, x2, x3⟩ := TB_grow G a (r := k) ⟨by omega, by omega⟩ c
        refine ⟨x1, fun v h1 h2 => ?_⟩
        rw [hup_k (by decide)]
        by_cases z : v = k
        · rw [z]; exact x3
        · have := b v h1 (by omega)
          rw [x2 v this]
          exact this
      · next c =>
        refine ⟨a, fun v h1 h2 => ?_⟩
        by_cases z : v = k
        · rw [z]; exact c
        · exact b v h1 (by omega)
  obtain ⟨⟨a1, a2, a3, a4, a5⟩, b⟩ := key (h 1 6).toNat (by omega)
  have et : survL (h 1 6).toNat (g0 h) = tr h := rfl
  rw [et] at a1 a2 a3 a4 a5 b
  have all : ∀ v, vOK h v → tr h 18 v ≠ -1 := fun v hv => b v hv.1 (by have := hv.2; omega)
  refine ⟨fun v hv => ?_, fun v w hv hw => a2 v w hv hw (all v hv) (all w hw), fun s hs => ?_⟩
  · obtain ⟨c1, c2⟩ := a1 v hv (all v hv)
    exact ⟨by omega, c2⟩
  · have vs : vOK h (h 6 s) := (G.2.2.2.1 s hs).1
    refine a3 s hs (all _ vs) ?_
    have := (a1 _ vs (all _ vs)).1
    omega

/-! The tree depends on the graph alone -/
def TE0 (g g' : Hp) : Prop := Gs g g' ∧ g' 3 7 = g 3 7 ∧ ∀ v, vOK g v → g' 18 v = g 18 v ∧ (g 18 v ≠ -1 → g' 15 v = g 15 v ∧ g' 16 v = g 16 v ∧ g' 17 v = g 17 v)
def TE1 (g g' : Hp) : Prop := TE0 g g' ∧ g' 3 6 = g 3 6 ∧ ∀ i : Nat, (i : Int) < g 3 6 → g' 19 i = g 19 i
theorem hup_row {h h' : Hp} {k : Nat} {j v x : Int} (e : x ≠ j → h' k x = h k x) : hup h' k j v k x = hup h k j v k x := by
  by_cases z : x = j
  · rw [z, hup_s, hup_s]
  · rw [hup_o (fun y => z y.2), hup_o (fun y => z y.2)]
    exact e z
theorem TE_reach {g g' : Hp} {w p e d : Int} (t : TE1 g g') (hw : g 18 w = -1) (hp : 0 ≤ g 3 7) : TE1 (reachH g w p e d) (reachH g' w p e d) := by
  obtain ⟨⟨gs, e37, ev⟩, e36, eq⟩ := t
  have F : Gs g (reachH g w p e d) := Gs.T Fr_reach
  have F' : Gs g' (reachH g' w p e d) := Gs.T Fr_reach
  have k1 : reachH g w p e d 1 = g 1 := F.1
  refine ⟨⟨F.sm.tr (gs.tr F'), by rw [reach_37, reach_37, e37], fun v hv => ?_⟩, by rw [reach_36, reach_36, e36], fun i hi => ?_⟩
  · unfold vOK at hv
    rw [k1] at hv
    have a := ev v hv
    rw [reach_18, reach_18, e37, reach_15, reach_15, reach_16, reach_16, reach_17, reach_17]
    refine ⟨hup_row (fun _ => a.1), fun z => ?_⟩
    by_cases y : v = w
    · subst y
      rw [hup_s, hup_s, hup_s, hup_s, hup_s, hup_s]
      exact ⟨rfl, rfl, rfl⟩
    · rw [hup_o (fun q => y q.2)] at z
      obtain ⟨b1, b2, b3⟩ := a.2 z
      exact ⟨hup_row (fun _ => b1), hup_row (fun _ => b2), hup_row (fun _ => b3)⟩
  · rw [reach_36] at hi
    rw [reach_19, reach_19, e36]
    exact hup_row (fun z => eq i (by omega))
theorem TE_nb {g g' : Hp} {R : Int → Nat → Int} (G : GI g R) (T : TI g) (t : TE1 g g') {i : Nat} (hi : (i : Int) < g 3 6) : ∀ k : Nat, (k : Int) ≤ g 11 (g 19 i) → TE1 (nbH (g 19 i) k g) (nbH (g 19 i) k g') := by
  have hu := T.2.1 i hi
  intro k
  induction k with
  | zero => intro _; exact t
  | succ k ih =>
    intro hk
    have a := ih (by omega)
    obtain ⟨b1, b2⟩ := nb_ok G T hi k (by omega)
    have gs := t.1.1
    have ew : g' 6 (tw (sk g' (g 19 i) k)) = g 6 (tw (sk g (g 19 i) k)) := by rw [Gs_sk gs, gs.2.1]
    have hs := sk_S G hu.1 (k := k) (by omega)
    have hw : vOK g (g 6 (tw (sk g (g 19 i) k))) := (G.2.2.2.1 _ (Sd_tw hs.1)).1
    have k1 : nbH (g 19 i) k g 1 = g 1 := (Gs.T (Fr_nb k)).1
    have e18 := (a.1.2.2 _ (show vOK (nbH (g 19 i) k g) _ by unfold vOK; rw [k1]; exact hw)).1
    have hu2 := (b2.2.2 (g 19 i) (by rw [hu.2.1]; have := T.1.2; omega))
    have e17 := (a.1.2.2 (g 19 i) (by unfold vOK; rw [k1]; exact hu.1)).2 (by rw [hu2.2.1, hu.2.1]; have := T.1.2; omega)
    by_cases c : nbH (g 19 i) k g 18 (g 6 (tw (sk g (g 19 i) k))) = -1
    · have E : nbH (g 19 i) (k + 1) g = reachH (nbH (g 19 i) k g) (g 6 (tw (sk g (g 19 i) k))) (g 19 i) (sk g (g 19 i) k / 2) (nbH (g 19 i) k g 17 (g 19 i) + 1) := if_pos c
      have E' : nbH (g 19 i) (k + 1) g' = reachH (nbH (g 19 i) k g') (g' 6 (tw (sk g' (g 19 i) k))) (g 19 i) (sk g' (g 19 i) k / 2) (nbH (g 19 i) k g' 17 (g 19 i) + 1) := if_pos (by rw [ew, e18]; exact c)
      rw [E, E', ew, Gs_sk gs, e17.2.2]
      exact TE_reach a c b1.1.2
    · rw [nb_no c, nb_no (by rw [ew, e18]; exact c)]
      exact a
theorem TE_grow : ∀ (f hd : Nat) {g g' : Hp} {R : Int → Nat → Int}, GI g R → TI g → TE1 g g' → TE1 (growL f hd g) (growL f hd g') := by
  intro f
  induction f with
  | zero => intro hd g g' R _ _ t; exact t
  | succ f ih =>
    intro hd g g' R G T t
    unfold growL
    rw [t.2.1]
    by_cases c : (hd : Int) < g 3 6
    · rw [if_pos c, if_pos c, t.2.2 hd c, t.1.1.2.2.2.2.2.2]
      have hd' := (G.deg (T.2.1 hd c).1).1
      have k := (g 11 (g 19 hd)).toNat
      exact ih (hd + 1) (Gs_GI (Gs.T (Fr_nb _)) G) (nb_ok G T c _ (by omega)).1 (TE_nb G T t c _ (by omega))
    · rw [if_neg c, if_neg c]
      exact t
theorem TE_growH {g g' : Hp} {R : Int → Nat → Int} (G : GI g R) (t : TE0 g g') {r : Int} (hr : vOK g r) (hn : g 18 r = -1) (h0 : 0 ≤ g 3 7) : TE0 (growH g r) (growH g' r) := by
  have k : ∀ (g : Hp) k, k ≠ 3 → hup g 3 6 0 k = g k := fun g k hk => hup_k hk
  have e37 : ∀ g : Hp, hup g 3 6 0 3 7 = g 3 7 := fun g => hup_o (fun z => by have := z.2; omega)
  have s : TE1 (hup g 3 6 0) (hup g' 3 6 0) := by
    obtain ⟨gs, a, b⟩ := t
    refine ⟨⟨?_, by rw [e37, e37, a], fun v hv => ?_⟩, by rw [hup_s, hup_s], fun i hi => by rw [hup_s] at hi; omega⟩
    · exact (Gs.T (Fr.rf.up (by decide)) : Gs g (hup g 3 6 0)).sm.tr (gs.tr (Gs.T (Fr.rf.up (by decide))))
    · unfold vOK at hv
      rw [k g 1 (by decide)] at hv
      rw [k g 18 (by decide), k g' 18 (by decide), k g 15 (by decide), k g' 15 (by decide), k g 16 (by decide), k g' 16 (by decide), k g 17 (by decide), k g' 17 (by decide)]
      exact b v hv
  have s2 : TE1 (reachH (hup g 3 6 0) r (-1) (-1) 0) (reachH (hup g' 3 6 0) r (-1) (-1) 0) := TE_reach s (by rw [k g 18 (by decide)]; exact hn) (by rw [e37]; exact h0)
  exact (TE_grow 31 0 (Gs_GI (Gs.T ((Fr.rf.up (by decide) : Fr [3, 15, 16, 17, 18, 19] g (hup g 3 6 0)).trans Fr_reach (fun _ z => z))) G) (TI_start hr hn h0) s2).1
/-- pictures of one graph have one tree -/
theorem tr_gs {h h' : Hp} {R : Int → Nat → Int} (G : GI h R) (gs : Gs h h') : tr h' 3 7 = tr h 3 7 ∧ ∀ v, vOK h v → tr h' 18 v = tr h 18 v ∧ tr h' 15 v = tr h 15 v ∧ tr h' 16 v = tr h 16 v ∧ tr h' 17 v = tr h 17 v := by
  have g1 := G.1
  have key : ∀ k : Nat, (k : Int) ≤ h 1 6 → TE0 (survL k (g0 h)) (survL k (g0 h')) := by
    intro k
    induction k with
    | zero =>
      intro _
      refine ⟨(Gs_g0 (h := h)).sm.tr (gs.tr Gs_g0), by show g0 h' 3 7 = g0 h 3 7; rw [g0_37, g0_37], fun v hv => ?_⟩
      have hv' : vOK h v := by
        unfold vOK at hv ⊢
        rw [show survL 0 (g0 h) 1 = h 1 from (Gs_g0 (h := h)).1] at hv
        exact hv
      unfold vOK at hv'
      have e1 : survL 0 (g0 h) 18 v = -1 := by
        show g0 h 18 v = -1
        unfold g0
        rw [hup_k (by decide)]
        exact initT_18 _ hv'.1 (by omega)
      have e2 : survL 0 (g0 h') 18 v = -1 := by
        show g0 h' 18 v = -1
        unfold g0
        rw [hup_k (by decide)]
        exact initT_18 _ hv'.1 (by rw [gs.1]; omega)
      exact ⟨e2.trans e1.symm, fun z => absurd e1 z⟩
    | succ k ih =>
      intro hk
      have a := ih (by omega)
      have so := surv_ok k (h := g0 h) g0_37
      have gk : Gs h (survL k (g0 h)) := Gs_surv k
      have vk : vOK (survL k (g0 h)) k := by unfold vOK; rw [gk.1]; omega
      have e18 := (a.2.2 k vk).1
      unfold survL
      rw [e18]
      by_cases c : survL k (g0 h) 18 k = -1
      · rw [if_pos c, if_pos c]
        have T := TE_growH (Gs_GI gk G) a vk c so.2.1
        obtain ⟨t1, t2, t3⟩ := T
        refine ⟨?_, by rw [hup_s, hup_s, t2], fun v hv => ?_⟩
        · exact (Gs.T (Fr.rf.up (by decide)) : Gs (growH (survL k (g0 h)) k) _).sm.tr (t1.tr (Gs.T (Fr.rf.up (by decide))))
        · unfold vOK at hv
          rw [hup_k (by decide)] at hv
          rw [hup_k (by decide), hup_k (by decide), hup_k (by decide), hup_k (by decide), hup_k (by decide), hup_k (by decide), hup_k (by decide), hup_k (by decide)]
          exact t3 v hv
      · rw [if_neg c, if_neg c]
        exact a
  have T := key (h 1 6).toNat (by omega)
  have e : survL (h 1 6).toNat (g0 h') = tr h' := by unfold tr; rw [gs.1]
  have e' : survL (h 1 6).toNat (g0 h) = tr h := rfl
  rw [e, e'] at T
  refine ⟨T.2.1, fun v hv => ?_⟩
  have gt : Gs h (tr h) := Gs_surv _
  have a := T.2.2 v (by unfold vOK; rw [gt.1]; exact hv)
  have tf := (tr_facts G).1 v hv
  have b := a.2 (by omega)
  exact ⟨a.1, b⟩
/-- the class's tree cells are the tree's -/
def TS (h : Hp) : Prop := h 3 7 = tr h 3 7 ∧ ∀ v, vOK h v → h 18 v = tr h 18 v ∧ h 15 v = tr h 15 v ∧ h 16 v = tr h 16 v ∧ h 17 v = tr h 17 v
theorem TS_surv {h : Hp} {R : Int → Nat → Int} (G : GI h R) : TS (survH h) := by
  have gs : Gs h (survH h) := by
    have e : mk (survH h) = tr h := tr_surv
    have gt : Gs h (tr h) := Gs_surv _
    rw [← e] at gt
    refine ⟨?_, ?_, ?_, ?_, ?_, ?_, ?_⟩
    · rw [← gt.1, mk_k (by decide)]
    · rw [← gt.2.1, mk_k (by decide)]
    · rw [← gt.2.2.1, mk_k (by decide)]
    · rw [← gt.2.2.2.1, mk_k (by decide)]
    · rw [← gt.2.2.2.2.1, mk_k (by decide)]
    · rw [← gt.2.2.2.2.2.1, mk_k (by decide)]
    · rw [← gt.2.2.2.2.2.2, mk_k (by decide)]
  obtain ⟨a, b⟩ := tr_gs G gs
  have e : ∀ k, k < 30 → survH h k = tr h k := fun k hk => by rw [← tr_surv, mk_k hk]
  refine ⟨by rw [a, e 3 (by decide)], fun v hv => ?_⟩
  unfold vOK at hv
  rw [gs.1] at hv
  obtain ⟨b1, b2, b3, b4⟩ := b v hv
  rw [b1, b2, b3, b4, e 18 (by decide), e 15 (by decide), e 16 (by decide), e 17 (by decide)]
  exact ⟨rfl, rfl, rfl, rfl⟩
theorem TS_gs {h h' : Hp} {R : Int → Nat → Int} (G : GI h R) (gs : Gs h h') (t : TS h) (e : ∀ k ∈ [3, 15, 16, 17, 18], h' k = h k) : TS h' := by
  obtain ⟨a, b⟩ := tr_gs G gs
  refine ⟨by rw [e 3 (by decide), a]; exact t.1, fun v hv => ?_⟩
  unfold vOK at hv
  rw [gs.1] at hv
  obtain ⟨b1, b2, b3, b4⟩ := b v hv
  rw [b1, b2, b3, b4, e 18 (by decide), e 15 (by decide), e 16 (by decide), e 17 (by decide)]
  exact t.2 v hv
theorem TF_gs {h h' : Hp} {R : Int → Nat → Int} (G : GI h R) (gs : Gs h h') : gnF h' = gnF h := by
  obtain ⟨a, b⟩ := tr_gs G gs
  unfold gnF
  rw [a, Gs_nF gs, gs.1, gs.2.2.2.2.2.2]

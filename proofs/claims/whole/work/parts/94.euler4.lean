/-! Genus nothing: one of the rest has at most five neighbours there -/
theorem PM_of {h : Hp} {R : Int → Nat → Int} (G : GI h R) : PMp (Sd h) (h 6) (h 7) (h 1 6) := by
  have P := ph_perm G
  have inj : ∀ s t, Sd h s → Sd h t → h 7 s = h 7 t → s = t := by
    intro s t hs ht e
    have := P.2.1 (tw s) (tw t) (Sd_tw hs) (Sd_tw ht) (by unfold ph; rw [tw_tw, tw_tw]; exact e)
    exact tw_inj this
  have Q : Perm (Sd h) (h 7) 200 := ⟨fun s hs => (G.nb hs).1, inj, fun s hs => Sd_lt G hs⟩
  refine ⟨fun s hs => Sd_lt G hs, fun s hs => Sd_tw hs, fun s hs => ⟨(G.nb hs).1, (G.nb hs).2.2.1⟩, inj, fun s hs => G.2.2.2.1 s hs, G.2.2.2.2.1, fun s t hs ht e => ?_⟩
  have vs : vOK h (h 6 s) := (G.2.2.2.1 s hs).1
  obtain ⟨i, i1, i2⟩ := sk_all G vs hs rfl
  obtain ⟨j, j1, j2⟩ := sk_all G vs ht e.symm
  have h0 := (sk_S G vs (k := 0) (by omega)).1
  have o1 : Orb (h 7) (sk h (h 6 s) 0) s := ⟨i, i2⟩
  have o2 : Orb (h 7) (sk h (h 6 s) 0) t := ⟨j, j2⟩
  exact (o1.symm Q h0).trans o2
theorem cntP_cnt (p : Int → Prop) [DecidablePred p] (n : Nat) : cntP p n = cnt p n := @cnt_congr p p (fun a => Classical.propDecidable (p a)) _ n (fun _ _ => Iff.rfl)
theorem sides_two {h : Hp} {R : Int → Nat → Int} (G : GI h R) : cntP (Sd h) 200 = 2 * h 1 8 := by
  have g2 := G.2.1
  have a : ∀ m : Nat, (m : Int) ≤ h 1 7 → cntP (Sd h) (2 * m) = 2 * cnt (fun e => h 9 e = 1) m := by
    intro m
    induction m with
    | zero => intro _; rfl
    | succ m ih =>
      intro hm
      have e := ih (by omega)
      rw [show 2 * (m + 1) = (2 * m + 1) + 1 by omega, cnt_succ]
      by_cases w : h 9 m = 1
      · rw [if_pos w, cntP_t (p := Sd h) ⟨by omega, by omega, by rw [show (((2 * m + 1 : Nat) : Int)) / 2 = m by omega]; exact w⟩, cntP_t (p := Sd h) ⟨by omega, by omega, by rw [show (((2 * m : Nat) : Int)) / 2 = m by omega]; exact w⟩]
        omega
      · rw [if_neg w, cntP_f (p := Sd h) (fun z => w (by have := z.2.2; rw [show (((2 * m + 1 : Nat) : Int)) / 2 = m by omega] at this; exact this)), cntP_f (p := Sd h) (fun z => w (by have := z.2.2; rw [show (((2 * m : Nat) : Int)) / 2 = m by omega] at this; exact this))]
        omega
  have b : ∀ d : Nat, cntP (Sd h) (2 * (h 1 7).toNat + d) = cntP (Sd h) (2 * (h 1 7).toNat) := by
    intro d
    induction d with
    | zero => rfl
    | succ d ih =>
      rw [← Nat.add_assoc, cntP_f (p := Sd h) (fun z => by have := z.2.1; omega)]
      exact ih
  have c := b (200 - 2 * (h 1 7).toNat)
  rw [show 2 * (h 1 7).toNat + (200 - 2 * (h 1 7).toNat) = 200 by omega, a _ (by omega)] at c
  rw [c, G.2.2.2.2.2.2]
theorem iso_iff {h : Hp} {R : Int → Nat → Int} (G : GI h R) {v : Int} (hv : vOK h v) : Iso (Sd h) (h 6) v ↔ h 11 v = 0 := by
  have hd := G.deg hv
  constructor
  · intro z
    apply Classical.byContradiction
    intro w
    have := sk_S G hv (k := 0) (by omega)
    exact z _ this.1 this.2
  · intro z s hs e
    obtain ⟨j, j1, -⟩ := sk_all G hv hs e
    omega
/-- every vertex hangs together with the root of its part -/
theorem to_root {h : Hp} {R : Int → Nat → Int} (G : GI h R) : ∀ (n : Nat) {v : Int}, vOK h v → tr h 17 v = n → ∃ r, vOK h r ∧ tr h 15 r = -1 ∧ tr h 18 r = tr h 18 v ∧ Cn (Sd h) (h 6) r v := by
  have T := tr_facts G
  intro n
  induction n with
  | zero =>
    intro v hv e
    rcases (T.1 v hv).2.1 with a | ⟨b1, b2, b3, b4⟩
    · exact ⟨v, hv, a.1, rfl, Cn.rf⟩
    · have := (T.1 _ b1).2.2
      omega
  | succ n ih =>
    intro v hv e
    rcases (T.1 v hv).2.1 with a | ⟨b1, b2, b3, s, s1, s2, s3, s4⟩
    · have := a.2.2
      omega
    · obtain ⟨r, r1, r2, r3, r4⟩ := ih b1 (by omega)
      refine ⟨r, r1, r2, r3.trans b2, r4.tr ?_⟩
      have := Cn.ed (st := h 6) s1
      rw [s2, s3] at this
      exact this
theorem part_Cn {h : Hp} {R : Int → Nat → Int} (G : GI h R) {v w : Int} (hv : vOK h v) (hw : vOK h w) (e : tr h 18 v = tr h 18 w) : Cn (Sd h) (h 6) v w := by
  have T := tr_facts G
  have lv := (T.1 v hv).2.2
  have lw := (T.1 w hw).2.2
  obtain ⟨r, r1, r2, r3, r4⟩ := to_root G (tr h 17 v).toNat hv (by omega)
  obtain ⟨q, q1, q2, q3, q4⟩ := to_root G (tr h 17 w).toNat hw (by omega)
  have := T.2.1 r q r1 q1 r2 q2 (by rw [r3, q3]; exact e)
  subst this
  exact (r4.sm (fun s hs => Sd_tw hs)).tr q4
theorem CE_of {h : Hp} {R : Int → Nat → Int} (G : GI h R) {u : Int} (hu : vOK h u) (gz : gnF h = 0) : CE (Sd h) (h 6) (h 7) (h 1 6) := by
  have P := ph_perm G
  have T := tr_facts G
  have g1 := G.1
  have g2 := G.2.1
  have ld : ∀ s, ∃ t, Sd h s → LdF h t ∧ Orb (ph h) t s := by
    intro s
    by_cases w : Sd h s
    · obtain ⟨t, t1, t2, -⟩ := lead_ex P w
      exact ⟨t, fun _ => ⟨t1, t2⟩⟩
    · exact ⟨0, fun z => absurd z w⟩
  have same : ∀ s t, Sd h s → LdF h t → Orb (ph h) t s → Classical.choose (ld s) = t := by
    intro s t hs ht o
    obtain ⟨c1, c2⟩ := Classical.choose_spec (ld s) hs
    exact lead_uniq P c1 ht (c2.trans (o.symm P ht.1))
  have nF0 := nF_le G
  have lc := cnt_le (fun v => h 11 v = 0) (h 1 6).toNat
  have n37 := (T.1 u hu).1
  have ldr : ∀ t, LdF h t → 0 ≤ t ∧ t < ((2 * h 1 7).toNat : Int) := by
    intro t ht
    have := ht.1
    unfold Sd at this
    omega
  refine ⟨fun s => cntP (LdF h) (Classical.choose (ld s)).toNat, fun v => nF h + cntP (fun v => h 11 v = 0) v.toNat, fun v => tr h 18 v, nF h + cnt (fun v => h 11 v = 0) (h 1 6).toNat, tr h 3 7, fun s hs => ?_, fun s hs => ?_, fun v v1 v2 hv => ?_, fun l l1 l2 => ?_, fun v v1 v2 => (T.1 v ⟨v1, v2⟩).1, fun v w v1 v2 w1 w2 e => part_Cn G ⟨v1, v2⟩ ⟨w1, w2⟩ e, by omega, ?_⟩
  · obtain ⟨c1, c2⟩ := Classical.choose_spec (ld s) hs
    have hs' : Sd h (ph h s) := P.1 s hs
    have := same (ph h s) _ hs' c1 (c2.trans Orb.st)
    show cntP (LdF h) (Classical.choose (ld (ph h s))).toNat = _
    rw [this]
  · obtain ⟨c1, c2⟩ := Classical.choose_spec (ld s) hs
    have := rank_lt (p := LdF h) (ldr _ c1) c1
    have e : cntP (LdF h) (2 * h 1 7).toNat = nF h := rfl
    show 0 ≤ cntP (LdF h) (Classical.choose (ld s)).toNat ∧ cntP (LdF h) (Classical.choose (ld s)).toNat < _
    omega
  · have := rank_lt (p := fun v => h 11 v = 0) (v := v) (n := (h 1 6).toNat) ⟨v1, by omega⟩ ((iso_iff G ⟨v1, v2⟩).mp hv)
    rw [cntP_cnt (fun v => h 11 v = 0) (h 1 6).toNat] at this
    show 0 ≤ nF h + cntP (fun v => h 11 v = 0) v.toNat ∧ nF h + cntP (fun v => h 11 v = 0) v.toNat < _
    omega
  · by_cases w : l < nF h
    · left
      obtain ⟨a, a1, a2, a3⟩ := cntP_ex (p := LdF h) (2 * h 1 7).toNat l l1 w
      refine ⟨a, a2.1, ?_⟩
      show cntP (LdF h) (Classical.choose (ld a)).toNat = l
      rw [same a a a2.1 a2 Orb.rf]
      rw [show ((a : Int)).toNat = a by omega]
      exact a3
    · right
      obtain ⟨a, a1, a2, a3⟩ := cntP_ex (p := fun v => h 11 v = 0) (h 1 6).toNat (l - nF h) (by omega) (by rw [cntP_cnt]; omega)
      refine ⟨a, ⟨by omega, by omega⟩, (iso_iff G ⟨by omega, by omega⟩).mpr a2, ?_⟩
      show nF h + cntP (fun v => h 11 v = 0) ((a : Int)).toNat = l
      rw [show ((a : Int)).toNat = a by omega, a3]
      omega
  · rw [sides_two G]
    unfold gnF at gz
    obtain ⟨X, eX⟩ : ∃ X, X = h 1 6 - h 1 8 + nF h + cnt (fun v => h 11 v = 0) (h 1 6).toNat := ⟨_, rfl⟩
    rw [← eX] at gz
    have : 2 * tr h 3 7 ≤ X := by
      rcases Int.le_total 0 X with z | z
      · rw [tdiv2 z] at gz
        omega
      · obtain ⟨y, rfl⟩ : ∃ y, X = -y := ⟨-X, by omega⟩
        rw [Int.neg_tdiv, tdiv2 (show (0 : Int) ≤ y by omega)] at gz
        omega
    omega
theorem EU_of {h : Hp} {R : Int → Nat → Int} (G : GI h R) (gz : gnF h = 0) : EU h := by
  intro T ⟨u, hu, hun⟩
  apply Classical.byContradiction
  intro no
  have g1 := G.1
  have pm := PM_of G
  have ce := CE_of G hu gz
  obtain ⟨nx', p', ce'⟩ := CE_all pm ce (D := fun s => h 6 s ∈ T ∨ h 6 (tw s) ∈ T) (fun s => by
    rw [tw_tw]
    exact ⟨fun z => z.symm, fun z => z.symm⟩) 100
  refine no_six p' ce' (X := fun v => v ∈ T) g1.1 u ⟨hu, hun⟩ (fun v v1 v2 hv s hs e => ?_) (fun v v1 v2 hv => ?_)
  · have := pm.1 s hs.1
    exact hs.2 ⟨Or.inl (by rw [e]; exact hv), by omega⟩
  · have vv : vOK h v := ⟨v1, v2⟩
    have hl : ¬ lef T h v ≤ 5 := fun z => no ⟨v, vv, hv, z⟩
    have hd := G.deg vv
    have ex : ∀ j : Nat, ∃ a : Nat, j < 6 → ((a : Int) < h 11 v ∧ nbr h v a ∉ T) ∧ cntP (fun k => nbr h v k.toNat ∉ T) a = j := by
      intro j
      by_cases hj : j < 6
      · obtain ⟨a, a1, a2, a3⟩ := cntP_ex (p := fun k => nbr h v k.toNat ∉ T) (h 11 v).toNat j (by omega) (by rw [cntP_cnt]; unfold lef at hl; omega)
        exact ⟨a, fun _ => ⟨⟨by omega, a2⟩, a3⟩⟩
      · exact ⟨0, fun z => absurd z hj⟩
    refine ⟨fun j => sk h v (Classical.choose (ex j)), fun j hj => ?_, fun i j hi hj e => ?_⟩
    · obtain ⟨⟨a1, a2⟩, a3⟩ := Classical.choose_spec (ex j) hj
      have hs := sk_S G vv a1
      refine ⟨⟨hs.1, fun z => ?_⟩, hs.2⟩
      rcases z.1 with q | q
      · rw [hs.2] at q
        exact hv q
      · exact a2 q
    · obtain ⟨⟨a1, a2⟩, a3⟩ := Classical.choose_spec (ex i) hi
      obtain ⟨⟨b1, b2⟩, b3⟩ := Classical.choose_spec (ex j) hj
      have e : sk h v (Classical.choose (ex i)) = sk h v (Classical.choose (ex j)) := e
      rw [sk_R G vv _ a1, sk_R G vv _ b1] at e
      have := (G.ring vv).2.1 _ _ a1 b1 e
      rw [this, b3] at a3
      omega

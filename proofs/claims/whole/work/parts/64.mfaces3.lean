/-! The reference's calls on faces: their contracts -/
noncomputable def nF (h : Hp) : Int := cntP (LdF h) (2 * h 1 7).toNat
theorem MFO_cong {g g' h h' : Hp} (m : MFO g h) (eS : Sd g' = Sd g) (eP : ph g' = ph g) (e17 : g' 1 7 = g 1 7) (e12 : h' 30 12 = h 30 12) (e37 : h' 37 = h 37) : MFO g' h' := by
  unfold MFO LdF at m ⊢
  rw [eS, eP, e17, e12, e37]
  exact m
/-- the graph's cells are the same -/
def Gs (h h' : Hp) : Prop := h' 1 = h 1 ∧ h' 6 = h 6 ∧ h' 7 = h 7 ∧ h' 8 = h 8 ∧ h' 9 = h 9 ∧ h' 10 = h 10 ∧ h' 11 = h 11
theorem Gs.of {M : List Nat} {h h' : Hp} (f : Fr M h h') (hM : ∀ k ∈ [1, 6, 7, 8, 9, 10, 11], k ∉ M) : Gs h h' := ⟨f 1 (hM 1 (by decide)), f 6 (hM 6 (by decide)), f 7 (hM 7 (by decide)), f 8 (hM 8 (by decide)), f 9 (hM 9 (by decide)), f 10 (hM 10 (by decide)), f 11 (hM 11 (by decide))⟩
theorem Gs.S {h h' : Hp} (g : Gs h h') : Sd h' = Sd h := Sd_cong (by rw [g.1]) g.2.2.2.2.1
theorem Gs.P {h h' : Hp} (g : Gs h h') : ph h' = ph h := ph_cong g.2.2.1
theorem Gs.L {h h' : Hp} (g : Gs h h') : LdF h' = LdF h := by unfold LdF; rw [g.S, g.P]
theorem Gs_nF {h h' : Hp} (g : Gs h h') : nF h' = nF h := by unfold nF; rw [g.L, g.1]
/-- what a call of the reference leaves of its own numbers: all but the code and its scratch ones -/
def Keep (h h' : Hp) : Prop := ∀ j, j ≠ 0 → j ≠ 12 → j ≠ 16 → j ≠ 20 → h' 30 j = h 30 j
theorem Keep.trans {a b c : Hp} (x : Keep a b) (y : Keep b c) : Keep a c := fun j h1 h2 h3 h4 => (y j h1 h2 h3 h4).trans (x j h1 h2 h3 h4)
theorem Keep.code {a b : Hp} {y : Int} (e : b = hup a 30 0 y) : Keep a b := fun j h1 _ _ _ => by rw [e, hup_o (fun z => h1 z.2)]
theorem Keep.ff {a b : Hp} (x : ∀ j, j ≠ 12 → b 30 j = a 30 j) : Keep a b := fun j _ h2 _ _ => x j h2
theorem Sy_keep {M : List Nat} {h h' : Hp} (s : Sy h) (f : Fr M h h') (hM : ∀ k ∈ [1, 6, 7, 8, 9, 10, 11, 31, 32, 33, 34, 35], k ∉ M) (k : Keep h h') : Sy h' := Sy_cong s (Scr.of f hM (k 1 (by decide) (by decide) (by decide) (by decide)) (k 2 (by decide) (by decide) (by decide) (by decide)) (k 3 (by decide) (by decide) (by decide) (by decide)))
def q_mfaces (h : Hp) (r : Int) (h' : Hp) : Prop := r = nF h ∧ Keep h h'
theorem ct_mfaces {l : Launch} (h : Hp) (hb : Sy h) : Ct l yX6_faces cX6_faces 1 (some .int) 3 69 0 [vr 30] h [30, 37] (fun r h1 => q_mfaces h r h1) (fun _ => False) := by
  refine w_X6_faces _ p_findFaces q_findFaces h ct_findFaces (fun _ => ?_)
  unfold V_X6_faces
  intro h1 e1
  have k1 : Keep h h1 := Keep.code e1
  have f1 : Fr [30, 37] h h1 := by rw [e1]; exact Fr.rf.up (by decide)
  refine ⟨Sy_keep hb f1 (by decide) k1, fun h3 f3 _ q3 => ⟨?_, k1.trans (Keep.ff q3.2)⟩⟩
  rw [q3.1.1]
  exact Gs_nF (Gs.of f1 (by decide))
/-- face f is there -/
def fOK (h : Hp) (f : Int) : Prop := 0 ≤ f ∧ f < nF h
def q_msides (f : Int) (h : Hp) (r : Int) (h' : Hp) : Prop := Keep h h' ∧ ((fOK h f ∧ h' 30 0 = 0 ∧ ∀ t n, LdF h t → cntP (LdF h) t.toNat = f → Per (ph h) t n → r = n) ∨ (¬ fOK h f ∧ h' 30 0 = 1))
theorem sidesOf_per {h : Hp} {R : Int → Nat → Int} (G : GI h R) (m : MFO h h) {f r t : Int} {n : Nat} (q : q_sidesOf f h r) (ht : LdF h t) (e : cntP (LdF h) t.toNat = f) (p : Per (ph h) t n) : r = n := by
  have q : r = cntP (fun s => Sd h s ∧ h 37 s = f) (2 * h 1 7).toNat := q
  rw [q, ← per_cnt G ht p]
  refine cntP_congr _ (fun k _ => ⟨fun z => ⟨z.1, ?_⟩, fun z => ⟨z.1, ?_⟩⟩)
  · exact (mfo_side G m z.1 ht).mp (by rw [e]; exact z.2)
  · rw [← e]; exact (mfo_side G m z.1 ht).mpr z.2
theorem ct_msides {l : Launch} (f : Int) (h : Hp) (hb : Sy h) : Ct l yX6_sides cX6_sides 2 (some .int) 3 69 0 [vr 30, vi f] h [30, 37] (fun r h1 => q_msides f h r h1) (fun _ => False) := by
  refine w_X6_sides _ p_findFaces q_findFaces p_sidesOf q_sidesOf h f ct_findFaces ct_sidesOf (fun _ _ => ?_)
  unfold V_X6_sides
  refine ⟨hb, fun h6 f6 _ q6 => ?_⟩
  have g6 : Gs h h6 := Gs.of f6 (by decide)
  have k6 : Keep h h6 := Keep.ff q6.2
  have e12 : h6 30 12 = nF h := q6.1.1
  have l21 : ¬ fOK h f → V_X6_sides_21 (fun r h1 => q_msides f h r h1) p_findFaces q_findFaces p_sidesOf q_sidesOf h6 f := by
    intro hn
    unfold V_X6_sides_21 V_X6_sides_22 V_X6_sides_41
    intro h1 e1
    have c1 : h1 30 0 = 1 := by rw [e1, hup_s]
    rw [c1]
    exact ⟨fun z => by omega, fun _ => ⟨k6.trans (Keep.code e1), Or.inr ⟨hn, c1⟩⟩⟩
  rw [e12]
  refine ⟨fun c => l21 (fun z => by have := z.1; omega), fun c => ⟨fun c1 => l21 (fun z => by have := z.2; omega), fun c1 => ?_⟩⟩
  unfold V_X6_sides_22 V_X6_sides_41
  intro h1 e1
  have c1' : h1 30 0 = 0 := by rw [e1, hup_s]
  rw [c1']
  have f1 : Fr [30, 37] h h1 := by rw [e1]; exact f6.up (by decide)
  have k1 : Keep h h1 := k6.trans (Keep.code e1)
  have g1 : Gs h h1 := Gs.of f1 (by decide)
  have S1 : Sy h1 := Sy_keep hb f1 (by decide) k1
  have m1 : MFO h1 h1 := MFO_cong q6.1 g1.S g1.P (by rw [g1.1]) (by rw [e1, hup_o (fun z => by have := z.2; omega)]) (by rw [e1, hup_k (by decide)])
  refine ⟨fun _ => ⟨⟨S1, m1⟩, fun r _ q => ⟨k1, Or.inl ⟨⟨by omega, by omega⟩, c1', fun t n ht et p => ?_⟩⟩⟩, fun z => absurd (Int.le_refl 0) z⟩
  obtain ⟨R, G1, -⟩ := S1
  rw [← g1.L] at ht et
  rw [← g1.P] at p
  exact sidesOf_per G1 m1 q ht et p
/-- side k of face f is there: its start -/
def q_mfrom (f k : Int) (h : Hp) (r : Int) (h' : Hp) : Prop := Keep h h' ∧ ((fOK h f ∧ 0 ≤ k ∧ h' 30 0 = 0 ∧ ∀ t n, LdF h t → cntP (LdF h) t.toNat = f → Per (ph h) t n → k < n ∧ r = h 6 (itF (ph h) k.toNat t)) ∨ ((fOK h f → 0 ≤ k → ∀ t n, LdF h t → cntP (LdF h) t.toNat = f → Per (ph h) t n → (n : Int) ≤ k) ∧ h' 30 0 = 1))
set_option maxHeartbeats 1000000 in
theorem ct_mfrom {l : Launch} (f k : Int) (h : Hp) (hb : Sy h) : Ct l yX6_from cX6_from 5 (some .int) 3 69 0 [vr 30, vi f, vi k] h [30, 37] (fun r h1 => q_mfrom f k h r h1) (fun _ => False) := by
  obtain ⟨R, G, mm⟩ := id hb
  have P := ph_perm G
  -- where the walk starts: any leader of f
  refine w_X6_from _ p_findFaces q_findFaces p_sidesOf q_sidesOf p_firstSide q_firstSide p_nextSide q_nextSide p_origin q_origin (fun n g x2 x3 x4 => x2 = k ∧ Keep h g ∧ g 30 0 = 0 ∧ Sy g ∧ ∃ (j : Nat) (t : Int), x4 = j ∧ (j : Int) ≤ k ∧ LdF h t ∧ cntP (LdF h) t.toNat = f ∧ (∀ n, Per (ph h) t n → k < n) ∧ fOK h f ∧ 0 ≤ k ∧ x3 = itF (ph h) j t ∧ n = (k.toNat - j)) h f k ct_findFaces ct_sidesOf ct_firstSide ct_nextSide ct_origin ?_ (fun _ _ _ => ?_)
  · rintro n g x2 x3 x4 - F - - - ⟨rfl, i1, i2, i3, j, t, rfl, i4, i5, i6, i7, i8, i9, rfl, i10⟩
    have gs : Gs h g := Gs.of F (by decide)
    have hs := P.it i5.1 j
    have hlt := Sd_lt G hs
    obtain ⟨per, pp, pN⟩ := P.per i5.1
    have hk := i7 per pp
    unfold V_X6_from_56
    refine ⟨fun c => ⟨hlt, fun r _ q => ⟨i1, Or.inl ⟨i8, i9, i2, fun t' n' ht' et' p' => ?_⟩⟩⟩, fun c => ⟨⟨i3, by rw [gs.S]; exact hs⟩, fun r _ q z ez => ⟨by unfold InR; omega, fun z7 e7 => ⟨x2.toNat - (j + 1), by omega, rfl, i1, i2, i3, j + 1, t, by omega, by omega, i5, i6, i7, i8, i9, ?_, rfl⟩⟩⟩⟩
    · have : t' = t := ld_inj ht' i5 (by rw [et', i6])
      subst this
      refine ⟨i7 n' p', ?_⟩
      have q : r = orgF g (itF (ph h) j t') := q
      obtain ⟨R3, G3, m3⟩ := i3
      rw [org_eq G3 m3 (by rw [gs.S]; exact hs), gs.2.1] at q
      rw [q, show x2.toNat = j by omega]
    · have q : r = ph g (itF (ph h) j t) := q
      rw [ez, q, gs.P]
      rfl
  · unfold V_X6_from
    refine ⟨hb, fun h6 f6 _ q6 => ?_⟩
    have g6 : Gs h h6 := Gs.of f6 (by decide)
    have k6 : Keep h h6 := Keep.ff q6.2
    have e12 : h6 30 12 = nF h := q6.1.1
    have S6 : Sy h6 := Sy_keep hb f6 (by decide) k6
    have m6 : MFO h6 h6 := MFO_cong q6.1 g6.S g6.P (by rw [g6.1]) rfl rfl
    have l34 : (fOK h f → 0 ≤ k → ∀ t n, LdF h t → cntP (LdF h) t.toNat = f → Per (ph h) t n → (n : Int) ≤ k) → V_X6_from_34 (fun r h1 => q_mfrom f k h r h1) p_findFaces q_findFaces p_sidesOf q_sidesOf p_firstSide q_firstSide p_nextSide q_nextSide p_origin q_origin (fun n g x2 x3 x4 => x2 = k ∧ Keep h g ∧ g 30 0 = 0 ∧ Sy g ∧ ∃ (j : Nat) (t : Int), x4 = j ∧ (j : Int) ≤ k ∧ LdF h t ∧ cntP (LdF h) t.toNat = f ∧ (∀ n, Per (ph h) t n → k < n) ∧ fOK h f ∧ 0 ≤ k ∧ x3 = itF (ph h) j t ∧ n = (k.toNat - j)) h6 f k := by
      intro hn
      unfold V_X6_from_34 V_X6_from_35
      intro h9 e9
      have c1 : h9 30 0 = 1 := by rw [e9, hup_s]
      rw [c1]
      exact ⟨fun z => by omega, fun _ => ⟨k6.trans (Keep.code e9), Or.inr ⟨hn, c1⟩⟩⟩
    rw [e12]
    refine ⟨fun c => l34 (fun z => by have := z.1; omega), fun c => ⟨fun c1 => l34 (fun z => by have := z.2; omega), fun c1 => ⟨fun c2 => l34 (fun _ z => by omega), fun c2 => ⟨⟨S6, m6⟩, fun r _ q => ?_⟩⟩⟩⟩
    obtain ⟨R6, G6, -⟩ := id S6
    have hr : ∀ t n, LdF h t → cntP (LdF h) t.toNat = f → Per (ph h) t n → r = n := fun t n ht et p => by
      rw [← g6.L] at ht et
      rw [← g6.P] at p
      exact sidesOf_per G6 m6 q ht et p
    refine ⟨fun c3 => l34 (fun _ _ t n ht et p => by have := hr t n ht et p; omega), fun c3 => ?_⟩
    unfold V_X6_from_35
    intro h9 e9
    have c9 : h9 30 0 = 0 := by rw [e9, hup_s]
    rw [c9]
    have f9 : Fr [30, 37] h h9 := by rw [e9]; exact f6.up (by decide)
    have k9 : Keep h h9 := k6.trans (Keep.code e9)
    have g9 : Gs h h9 := Gs.of f9 (by decide)
    have S9 : Sy h9 := Sy_keep hb f9 (by decide) k9
    have m9 : MFO h9 h9 := MFO_cong q6.1 g9.S g9.P (by rw [g9.1]) (by rw [e9, hup_o (fun z => by have := z.2; omega)]) (by rw [e9, hup_k (by decide)])
    have e912 : h9 30 12 = nF h := by rw [e9, hup_o (fun z => by have := z.2; omega)]; exact e12
    refine ⟨fun _ => ⟨⟨S9, m9, by omega, by omega⟩, fun r2 _ q2 z ez z2 e2 => ?_⟩, fun z => absurd (Int.le_refl 0) z⟩
    obtain ⟨w1, w2⟩ := q2
    rw [g9.L] at w1 w2
    refine ⟨k.toNat, rfl, k9, c9, S9, 0, r2, e2, by omega, w1, w2, fun n p => ?_, ⟨by omega, by omega⟩, by omega, ez, rfl⟩
    have := hr r2 n w1 w2 p
    omega

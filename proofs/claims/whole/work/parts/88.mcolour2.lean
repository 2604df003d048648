/-! The reference's colour and exchange -/
/-- the reference's numbers but code, exchanges and scratch -/
def KC (h g : Hp) : Prop := ∀ j, j ≠ 0 → j ≠ 10 → j ≠ 12 → j ≠ 16 → j ≠ 20 → g 30 j = h 30 j
theorem KC_Sy {h g : Hp} {M : List Nat} (s : Sy h) (f : Fr M h g) (hM : ∀ k ∈ [1, 6, 7, 8, 9, 10, 11, 31, 32, 33, 34, 35], k ∉ M) (k : KC h g) : Sy g := Sy_cong s (Scr.of f hM (k 1 (by decide) (by decide) (by decide) (by decide) (by decide)) (k 2 (by decide) (by decide) (by decide) (by decide) (by decide)) (k 3 (by decide) (by decide) (by decide) (by decide) (by decide)))
theorem Gs.sm {a b : Hp} (x : Gs a b) : Gs b a := ⟨x.1.symm, x.2.1.symm, x.2.2.1.symm, x.2.2.2.1.symm, x.2.2.2.2.1.symm, x.2.2.2.2.2.1.symm, x.2.2.2.2.2.2.symm⟩
theorem all_in {h : Hp} {R : Int → Nat → Int} (G : GI h R) {L : List Int} (a : VL h L) (e : (L.length : Int) = h 1 6) {v : Int} (hv : vOK h v) : v ∈ L := by
  apply Classical.byContradiction
  intro z
  have := VL_len G (VL_add a hv z)
  rw [List.length_append] at this
  have h1 : ([v] : List Int).length = 1 := rfl
  omega
def p_mcolour (h : Hp) : Prop := Sy h ∧ (gnF h = 0 → EU h)
def q_mcolour (h : Hp) (r : Int) (h' : Hp) : Prop := KC h h' ∧ ((gnF h ≠ 0 ∧ h' 30 0 = 1 ∧ nc h' 36 = nc h 36 ∧ h' 30 10 = h 30 10) ∨ (gnF h = 0 ∧ h' 30 0 = 0 ∧ ColA h (nc h' 36) (h' 30 10) ∧ r = ccF (nc h' 36)))
set_option maxHeartbeats 4000000 in
theorem ct_mcolour {l : Launch} (h : Hp) (hb : p_mcolour h) : Ct l yX6_colour cX6_colour 4 (some .int) 4 91 0 [vr 30] h [30, 36, 37, 38, 39, 40, 41, 42, 43] (fun r h1 => q_mcolour h r h1) (fun _ => False) := by
  obtain ⟨sy, heu⟩ := hb
  obtain ⟨R, G, m⟩ := id sy
  have g1 := G.1
  have m1 : h 30 1 = h 1 6 := m.1
  refine w_X6_colour _ Sy q_genusOf p_around q_around p_free q_free p_makeFree q_makeFree Sy q_colourCount
    (fun n g x1 => gnF h = 0 ∧ KC h g ∧ g 30 0 = 0 ∧ g 30 10 = 0 ∧ ∃ k : Nat, x1 = k ∧ (k : Int) ≤ h 1 6 ∧ (∀ w : Int, 0 ≤ w → w < k → g 42 w = 1 ∧ g 36 w = 0) ∧ n = 30 - k)
    (fun n g x1 => gnF h = 0 ∧ KC h g ∧ g 30 0 = 0 ∧ g 30 10 = 0 ∧ (∀ u, nc g 36 u = 0) ∧ ∃ L : List Int, x1 = (L.length : Nat) ∧ (L.length : Int) ≤ h 1 6 ∧ Ord h L ∧ HrI g L ∧ (∀ i : Nat, i < L.length → L[i]? = some (g 41 i)) ∧ n = 30 - L.length)
    (fun n62 n g x1 x2 => gnF h = 0 ∧ KC h g ∧ g 30 0 = 0 ∧ g 30 10 = 0 ∧ (∀ u, nc g 36 u = 0) ∧ ∃ (L : List Int) (k : Nat), x1 = (L.length : Nat) ∧ (L.length : Int) < h 1 6 ∧ Ord h L ∧ HrI g L ∧ (∀ i : Nat, i < L.length → L[i]? = some (g 41 i)) ∧ n62 = 30 - L.length ∧ x2 = k ∧ (∀ u : Int, u < k → ¬ Can L h u) ∧ n = 30 - k)
    (fun n g x1 => gnF h = 0 ∧ KC h g ∧ g 30 0 = 0 ∧ ∃ (L : List Int) (i : Nat), x1 = (i : Int) - 1 ∧ i ≤ L.length ∧ Ord h L ∧ (L.length : Int) = h 1 6 ∧ (∀ j : Nat, j < L.length → L[j]? = some (g 41 j)) ∧ CR (nc g 36) ∧ (∀ w, vOK h w → (nc g 36 w = 0 ↔ w ∈ L.take i)) ∧ HC g ∧ (0 ≤ g 30 10 ∧ g 30 10 ≤ (L.length : Int) - i) ∧ (∀ c' x', BBs h L i (nc g 36) (g 30 10) c' x' → BBs h L L.length (fun _ => 0) 0 c' x') ∧ n = i) h ct_genusOf ct_around ct_free ct_makeFree ct_colourCount ?_ ?_ ?_ ?_ (fun _ => ?_)
  · rintro n g x1 - F - ⟨gz, kc, k0, k10, k, rfl, i1, i2, i3⟩
    have e1 : g 30 1 = h 1 6 := by rw [kc 1 (by decide) (by decide) (by decide) (by decide) (by decide)]; exact m1
    unfold V_X6_colour_32
    rw [e1]
    refine ⟨fun c z38 e38 => ⟨30, gz, kc, k0, k10, fun u => ?_, [], by rw [e38]; rfl, g1.1, Ord_nil, fun v v1 v2 => ?_, fun i hi => absurd hi (Nat.not_lt_zero _), rfl⟩, fun c => ⟨by omega, fun h40 e40 => ⟨by omega, fun h42 e42 => ⟨by unfold InR; omega, fun z ez => ⟨30 - (k + 1), by omega, gz, ?_, ?_, ?_, k + 1, by omega, by omega, fun w w1 w2 => ?_, rfl⟩⟩⟩⟩⟩
    · unfold nc
      rw [F 1 (by decide)]
      by_cases w : 0 ≤ u ∧ u < h 1 6
      · rw [if_pos w, (i2 u w.1 (by omega)).2]
      · rw [if_neg w]
    · rw [F 1 (by decide)] at v2
      rw [(i2 v v1 (by omega)).1, if_neg List.not_mem_nil]
    · intro j a b c d e
      rw [e42, hup_k (by decide), e40, hup_k (by decide)]
      exact kc j a b c d e
    · rw [e42, hup_k (by decide), e40, hup_k (by decide)]; exact k0
    · rw [e42, hup_k (by decide), e40, hup_k (by decide)]; exact k10
    · rw [e42, e40]
      by_cases z : w = k
      · rw [z]
        exact ⟨by rw [hup_k (by decide), hup_s], by rw [hup_s]⟩
      · rw [hup_k (by decide), hup_o (fun q => z q.2), hup_o (fun q => z q.2), hup_k (by decide)]
        exact i2 w w1 (by omega)
  · rintro n g x1 - F - ⟨gz, kc, k0, k10, c0, L, rfl, i1, i2, i3, i4, i5⟩
    have e1 : g 30 1 = h 1 6 := by rw [kc 1 (by decide) (by decide) (by decide) (by decide) (by decide)]; exact m1
    have ec0 : nc g 36 = fun _ => 0 := funext c0
    unfold V_X6_colour_62
    rw [e1]
    refine ⟨fun c => ⟨by unfold InR; omega, fun z35 e35 => ⟨L.length, gz, kc, k0, L, L.length, by omega, Nat.le_refl _, i2, by omega, i4, ?_, fun w hw => ?_, fun w hw => ?_, by omega, ?_, rfl⟩⟩, fun c z36 e36 => ⟨30, gz, kc, k0, k10, c0, L, 0, rfl, by omega, i2, i3, i4, i5, e36, fun u hu z => by have := z.1; unfold vOK at this; omega, rfl⟩⟩
    · intro u
      rw [c0]
      omega
    · rw [c0, List.take_of_length_le (Nat.le_refl _)]
      exact ⟨fun _ => all_in G (Ord_VL i2) (by omega) hw, fun _ => rfl⟩
    · have hw' : vOK h w := by unfold vOK at hw ⊢; rw [F 1 (by decide)] at hw; exact hw
      have hm := all_in G (Ord_VL i2) (by omega) hw'
      unfold vOK at hw
      rw [c0, i3 w hw.1 hw.2, if_pos hm]
    · intro c' x' z
      rw [ec0, k10] at z
      exact z
  · rintro n62 n g x1 x2 - F - - ⟨gz, kc, k0, k10, c0, L, k, rfl, i1, i2, i3, i4, i5, rfl, i6, i7⟩
    have gs : Gs h g := Gs.of F (by decide)
    have sg : Sy g := KC_Sy sy F (by decide) kc
    obtain ⟨v, hv⟩ := heu gz L (out_ex i1)
    have hvv := hv.1
    unfold vOK at hvv
    have hkv : (k : Int) ≤ v := by
      rcases Int.lt_or_le v k with z | z
      · exact absurd hv (i6 v z)
      · exact z
    have vk : vOK h k := ⟨by omega, by omega⟩
    have f42 := i3 k (by omega) (by rw [gs.1]; omega)
    have next : ¬ Can L h k → V_X6_colour_90 (fun r h1 => q_mcolour h r h1) Sy q_genusOf p_around q_around p_free q_free p_makeFree q_makeFree Sy q_colourCount
        (fun n g x1 => gnF h = 0 ∧ KC h g ∧ g 30 0 = 0 ∧ g 30 10 = 0 ∧ ∃ k : Nat, x1 = k ∧ (k : Int) ≤ h 1 6 ∧ (∀ w : Int, 0 ≤ w → w < k → g 42 w = 1 ∧ g 36 w = 0) ∧ n = 30 - k)
        (fun n g x1 => gnF h = 0 ∧ KC h g ∧ g 30 0 = 0 ∧ g 30 10 = 0 ∧ (∀ u, nc g 36 u = 0) ∧ ∃ L : List Int, x1 = (L.length : Nat) ∧ (L.length : Int) ≤ h 1 6 ∧ Ord h L ∧ HrI g L ∧ (∀ i : Nat, i < L.length → L[i]? = some (g 41 i)) ∧ n = 30 - L.length)
        (fun n62 n g x1 x2 => gnF h = 0 ∧ KC h g ∧ g 30 0 = 0 ∧ g 30 10 = 0 ∧ (∀ u, nc g 36 u = 0) ∧ ∃ (L : List Int) (k : Nat), x1 = (L.length : Nat) ∧ (L.length : Int) < h 1 6 ∧ Ord h L ∧ HrI g L ∧ (∀ i : Nat, i < L.length → L[i]? = some (g 41 i)) ∧ n62 = 30 - L.length ∧ x2 = k ∧ (∀ u : Int, u < k → ¬ Can L h u) ∧ n = 30 - k)
        (fun n g x1 => gnF h = 0 ∧ KC h g ∧ g 30 0 = 0 ∧ ∃ (L : List Int) (i : Nat), x1 = (i : Int) - 1 ∧ i ≤ L.length ∧ Ord h L ∧ (L.length : Int) = h 1 6 ∧ (∀ j : Nat, j < L.length → L[j]? = some (g 41 j)) ∧ CR (nc g 36) ∧ (∀ w, vOK h w → (nc g 36 w = 0 ↔ w ∈ L.take i)) ∧ HC g ∧ (0 ≤ g 30 10 ∧ g 30 10 ≤ (L.length : Int) - i) ∧ (∀ c' x', BBs h L i (nc g 36) (g 30 10) c' x' → BBs h L L.length (fun _ => 0) 0 c' x') ∧ n = i) n62 n g (L.length : Nat) k := by
      intro hn
      unfold V_X6_colour_90
      refine ⟨by unfold InR; omega, fun z ez => ⟨30 - (k + 1), by omega, gz, kc, k0, k10, c0, L, k + 1, rfl, i1, i2, i3, i4, i5, by omega, fun u hu => ?_, rfl⟩⟩
      by_cases w : u = k
      · rw [w]; exact hn
      · exact i6 u (by omega)
    unfold V_X6_colour_72
    refine ⟨by omega, fun c => next (fun z => ?_), fun c => ⟨⟨sg, by unfold vOK; rw [gs.1]; exact vk⟩, fun r25 _ q25 => ?_⟩⟩
    · rw [f42, if_neg z.2.1] at c
      omega
    · have q25 := q25 L i3
      rw [lef_gs gs] at q25
      refine ⟨fun c1 => ⟨by omega, fun h28 e28 => ⟨by omega, fun h30 e30 => ⟨by unfold InR; omega, fun z31 e31 => ?_⟩⟩⟩, fun c1 => next (fun z => ?_)⟩
      · have nm : (k : Int) ∉ L := by
          intro z
          rw [f42, if_pos z] at c
          exact c rfl
        have nx : Nx L h k := ⟨⟨vk, nm, by omega⟩, i6⟩
        refine ⟨30 - (L.length + 1), by omega, gz, fun j a b c d e => by rw [e30, hup_k (by decide), e28, hup_k (by decide)]; exact kc j a b c d e, by rw [e30, hup_k (by decide), e28, hup_k (by decide)]; exact k0, by rw [e30, hup_k (by decide), e28, hup_k (by decide)]; exact k10, fun u => ?_, L ++ [(k : Int)], ?_, ?_, Ord_add i2 nx, fun v v1 v2 => ?_, fun i hi => ?_, ?_⟩
        · rw [nc_cong (h := g) (by rw [e30, hup_k (by decide), e28, hup_k (by decide)]) (by rw [e30, hup_k (by decide), e28, hup_k (by decide)])]
          exact c0 u
        · rw [e31, List.length_append]; rfl
        · rw [List.length_append]
          show ((L.length + 1 : Nat) : Int) ≤ _
          omega
        · rw [e30, hup_k (by decide), e28, hup_k (by decide)] at v2
          rw [e30, hup_k (by decide), e28]
          by_cases z : v = k
          · rw [z, hup_s, if_pos (List.mem_append_right _ (List.mem_singleton.mpr rfl))]
          · rw [hup_o (fun q => z q.2), i3 v v1 v2]
            have : v ∈ L ++ [(k : Int)] ↔ v ∈ L := by
              rw [List.mem_append, List.mem_singleton]
              exact ⟨fun y => y.resolve_right z, Or.inl⟩
            by_cases y : v ∈ L
            · rw [if_pos y, if_pos (this.mpr y)]
            · rw [if_neg y, if_neg (fun q => y (this.mp q))]
        · rw [List.length_append] at hi
          have h1 : ([(k : Int)] : List Int).length = 1 := rfl
          rw [e30]
          by_cases z : i = L.length
          · subst z
            rw [hup_s, List.getElem?_append_right (Nat.le_refl _), Nat.sub_self]
            rfl
          · have hl : i < L.length := by omega
            rw [hup_o (fun y => z (by have := y.2; omega)), List.getElem?_append_left hl, e28, hup_k (by decide)]
            exact i4 i hl
        · rw [List.length_append]; rfl
      · have := z.2.2
        omega
  · rintro n g x1 - F - ⟨gz, kc, k0, L, i, rfl, i1, i2, i3, i4, i5, i6, i7, i8, i9, i10⟩
    have gs : Gs h g := Gs.of F (by decide)
    have sg : Sy g := KC_Sy sy F (by decide) kc
    unfold V_X6_colour_123
    refine ⟨fun c => ⟨sg, fun r10 _ q10 => ⟨kc, Or.inr ⟨gz, k0, ⟨L, i2, i3, ?_⟩, q10⟩⟩⟩, fun c => ⟨by omega, fun z12 e12 => ?_⟩⟩
    · have : i = 0 := by omega
      subst this
      exact i9 _ _ ⟨rfl, rfl⟩
    · have ei : (i : Int) - 1 = ((i - 1 : Nat) : Int) := by omega
      have li := i4 (i - 1) (by omega)
      rw [← ei, ← e12] at li
      have hv : vOK h z12 := (Ord_VL i2).2 _ (List.mem_of_getElem? li)
      have hvg : vOK g z12 := by unfold vOK; rw [gs.1]; exact hv
      have hv' := hv
      unfold vOK at hv'
      have fin : ∀ (g' : Hp) (y : Int) (x : Int), Fr [30, 36, 37, 38, 39, 40, 41, 42, 43] h g' → KC h g' → g' 30 0 = 0 → g' 30 10 = g 30 10 + x → g' 41 = g 41 → g' 42 = g 42 → BB h (nc g 36) z12 (upc (nc g' 36) z12 y) x → V_X6_colour_153 (fun r h1 => q_mcolour h r h1) Sy q_genusOf p_around q_around p_free q_free p_makeFree q_makeFree Sy q_colourCount
          (fun n g x1 => gnF h = 0 ∧ KC h g ∧ g 30 0 = 0 ∧ g 30 10 = 0 ∧ ∃ k : Nat, x1 = k ∧ (k : Int) ≤ h 1 6 ∧ (∀ w : Int, 0 ≤ w → w < k → g 42 w = 1 ∧ g 36 w = 0) ∧ n = 30 - k)
          (fun n g x1 => gnF h = 0 ∧ KC h g ∧ g 30 0 = 0 ∧ g 30 10 = 0 ∧ (∀ u, nc g 36 u = 0) ∧ ∃ L : List Int, x1 = (L.length : Nat) ∧ (L.length : Int) ≤ h 1 6 ∧ Ord h L ∧ HrI g L ∧ (∀ i : Nat, i < L.length → L[i]? = some (g 41 i)) ∧ n = 30 - L.length)
          (fun n62 n g x1 x2 => gnF h = 0 ∧ KC h g ∧ g 30 0 = 0 ∧ g 30 10 = 0 ∧ (∀ u, nc g 36 u = 0) ∧ ∃ (L : List Int) (k : Nat), x1 = (L.length : Nat) ∧ (L.length : Int) < h 1 6 ∧ Ord h L ∧ HrI g L ∧ (∀ i : Nat, i < L.length → L[i]? = some (g 41 i)) ∧ n62 = 30 - L.length ∧ x2 = k ∧ (∀ u : Int, u < k → ¬ Can L h u) ∧ n = 30 - k)
          (fun n g x1 => gnF h = 0 ∧ KC h g ∧ g 30 0 = 0 ∧ ∃ (L : List Int) (i : Nat), x1 = (i : Int) - 1 ∧ i ≤ L.length ∧ Ord h L ∧ (L.length : Int) = h 1 6 ∧ (∀ j : Nat, j < L.length → L[j]? = some (g 41 j)) ∧ CR (nc g 36) ∧ (∀ w, vOK h w → (nc g 36 w = 0 ↔ w ∈ L.take i)) ∧ HC g ∧ (0 ≤ g 30 10 ∧ g 30 10 ≤ (L.length : Int) - i) ∧ (∀ c' x', BBs h L i (nc g 36) (g 30 10) c' x' → BBs h L L.length (fun _ => 0) 0 c' x') ∧ n = i) n g' ((i : Int) - 1) z12 y := by
        intro g' y x F' kc' k0' k10' e41 e42 bb
        obtain ⟨ok1, ok2, ok3⟩ := BB_ok G hv i5 bb
        have gs' : Gs h g' := Gs.of F' (by decide)
        unfold V_X6_colour_153
        refine fun z1 e1 => ⟨by omega, fun h3 e3 => ⟨by omega, fun h5 e5 => ⟨by unfold InR; omega, fun z6 e6 => ?_⟩⟩⟩
        have enc : nc h5 36 = upc (nc g' 36) z12 y := by
          rw [nc_cong (h := h3) (by rw [e5, hup_k (by decide)]) (by rw [e5, hup_k (by decide)]), nc_up (h := g') (by unfold vOK; rw [gs'.1]; exact hv) e3 (by decide), e1]
        have k30 : h5 30 = g' 30 := by rw [e5, hup_k (by decide), e3, hup_k (by decide)]
        have k1 : h5 1 = h 1 := by rw [e5, hup_k (by decide), e3, hup_k (by decide)]; exact gs'.1
        have cz : ∀ w, vOK h w → (nc h5 36 w = 0 ↔ w ∈ L.take (i - 1)) := by
          intro w hw
          have a1 := ok3 w
          have a2 := i6 w hw
          have a3 := mem_take_iff (w := w) (Ord_VL i2).1 li
          rw [show i - 1 + 1 = i by omega] at a3
          have a4 := not_mem_take (Ord_VL i2).1 li
          rw [enc]
          constructor
          · intro z
            have nz : ¬ (nc g 36 w ≠ 0 ∨ w = z12) := fun q => (a1.mpr q) z
            have z0 : nc g 36 w = 0 := Classical.byContradiction (fun q => nz (Or.inl q))
            rcases a3.mp (a2.mp z0) with q | q
            · exact q
            · exact absurd (Or.inr q) nz
          · intro z
            apply Classical.byContradiction
            intro q
            rcases a1.mp q with p | p
            · exact p (a2.mpr (a3.mpr (Or.inl z)))
            · rw [p] at z; exact a4 z
        refine ⟨i - 1, by omega, gz, fun j a b c d e => by rw [k30]; exact kc' j a b c d e, by rw [k30]; exact k0', L, i - 1, by omega, by omega, i2, i3, fun j hj => by rw [e5, hup_k (by decide), e3, hup_k (by decide), e41]; exact i4 j hj, by rw [enc]; exact ok1, cz, fun w hw => ?_, by rw [k30, k10']; omega, fun c' x' z => i9 c' x' ?_, rfl⟩
        · have hw' : vOK h w := by unfold vOK at hw ⊢; rw [k1] at hw; exact hw
          by_cases q : w = z12
          · rw [q, e5, hup_s, ← e5, enc]
            refine ⟨fun z => by omega, fun z => ?_⟩
            exact absurd z ((ok3 z12).mpr (Or.inr rfl))
          · rw [e5, hup_o (fun p => q p.2), ← e5, e3, hup_k (by decide), e42, i7 w (by unfold vOK; rw [gs.1]; exact hw'), enc]
            have a1 := ok3 w
            constructor
            · intro z
              exact Classical.byContradiction (fun p => by rcases a1.mp p with p | p; exact p z; exact q p)
            · intro z
              exact Classical.byContradiction (fun p => (a1.mpr (Or.inl p)) z)
        · rw [show i = (i - 1) + 1 by omega]
          rw [k30, k10', enc] at z
          exact ⟨_, _, x, li, bb, z⟩
      refine ⟨⟨sg, hvg, i7⟩, fun r14 _ q14 z15 e15 => ⟨fun c1 => ?_, fun c1 => ?_⟩⟩
      · rw [e15] at c1 ⊢
        have fr : Fre g (nc g 36) z12 r14 := by
          rcases q14 with q | q
          · exact q
          · exact absurd q.1 c1
        exact fin g r14 0 F kc k0 (by omega) rfl rfl (Or.inl ⟨r14, (Fre_gs gs).mp fr, rfl, rfl⟩)
      · have nf : Nof g (nc g 36) z12 := by
          rcases q14 with q | q
          · have := q.1; omega
          · exact q.2
        refine ⟨⟨sg, hvg, i7, nf, i5, by omega⟩, fun r18 h19 f19 _ _ q19 => ?_⟩
        obtain ⟨⟨a, b, s1, s2, s3⟩, s4, s5⟩ := q19
        refine fin h19 r18 1 (F.trans f19 (by decide)) (fun j a b c d e => by rw [s5 j b e]; exact kc j a b c d e) (by rw [s5 0 (by decide) (by decide)]; exact k0) s4 (f19 41 (by decide)) (f19 42 (by decide)) (Or.inr ⟨(Nof_gs gs).mp nf, a, b, (SEL_gs gs).mp s1, ?_, rfl⟩)
        rw [s3, s2, CH_gs gs]
  · unfold V_X6_colour
    refine ⟨sy, fun r50 h51 f51 _ _ q51 => ?_⟩
    obtain ⟨q1, q2, q3, -, -⟩ := q51
    have key : ∀ y, V_X6_colour_13 (fun r h1 => q_mcolour h r h1) Sy q_genusOf p_around q_around p_free q_free p_makeFree q_makeFree Sy q_colourCount
        (fun n g x1 => gnF h = 0 ∧ KC h g ∧ g 30 0 = 0 ∧ g 30 10 = 0 ∧ ∃ k : Nat, x1 = k ∧ (k : Int) ≤ h 1 6 ∧ (∀ w : Int, 0 ≤ w → w < k → g 42 w = 1 ∧ g 36 w = 0) ∧ n = 30 - k)
        (fun n g x1 => gnF h = 0 ∧ KC h g ∧ g 30 0 = 0 ∧ g 30 10 = 0 ∧ (∀ u, nc g 36 u = 0) ∧ ∃ L : List Int, x1 = (L.length : Nat) ∧ (L.length : Int) ≤ h 1 6 ∧ Ord h L ∧ HrI g L ∧ (∀ i : Nat, i < L.length → L[i]? = some (g 41 i)) ∧ n = 30 - L.length)
        (fun n62 n g x1 x2 => gnF h = 0 ∧ KC h g ∧ g 30 0 = 0 ∧ g 30 10 = 0 ∧ (∀ u, nc g 36 u = 0) ∧ ∃ (L : List Int) (k : Nat), x1 = (L.length : Nat) ∧ (L.length : Int) < h 1 6 ∧ Ord h L ∧ HrI g L ∧ (∀ i : Nat, i < L.length → L[i]? = some (g 41 i)) ∧ n62 = 30 - L.length ∧ x2 = k ∧ (∀ u : Int, u < k → ¬ Can L h u) ∧ n = 30 - k)
        (fun n g x1 => gnF h = 0 ∧ KC h g ∧ g 30 0 = 0 ∧ ∃ (L : List Int) (i : Nat), x1 = (i : Int) - 1 ∧ i ≤ L.length ∧ Ord h L ∧ (L.length : Int) = h 1 6 ∧ (∀ j : Nat, j < L.length → L[j]? = some (g 41 j)) ∧ CR (nc g 36) ∧ (∀ w, vOK h w → (nc g 36 w = 0 ↔ w ∈ L.take i)) ∧ HC g ∧ (0 ≤ g 30 10 ∧ g 30 10 ≤ (L.length : Int) - i) ∧ (∀ c' x', BBs h L i (nc g 36) (g 30 10) c' x' → BBs h L L.length (fun _ => 0) 0 c' x') ∧ n = i) h51 y ∨ ((y = 0 → gnF h ≠ 0) ∧ (y ≠ 0 → gnF h = 0 ∨ y ≠ 1)) := by
      intro y
      by_cases hy : y = 0
      · subst hy
        by_cases gz : gnF h = 0
        · left
          unfold V_X6_colour_13
          refine fun h45 e45 => ⟨fun c h47 e47 z48 e48 => ⟨30, gz, fun j a b c d e => ?_, ?_, by rw [e47, hup_s], 0, e48, by omega, fun w w1 w2 => by omega, rfl⟩, fun c => absurd (by rw [e45, hup_s]; omega) c⟩
          · rw [e47, hup_o (fun z => b z.2), e45, hup_o (fun z => a z.2)]
            exact q2 j a c d e
          · rw [e47, hup_o (fun z => by have := z.2; omega), e45, hup_s]
        · right
          exact ⟨fun _ => gz, fun z => absurd rfl z⟩
      · by_cases gz : gnF h = 0
        · right
          exact ⟨fun z => absurd z hy, fun _ => Or.inl gz⟩
        · by_cases h1 : y = 1
          · left
            subst h1
            unfold V_X6_colour_13
            refine fun h45 e45 => ⟨fun c => absurd c (by rw [e45, hup_s]; omega), fun c => ⟨fun j a b c d e => ?_, Or.inl ⟨gz, by rw [e45, hup_s], ?_, ?_⟩⟩⟩
            · rw [e45, hup_o (fun z => a z.2)]
              exact q2 j a c d e
            · exact nc_cong (by rw [e45, hup_k (by decide), f51 36 (by decide)]) (by rw [e45, hup_k (by decide), f51 1 (by decide)])
            · rw [e45, hup_o (fun z => by have := z.2; omega)]
              exact q2 10 (by decide) (by decide) (by decide) (by decide)
          · right
            exact ⟨fun z => absurd z hy, fun _ => Or.inr h1⟩
    refine ⟨fun c => ?_, fun c => ?_⟩
    · rcases key 1 with z | z
      · exact z
      · rcases z.2 (by decide) with p | p
        · exact absurd (q1.trans p) c
        · exact absurd rfl p
    · rcases key 0 with z | z
      · exact z
      · exact absurd (q1.symm.trans c) (z.1 rfl)
-- exchange
def XC (h : Hp) (c : Int → Int) (v y : Int) : Prop := c v ≠ 0 ∧ 1 ≤ y ∧ y ≤ 5 ∧ y ≠ c v
def p_mexch (_ _ : Int) (h : Hp) : Prop := Sy h ∧ CR (nc h 36)
def q_mexch (v y : Int) (h : Hp) (r : Int) (h' : Hp) : Prop := (∀ j, j ≠ 0 → j ≠ 20 → h' 30 j = h 30 j) ∧ ((¬ isV h v ∧ h' 30 0 = 1 ∧ nc h' 36 = nc h 36) ∨ (isV h v ∧ ¬ XC h (nc h 36) v y ∧ h' 30 0 = 2 ∧ nc h' 36 = nc h 36) ∨ (isV h v ∧ XC h (nc h 36) v y ∧ h' 30 0 = 0 ∧ r = (CH h (nc h 36) v y).length ∧ nc h' 36 = Sw (nc h 36) (CH h (nc h 36) v y) (nc h 36 v) y))
set_option maxHeartbeats 1000000 in
theorem ct_mexch {l : Launch} (v y : Int) (h : Hp) (hb : p_mexch v y h) : Ct l yX6_exchange cX6_exchange 4 (some .int) 2 49 0 [vr 30, vi v, vi y] h [30, 36, 40, 42, 43] (fun r h1 => q_mexch v y h r h1) (fun _ => False) := by
  obtain ⟨sy, cr⟩ := hb
  obtain ⟨R, G, m⟩ := id sy
  have g1 := G.1
  have m1 : h 30 1 = h 1 6 := m.1
  refine w_X6_exchange _ (fun _ _ => True) q_isVertex p_findChain q_findChain p_changeChain q_changeChain
    (fun n g x1 x2 x3 => x1 = v ∧ x2 = y ∧ isV h v ∧ XC h (nc h 36) v y ∧ g 30 0 = 0 ∧ (∀ j, j ≠ 0 → j ≠ 20 → g 30 j = h 30 j) ∧ g 36 = h 36 ∧ ∃ k : Nat, x3 = k ∧ (k : Int) ≤ h 1 6 ∧ (∀ w : Int, 0 ≤ w → w < k → g 42 w = 1) ∧ n = 30 - k) h v y (fun v g _ => ct_isVertex v g) ct_findChain ct_changeChain ?_ (fun _ _ _ => ?_)
  · rintro n g x1 x2 x3 - F - - - ⟨rfl, rfl, hv, xc, k0, kk, e36, k, rfl, i1, i2, i3⟩
    have gs : Gs h g := Gs.of F (by decide)
    have e1 : g 30 1 = h 1 6 := by rw [kk 1 (by decide) (by decide)]; exact m1
    have sg : Sy g := Sy_keep sy F (by decide) (fun j a _ _ d => kk j a d)
    have hvv : vOK h x1 := by unfold isV at hv; rw [m1] at hv; exact hv
    have hvv' := hvv
    unfold vOK at hvv'
    have enc : nc g 36 = nc h 36 := nc_cong e36 gs.1
    unfold V_X6_exchange_61
    rw [e1, e36, ← nc_v (k := 36) hvv]
    refine ⟨fun c => ⟨by omega, fun z3 e3 => ⟨⟨sg, by unfold vOK; rw [gs.1]; exact hvv, by rw [enc]; exact e3, fun w hw _ => ?_⟩, fun h5 f5 _ q5 => ?_⟩⟩, fun c => ⟨by omega, fun h9 e9 => ⟨by unfold InR; omega, fun z ez => ⟨30 - (k + 1), by omega, rfl, rfl, hv, xc, by rw [e9, hup_k (by decide)]; exact k0, fun j a b => by rw [e9, hup_k (by decide)]; exact kk j a b, by rw [e9, hup_k (by decide)]; exact e36, k + 1, by omega, by omega, fun w w1 w2 => ?_, rfl⟩⟩⟩⟩
    · unfold vOK at hw
      rw [gs.1] at hw
      rw [i2 w hw.1 (by omega)]
      omega
    · have cl := q5.1
      rw [enc, CH_gs gs] at cl
      have s5 : Sy h5 := Sy_keep sg f5 (by decide) (Keep.fc q5.2)
      have vl := (CH_ok G (c := nc h 36) (y := x2) hvv).1
      have enc5 : nc h5 36 = nc h 36 := by rw [nc_cong (h := g) (f5 36 (by decide)) (f5 1 (by decide))]; exact enc
      refine ⟨⟨s5, ⟨_, cl⟩, by rw [e3]; exact cr x1, ⟨by have := xc.2.1; omega, xc.2.2.1⟩, by rw [enc5]; exact cr⟩, fun h7 f7 _ q7 => ⟨fun j a b => ?_, Or.inr (Or.inr ⟨hv, xc, ?_, ?_, ?_⟩)⟩⟩
      · rw [f7 30 (by decide), q5.2 j b]
        exact kk j a b
      · rw [f7 30 (by decide), q5.2 0 (by decide)]
        exact k0
      · rw [f7 30 (by decide)]
        exact cl.1
      · have q7 := q7 _ cl ⟨vl.1, fun w hw => by have := vl.2 w hw; unfold vOK at this ⊢; rw [f5 1 (by decide), gs.1]; exact this⟩
        rw [q7, enc5, e3]
    · rw [e9]
      by_cases z : w = k
      · rw [z, hup_s]
      · rw [hup_o (fun q => z q.2)]
        exact i2 w w1 (by omega)
  · unfold V_X6_exchange V_X6_exchange_42 V_X6_exchange_47
    refine ⟨trivial, fun r16 _ q16 => ⟨fun c => ?_, fun c => ?_⟩⟩
    · have hv : isV h v := by
        rcases q16 with ⟨-, z⟩ | ⟨z, -⟩
        · exact z
        · exact absurd z c
      have hvv : vOK h v := by unfold isV at hv; rw [m1] at hv; exact hv
      have hvv' := hvv
      unfold vOK at hvv'
      have bad : ¬ XC h (nc h 36) v y → ∀ h12, h12 = hup h 30 0 2 → ((h12 30 0 ≤ 0 → ∀ z14 : Int, z14 = 0 → ∃ n' : Nat, (fun n g x1 x2 x3 => x1 = v ∧ x2 = y ∧ isV h v ∧ XC h (nc h 36) v y ∧ g 30 0 = 0 ∧ (∀ j, j ≠ 0 → j ≠ 20 → g 30 j = h 30 j) ∧ g 36 = h 36 ∧ ∃ k : Nat, x3 = k ∧ (k : Int) ≤ h 1 6 ∧ (∀ w : Int, 0 ≤ w → w < k → g 42 w = 1) ∧ n = 30 - k : Nat → Hp → Int → Int → Int → Prop) n' h12 v y z14) ∧ (¬ h12 30 0 ≤ 0 → q_mexch v y h 0 h12)) := by
        intro nx h12 e12
        have k : h12 30 0 = 2 := by rw [e12, hup_s]
        rw [k]
        exact ⟨fun z => absurd z (by decide), fun _ => ⟨fun j a _ => by rw [e12, hup_o (fun z => a z.2)], Or.inr (Or.inl ⟨hv, nx, k, nc_cong (by rw [e12, hup_k (by decide)]) (by rw [e12, hup_k (by decide)])⟩)⟩⟩
      rw [← nc_v (k := 36) hvv]
      refine ⟨by omega, fun c1 => bad (fun z => z.1 c1), fun c1 => ⟨fun c2 => bad (fun z => by have := z.2.1; omega), fun c2 => ⟨fun c3 => bad (fun z => by have := z.2.2.1; omega), fun c3 => ⟨by omega, fun c4 h12 e12 => ?_, fun c4 => bad (fun z => z.2.2.2 c4)⟩⟩⟩⟩
      have k : h12 30 0 = 0 := by rw [e12, hup_s]
      rw [k]
      exact ⟨fun _ z14 e14 => ⟨30, rfl, rfl, hv, ⟨c1, by omega, by omega, c4⟩, k, fun j a _ => by rw [e12, hup_o (fun z => a z.2)], by rw [e12, hup_k (by decide)], 0, e14, by omega, fun w w1 w2 => by omega, rfl⟩, fun z => absurd (Int.le_refl 0) z⟩
    · intro h12 e12
      have k : h12 30 0 = 1 := by rw [e12, hup_s]
      rw [k]
      refine ⟨fun z => absurd z (by decide), fun _ => ⟨fun j a _ => by rw [e12, hup_o (fun z => a z.2)], Or.inl ⟨?_, k, nc_cong (by rw [e12, hup_k (by decide)]) (by rw [e12, hup_k (by decide)])⟩⟩⟩
      rcases q16 with ⟨z, -⟩ | ⟨-, z⟩
      · omega
      · exact z

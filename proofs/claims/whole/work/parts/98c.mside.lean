/-! The reference's countSide, side, best, told -/
theorem ring_same {h : Hp} {R : Int → Nat → Int} (G : GI h R) {e v : Int} (he : eOK h e) (hv : vOK h v) (hn : v ∉ cyV h e) : ∀ k : Nat, (k : Int) < h 11 v → (FIn h e (fcF h (sk h v k)) ↔ FIn h e (fcF h (h 10 v))) := by
  intro k
  induction k with
  | zero => intro _; exact Iff.rfl
  | succ k ih =>
    intro hk
    have hs := sk_S G hv (k := k) (by omega)
    have nc' : sk h v k / 2 ∉ cyE h e := fun z => hn (by rw [← hs.2]; exact cy_ends G he hs.1 z)
    have e1 : sk h v (k + 1) = ph h (tw (sk h v k)) := by
      unfold ph
      rw [tw_tw]
      rfl
    rw [e1, fcF_ph G (Sd_tw hs.1)]
    exact (InF.iff (C := fun k => k ∈ cyE h e) hs.1 nc').symm.trans (ih (by omega))
def Is8 (h : Hp) (v : Int) : Prop := ∃ k : Nat, (k : Int) < h 11 v ∧ h 46 (fcF h (sk h v k)) ≠ 0
def Is9 (h : Hp) (v : Int) (j : Nat) : Prop := ∃ i : Nat, i < j ∧ h 46 (fcF h (sk h v i)) ≠ 0
theorem Is9_0 {h : Hp} {v : Int} : ¬ Is9 h v 0 := fun ⟨_, hi, _⟩ => absurd hi (Nat.not_lt_zero _)
def csP (h : Hp) (e b v : Int) : Prop := h 39 v = h 39 (h 6 (2 * e)) ∧ h 44 v = 0 ∧ (Is8 h v ↔ b = 1)
def p_countSide (e b : Int) (h : Hp) : Prop := Sy h ∧ MFO h h ∧ eOK h e ∧ (b = 0 ∨ b = 1)
def q_countSide (e b : Int) (h : Hp) (r : Int) : Prop := r = cntP (csP h e b) (h 1 6).toNat
set_option maxHeartbeats 2000000 in
theorem ct_countSide {l : Launch} (e b : Int) (h : Hp) (hb : p_countSide e b h) : Ct l yX6_countSide cX6_countSide 9 (some .int) 0 0 0 [vr 30, vi e, vi b] h [] (fun r _ => q_countSide e b h r) (fun _ => False) := by
  obtain ⟨⟨R, G, m⟩, mfo, he, hb⟩ := hb
  obtain ⟨⟨s1, s2⟩, hu, -, -⟩ := edge_ok G he
  have g1 := G.1
  have g2 := G.2.1
  have nF0 := nF_le G
  have m1 : h 30 1 = h 1 6 := m.1
  obtain ⟨he1, he2⟩ := id he
  obtain ⟨e31, -, -⟩ := m.2.2.2.1 e he1.1 he1.2
  have hu' := hu
  unfold vOK at hu'
  refine w_X6_countSide _
    (fun n g x1 x2 x3 x4 => g = h ∧ x1 = e ∧ x2 = b ∧ ∃ k : Nat, x4 = k ∧ (k : Int) ≤ h 1 6 ∧ x3 = cntP (csP h e b) k ∧ n = 30 - k)
    (fun n5 n g x1 x2 x3 x4 x5 x6 x7 => g = h ∧ x1 = e ∧ x2 = b ∧ ∃ k j : Nat, x4 = k ∧ (k : Int) < h 1 6 ∧ x3 = cntP (csP h e b) k ∧ n5 = 30 - k ∧ x7 = j ∧ (j : Int) ≤ h 11 k ∧ (x5 = 0 ∨ x5 = 1) ∧ (x5 = 0 → ¬ (h 39 k = h 39 (h 6 (2 * e)) ∧ h 44 k = 0)) ∧ (x5 = 1 → h 39 k = h 39 (h 6 (2 * e)) ∧ h 44 k = 0) ∧ (x6 = 0 ∨ x6 = 1) ∧ (x6 = 1 ↔ Is9 h k j) ∧ n = 30 - j) h e b ?_ ?_ (fun _ _ _ => ?_)
  · rintro n g x1 x2 x3 x4 - F - - - - ⟨rfl, rfl, rfl, k, rfl, i1, i2, i3⟩
    unfold V_X6_countSide_5 V_X6_countSide_49 V_X6_countSide_50
    rw [m1, e31]
    refine ⟨fun c => ?_, fun c => ?_⟩
    · show x3 = _
      rw [i2, show k = (g 1 6).toNat by omega]
    · have hd := (G.deg (v := k) ⟨by omega, by omega⟩).1
      refine ⟨by omega, by omega, by omega, fun c1 z26 e26 z27 e27 z28 e28 => ⟨30, rfl, rfl, rfl, k, 0, rfl, by omega, i2, i3, e28, hd, Or.inl e26, fun _ z => c1 z.1, fun z => by omega, Or.inl e27, ⟨fun z => by omega, fun z => absurd z Is9_0⟩, rfl⟩, fun c1 => ⟨by omega, fun c2 z26 e26 z27 e27 z28 e28 => ⟨30, rfl, rfl, rfl, k, 0, rfl, by omega, i2, i3, e28, hd, Or.inl e26, fun _ z => c2 z.2, fun z => by omega, Or.inl e27, ⟨fun z => by omega, fun z => absurd z Is9_0⟩, rfl⟩, fun c2 z26 e26 z27 e27 z28 e28 => ⟨30, rfl, rfl, rfl, k, 0, rfl, by omega, i2, i3, e28, hd, Or.inr e26, fun z => by omega, fun _ => ⟨c1, c2⟩, Or.inl e27, ⟨fun z => by omega, fun z => absurd z Is9_0⟩, rfl⟩⟩⟩
  · rintro n5 n g x1 x2 x3 x4 x5 x6 x7 - F - - - - - - - ⟨rfl, rfl, rfl, k, j, rfl, i1, i2, i3, rfl, i4, i5, i6, i7, i8, i9, i10⟩
    have vk : vOK g k := ⟨by omega, i1⟩
    have md := mr_deg G m vk
    have cl := cntP_le (csP g x1 x2) k
    have fin : (x5 = 0 ∨ ¬ (j : Int) < g 11 k) → V_X6_countSide_146 (fun r _ => q_countSide x1 x2 g r)
        (fun n h' y1 y2 x3 x4 => h' = g ∧ y1 = x1 ∧ y2 = x2 ∧ ∃ k : Nat, x4 = k ∧ (k : Int) ≤ g 1 6 ∧ x3 = cntP (csP g x1 x2) k ∧ n = 30 - k)
        (fun n5 n h' y1 y2 x3 x4 x5 x6 x7 => h' = g ∧ y1 = x1 ∧ y2 = x2 ∧ ∃ k j : Nat, x4 = k ∧ (k : Int) < g 1 6 ∧ x3 = cntP (csP g x1 x2) k ∧ n5 = 30 - k ∧ x7 = j ∧ (j : Int) ≤ g 11 k ∧ (x5 = 0 ∨ x5 = 1) ∧ (x5 = 0 → ¬ (g 39 k = g 39 (g 6 (2 * x1)) ∧ g 44 k = 0)) ∧ (x5 = 1 → g 39 k = g 39 (g 6 (2 * x1)) ∧ g 44 k = 0) ∧ (x6 = 0 ∨ x6 = 1) ∧ (x6 = 1 ↔ Is9 g k j) ∧ n = 30 - j) n5 g x1 x2 x3 k x5 x6 := by
      intro hc
      unfold V_X6_countSide_146 V_X6_countSide_163 V_X6_countSide_164
      have val : x5 = 1 → (Is8 g k ↔ x6 = 1) := by
        intro h5
        have hj : ¬ (j : Int) < g 11 k := by
          rcases hc with q | q
          · omega
          · exact q
        rw [i9]
        exact ⟨fun ⟨i, a, b⟩ => ⟨i, by omega, b⟩, fun ⟨i, a, b⟩ => ⟨i, by omega, b⟩⟩
      refine ⟨fun c z1 e1 => ⟨by unfold InR; omega, fun z2 e2 => ⟨30 - (k + 1), by omega, rfl, rfl, rfl, k + 1, by omega, by omega, ?_, rfl⟩⟩, fun c => ⟨fun c1 z1 e1 => ⟨by unfold InR; omega, fun z2 e2 => ⟨30 - (k + 1), by omega, rfl, rfl, rfl, k + 1, by omega, by omega, ?_, rfl⟩⟩, fun c1 => ⟨by unfold InR; omega, fun z1 e1 => ⟨by unfold InR; omega, fun z2 e2 => ⟨30 - (k + 1), by omega, rfl, rfl, rfl, k + 1, by omega, by omega, ?_, rfl⟩⟩⟩⟩⟩
      · rw [cntP_f (p := csP g x1 x2) (fun z => i6 c ⟨z.1, z.2.1⟩), e1]
        exact i2
      · have h5 : x5 = 1 := by omega
        rw [cntP_f (p := csP g x1 x2) (fun z => ?_), e1]
        · exact i2
        · have := (val h5).symm.trans z.2.2
          omega
      · have h5 : x5 = 1 := by omega
        rw [cntP_t (p := csP g x1 x2) ⟨(i7 h5).1, (i7 h5).2, (val h5).trans (by omega)⟩, e1, i2]
    unfold V_X6_countSide_58
    rw [md.1]
    refine ⟨by omega, fun c => fin (Or.inr (by omega)), fun c => ⟨fun c1 => fin (Or.inl c1), fun c1 => ?_⟩⟩
    have hj : (j : Int) < g 11 k := by omega
    have hr := (mr_nbr G m vk hj).1
    have rowR := (m.2.2.2.2 k vk.1 vk.2).2 j hj
    have hs := sk_S G vk hj
    rw [← sk_R G vk j hj] at rowR
    unfold row at hr rowR
    have ls := Sd_lt G hs.1
    have fr := fcF_r G hs.1
    have step : ∀ y, (y = 0 ∨ y = 1) → (y = 1 ↔ (x6 = 1 ∨ g 46 (fcF g (sk g k j)) ≠ 0)) → V_X6_countSide_138 (fun r _ => q_countSide x1 x2 g r)
        (fun n h' y1 y2 x3 x4 => h' = g ∧ y1 = x1 ∧ y2 = x2 ∧ ∃ k : Nat, x4 = k ∧ (k : Int) ≤ g 1 6 ∧ x3 = cntP (csP g x1 x2) k ∧ n = 30 - k)
        (fun n5 n h' y1 y2 x3 x4 x5 x6 x7 => h' = g ∧ y1 = x1 ∧ y2 = x2 ∧ ∃ k j : Nat, x4 = k ∧ (k : Int) < g 1 6 ∧ x3 = cntP (csP g x1 x2) k ∧ n5 = 30 - k ∧ x7 = j ∧ (j : Int) ≤ g 11 k ∧ (x5 = 0 ∨ x5 = 1) ∧ (x5 = 0 → ¬ (g 39 k = g 39 (g 6 (2 * x1)) ∧ g 44 k = 0)) ∧ (x5 = 1 → g 39 k = g 39 (g 6 (2 * x1)) ∧ g 44 k = 0) ∧ (x6 = 0 ∨ x6 = 1) ∧ (x6 = 1 ↔ Is9 g k j) ∧ n = 30 - j) n5 n g x1 x2 x3 k x5 j y := by
      intro y hy1 hy2
      unfold V_X6_countSide_138
      refine fun z7 e7 => ⟨by unfold InR; omega, fun z8 e8 => ⟨30 - (j + 1), by omega, rfl, rfl, rfl, k, j + 1, rfl, i1, i2, i3, by omega, by omega, i5, i6, i7, by omega, ?_, rfl⟩⟩
      rw [e7, hy2, i9]
      constructor
      · rintro (⟨i, a, b⟩ | q)
        · exact ⟨i, by omega, b⟩
        · exact ⟨j, by omega, q⟩
      · rintro ⟨i, a, b⟩
        by_cases w : i = j
        · rw [w] at b; exact Or.inr b
        · exact Or.inl ⟨i, by omega, b⟩
    have s128 : x6 = 0 → ∀ y2, y2 = sk g k j → V_X6_countSide_128 (fun r _ => q_countSide x1 x2 g r)
        (fun n h' y1 y2 x3 x4 => h' = g ∧ y1 = x1 ∧ y2 = x2 ∧ ∃ k : Nat, x4 = k ∧ (k : Int) ≤ g 1 6 ∧ x3 = cntP (csP g x1 x2) k ∧ n = 30 - k)
        (fun n5 n h' y1 y2 x3 x4 x5 x6 x7 => h' = g ∧ y1 = x1 ∧ y2 = x2 ∧ ∃ k j : Nat, x4 = k ∧ (k : Int) < g 1 6 ∧ x3 = cntP (csP g x1 x2) k ∧ n5 = 30 - k ∧ x7 = j ∧ (j : Int) ≤ g 11 k ∧ (x5 = 0 ∨ x5 = 1) ∧ (x5 = 0 → ¬ (g 39 k = g 39 (g 6 (2 * x1)) ∧ g 44 k = 0)) ∧ (x5 = 1 → g 39 k = g 39 (g 6 (2 * x1)) ∧ g 44 k = 0) ∧ (x6 = 0 ∨ x6 = 1) ∧ (x6 = 1 ↔ Is9 g k j) ∧ n = 30 - j) n5 n g x1 x2 x3 k x5 j y2 := by
      intro h6 y2 ey
      unfold V_X6_countSide_128 V_X6_countSide_133
      rw [ey, mfo_at G mfo hs.1]
      refine ⟨ls, by omega, fun d => step 0 (Or.inl rfl) ⟨fun z => absurd z (by decide), fun z => ?_⟩, fun d => step 1 (Or.inr rfl) ⟨fun _ => Or.inr d, fun _ => rfl⟩⟩
      rcases z with q | q
      · omega
      · exact absurd d q
    refine ⟨by unfold InR; omega, by unfold InR; omega, by omega, fun z19 e19 => ?_⟩
    rw [rowR] at e19
    have ez : 0 ≤ z19 ∧ z19 < g 1 7 := by
      have := hs.1.2.1
      omega
    obtain ⟨f31, -, -⟩ := m.2.2.2.1 z19 ez.1 ez.2
    refine ⟨fun c2 => ?_, fun c2 => ⟨by omega, fun c3 => ⟨by unfold InR; omega, by unfold InR; omega, s128 c2 _ ?_⟩, fun c3 => ⟨by unfold InR; omega, s128 c2 _ ?_⟩⟩⟩
    · unfold V_X6_countSide_133
      exact step 1 (Or.inr rfl) ⟨fun _ => Or.inl (by omega), fun _ => rfl⟩
    · rw [f31] at c3
      rcases half_cases _ z19 e19.symm with q | q
      · rw [← q, hs.2] at c3
        exact absurd rfl c3
      · exact q.symm
    · rw [f31] at c3
      rcases half_cases _ z19 e19.symm with q | q
      · exact q.symm
      · exfalso
        have hne := (G.2.2.2.1 _ hs.1).2
        rw [q, tw_o, c3, ← q, hs.2] at hne
        exact hne rfl
  · unfold V_X6_countSide
    exact fun z0 e0 z1 e1 => ⟨30, rfl, rfl, rfl, 0, e1, by omega, e0, rfl⟩
/-- what countSide answers once cycle and inside are marked -/
theorem cs_in {h : Hp} {R : Int → Nat → Int} (G : GI h R) (mt : MT h) {e : Int} (he : eOK h e) (h44 : ∀ v, vOK h v → h 44 v = if v ∈ cyV h e then 1 else 0) (h46 : ∀ x, 0 ≤ x → x < nF h → (h 46 x = 0 ↔ ¬ FIn h e x)) : cntP (csP h e 1) (h 1 6).toNat = cntIn h e ∧ cntP (csP h e 0) (h 1 6).toNat = cntOut h e := by
  obtain ⟨-, hu, -, -⟩ := edge_ok G he
  have key : ∀ k : Nat, k < (h 1 6).toNat → ∀ b : Int, (csP h e b k ↔ tr h 18 k = tr h 18 (h 6 (2 * e)) ∧ (k : Int) ∉ cyV h e ∧ (FIn h e (fcF h (h 10 k)) ↔ b = 1)) := by
    intro k hk b
    have vk : vOK h k := ⟨by omega, by omega⟩
    unfold csP Is8
    rw [(mt k vk).1, (mt _ hu).1, h44 k vk]
    refine and_congr_right (fun a => ?_)
    have hd := part_deg G he vk a
    by_cases w : (k : Int) ∈ cyV h e
    · rw [if_pos w]
      exact ⟨fun z => absurd z.1 (by decide), fun z => absurd w z.1⟩
    · rw [if_neg w]
      refine and_congr ⟨fun _ => w, fun _ => rfl⟩ (Iff.trans ?_ Iff.rfl)
      have ex : (∃ i : Nat, (i : Int) < h 11 k ∧ h 46 (fcF h (sk h k i)) ≠ 0) ↔ FIn h e (fcF h (h 10 k)) := by
        constructor
        · rintro ⟨i, i1, i2⟩
          have hs := sk_S G vk i1
          have r := fcF_r G hs.1
          rw [← ring_same G he vk w i i1]
          exact Classical.byContradiction (fun z => i2 ((h46 _ r.1 r.2).mpr z))
        · intro z
          have hs := sk_S G vk (k := 0) (by omega)
          have r := fcF_r G hs.1
          refine ⟨0, by omega, fun q => (h46 _ r.1 r.2).mp q z⟩
      rw [ex]
  constructor
  · refine cntP_congr _ (fun k hk => (key k hk 1).trans ?_)
    unfold siI
    exact and_congr Iff.rfl (and_congr Iff.rfl ⟨fun z => z.mpr rfl, fun z => ⟨fun _ => rfl, fun _ => z⟩⟩)
  · refine cntP_congr _ (fun k hk => (key k hk 0).trans ?_)
    unfold siO
    exact and_congr Iff.rfl (and_congr Iff.rfl ⟨fun z y => absurd (z.mp y) (by decide), fun z => ⟨fun y => absurd y z, fun y => absurd y (by decide)⟩⟩)
/-- marks of cycle and inside, in a later picture with the same graph -/
theorem cs_marks {h h8 h11 : Hp} {R : Int → Nat → Int} (G : GI h R) {e : Int} (he : eOK h e) {r7 : Int} (q8 : q_findCycle e h r7 h8) (f8 : Fr [44, 45] h h8) (q11 : q_findInside e h8 h11) (f11 : Fr [46] h8 h11) : (∀ v, vOK h11 v → h11 44 v = if v ∈ cyV h11 e then 1 else 0) ∧ ∀ x, 0 ≤ x → x < nF h11 → (h11 46 x = 0 ↔ ¬ FIn h11 e x) := by
  have x8 : ∀ k, k < 30 → h8 k = h k := lt30 f8 (by decide)
  have x11 : ∀ k, k < 30 → h11 k = h k := fun k hk => by rw [f11 k (by intro z; rw [List.mem_singleton] at z; omega), x8 k hk]
  have gs8 : Gs h h8 := Gs.of f8 (by decide)
  have gs11 : Gs h h11 := gs8.tr (Gs.of f11 (by decide))
  refine ⟨fun v hv => ?_, fun x h1 h2 => ?_⟩
  · rw [(cyV_cong x11).1, f11 44 (by decide)]
    exact q8.1 v (by unfold vOK at hv ⊢; rw [gs11.1] at hv; exact hv)
  · rw [Gs_nF gs11] at h2
    rw [q11 x h1 (by rw [Gs_nF gs8]; exact h2)]
    refine not_congr ?_
    rw [FIn_gs G gs11 he]
    unfold FIn
    rw [fcF_gs gs8]
    refine (InF_cong gs8 (fun k k1 k2 => ?_)).symm
    show k ∈ cyE h e ↔ h8 45 k ≠ 0
    rw [q8.2.1 k k1 k2]
    by_cases w : k ∈ cyE h e
    · rw [if_pos w]; exact ⟨fun _ => by decide, fun _ => w⟩
    · rw [if_neg w]; exact ⟨fun z => absurd z w, fun z => absurd rfl z⟩
theorem MFO_gs {h g a b : Hp} (gs : Gs h g) (m : MFO h a) (e12 : b 30 12 = a 30 12) (e37 : b 37 = a 37) : MFO g b := MFO_cong m gs.S gs.P (by rw [gs.1]) e12 e37
-- side
def p_mside (_ b : Int) (h : Hp) : Prop := Sy h ∧ (b = 0 ∨ b = 1)
def q_mside (e b : Int) (h : Hp) (r : Int) (h' : Hp) : Prop := Keep h h' ∧ ((¬ eOK h e ∧ h' 30 0 = 1) ∨ (eOK h e ∧ gnF h ≠ 0 ∧ h' 30 0 = 2) ∨ (eOK h e ∧ gnF h = 0 ∧ h' 30 0 = 0 ∧ ((inT h e ∧ r = 0) ∨ (¬ inT h e ∧ r = if b = 1 then cntIn h e else cntOut h e))))
set_option maxHeartbeats 1000000 in
theorem ct_mside {l : Launch} (e b : Int) (h : Hp) (hb : p_mside e b h) : Ct l yX6_side cX6_side 4 (some .int) 4 91 0 [vr 30, vi e, vi b] h [30, 37, 38, 39, 40, 44, 45, 46] (fun r h1 => q_mside e b h r h1) (fun _ => False) := by
  obtain ⟨sy, hb⟩ := hb
  obtain ⟨R, G, m⟩ := id sy
  have g2 := G.2.1
  have m2 : h 30 2 = h 1 7 := m.2.1
  refine w_X6_side _ p_isEdge q_isEdge p_isTree q_isTree p_findCycle q_findCycle p_findInside q_findInside p_countSide q_countSide Sy q_genusOf h e b ct_isEdge ct_isTree ct_findCycle ct_findInside ct_countSide ct_genusOf (fun _ _ _ => ?_)
  unfold V_X6_side V_X6_side_25 V_X6_side_43
  refine ⟨by unfold p_isEdge; omega, fun r15 _ q15 => ⟨fun c => ?_, fun c h1 e1 => ?_⟩⟩
  · have he : eOK h e := by
      rcases q15 with ⟨-, y⟩ | ⟨y, -⟩
      · exact (mr_E G m).mp y
      · exact absurd y c
    refine ⟨sy, fun r18 h19 f19 _ _ q19 => ?_⟩
    obtain ⟨q1, q2, q3, q4, q5⟩ := q19
    refine ⟨fun c1 h1 e1 => ?_, fun c1 h1 e1 => ?_⟩
    · have k : h1 30 0 = 0 := by rw [e1, hup_s]
      have f1 : Fr [30, 37, 38, 39, 40] h h1 := by rw [e1]; exact f19.up (by decide)
      have k1 : Keep h h1 := q2.trans (Keep.code e1)
      have S1 : Sy h1 := Sy_keep sy f1 (by decide) k1
      have x1 : ∀ k, k < 30 → h1 k = h k := lt30 f1 (by decide)
      have gs1 : Gs h h1 := Gs.of f1 (by decide)
      have mt1 : MT h1 := by
        refine MT_of G (h' := h1) ⟨fun v v1 v2 => ?_, ?_⟩ x1
        · rw [e1, hup_k (by decide)] at v2
          rw [e1, hup_k (by decide), hup_k (by decide)]
          exact q5.1 v v1 v2
        · rw [e1, hup_o (fun z => by have := z.2; omega)]
          exact q5.2
      have he1 : eOK h1 e := (eOK_cong (x1 1 (by decide)) (x1 9 (by decide))).mpr he
      have mf1 : MFO h1 h1 := MFO_gs gs1 q4 (by rw [e1, hup_o (fun z => by have := z.2; omega)]) (by rw [e1, hup_k (by decide)])
      rw [k]
      refine ⟨fun z => absurd z (by decide), fun _ => ⟨⟨S1, mt1, he1⟩, fun r4 _ q4' => ⟨fun c2 => ⟨⟨S1, mt1, he1⟩, fun r7 h8 f8 _ _ q8 z9 e9 => ?_⟩, fun c2 => ⟨k1, Or.inr (Or.inr ⟨he, q1.symm.trans c1, k, Or.inl ⟨?_, rfl⟩⟩)⟩⟩⟩⟩
      · have gs8 : Gs h1 h8 := Gs.of f8 (by decide)
        have S8 : Sy h8 := Sy_keep S1 f8 (by decide) (fun j _ _ _ _ => by rw [f8 30 (by decide)])
        have he8 : eOK h8 e := (eOK_cong (f8 1 (by decide)) (f8 9 (by decide))).mpr he1
        have mf8 : MFO h8 h8 := MFO_gs gs8 mf1 (by rw [f8 30 (by decide)]) (f8 37 (by decide))
        refine ⟨⟨S8, mf8, he8⟩, fun h11 f11 _ q11 => ?_⟩
        have gs11 : Gs h8 h11 := Gs.of f11 (by decide)
        have S11 : Sy h11 := Sy_keep S8 f11 (by decide) (fun j _ _ _ _ => by rw [f11 30 (by decide)])
        have he11 : eOK h11 e := (eOK_cong (f11 1 (by decide)) (f11 9 (by decide))).mpr he8
        have mf11 : MFO h11 h11 := MFO_gs gs11 mf8 (by rw [f11 30 (by decide)]) (f11 37 (by decide))
        refine ⟨⟨S11, mf11, he11, hb⟩, fun r13 _ q13 => ?_⟩
        have x8 : ∀ k, k < 30 → h8 k = h1 k := lt30 f8 (by decide)
        have x11 : ∀ k, k < 30 → h11 k = h8 k := lt30 f11 (by decide)
        have mt11 : MT h11 := MT_cong (MT_cong mt1 x8 (f8 38 (by decide)) (f8 39 (by decide))) x11 (f11 38 (by decide)) (f11 39 (by decide))
        have G1 := Gs_GI gs1 G
        obtain ⟨a1, a2⟩ := cs_marks G1 he1 q8 f8 q11 f11
        have gsA : Gs h h11 := gs1.tr (gs8.tr gs11)
        obtain ⟨v1, v2⟩ := cs_in (Gs_GI gsA G) mt11 he11 a1 a2
        obtain ⟨n1, n2⟩ := n_gs G gsA he
        have q13 : r13 = cntP (csP h11 e b) (h11 1 6).toNat := q13
        refine ⟨fun j a b c d => ?_, Or.inr (Or.inr ⟨he, q1.symm.trans c1, ?_, Or.inr ⟨?_, ?_⟩⟩)⟩
        · rw [f11 30 (by decide), f8 30 (by decide)]
          exact k1 j a b c d
        · rw [f11 30 (by decide), f8 30 (by decide)]
          exact k
        · rcases q4' with ⟨y, -⟩ | ⟨-, y⟩
          · omega
          · exact fun z => y ((inT_cong x1).mpr z)
        · rcases hb with z | z
          · rw [q13, z, v2, n2, if_neg (by decide)]
          · rw [q13, z, v1, n1, if_pos rfl]
      · rcases q4' with ⟨-, y⟩ | ⟨y, -⟩
        · exact (inT_cong x1).mp y
        · exact absurd y c2
    · have k : h1 30 0 = 2 := by rw [e1, hup_s]
      rw [k]
      exact ⟨fun _ => ⟨q2.trans (Keep.code e1), Or.inr (Or.inl ⟨he, fun z => c1 (q1.trans z), k⟩)⟩, fun z => absurd (by decide) z⟩
  · have k : h1 30 0 = 1 := by rw [e1, hup_s]
    rw [k]
    refine ⟨fun _ => ⟨Keep.code e1, Or.inl ⟨fun z => ?_, k⟩⟩, fun z => absurd (by decide) z⟩
    rcases q15 with ⟨y, -⟩ | ⟨-, y⟩
    · omega
    · exact y ((mr_E G m).mpr z)
-- told
def q_mtold (w : Int) (h : Hp) (r : Int) (h' : Hp) : Prop := Keep h h' ∧ ((w = 0 ∧ r = h 1 6) ∨ (w = 1 ∧ r = h 1 8) ∨ (w = 2 ∧ ((gnF h = 0 ∧ r = 1) ∨ (gnF h ≠ 0 ∧ r = 0))) ∨ (w = 3 ∧ r = ccF (nc h 36)) ∨ (w ≠ 0 ∧ w ≠ 1 ∧ w ≠ 2 ∧ w ≠ 3 ∧ r = -1))
theorem ct_mtold {l : Launch} (w : Int) (h : Hp) (hb : Sy h) : Ct l yX6_told cX6_told 2 (some .int) 4 91 0 [vr 30, vi w] h [30, 37, 38, 39, 40] (fun r h1 => q_mtold w h r h1) (fun _ => False) := by
  obtain ⟨R, G, m⟩ := id hb
  refine w_X6_told _ Sy q_genusOf Sy q_colourCount h w ct_genusOf ct_colourCount (fun _ _ => ?_)
  unfold V_X6_told V_X6_told_61
  intro h1 e1
  have f1 : Fr [30, 37, 38, 39, 40] h h1 := by rw [e1]; exact Fr.rf.up (by decide)
  have k1 : Keep h h1 := Keep.code e1
  have S1 : Sy h1 := Sy_keep hb f1 (by decide) k1
  refine ⟨fun c0 => ⟨fun c1 => ⟨fun c2 => ⟨fun c3 => ⟨k1, Or.inr (Or.inr (Or.inr (Or.inr ⟨c0, c1, c2, c3, rfl⟩)))⟩, fun c3 => ⟨S1, fun r7 _ q7 => ⟨k1, Or.inr (Or.inr (Or.inr (Or.inl ⟨c3, ?_⟩)))⟩⟩⟩, fun c2 => ⟨S1, fun r9 h10 f10 _ _ q10 => ⟨fun c3 => ⟨k1.trans q10.2.1, Or.inr (Or.inr (Or.inl ⟨c2, Or.inr ⟨?_, rfl⟩⟩))⟩, fun c3 => ⟨k1.trans q10.2.1, Or.inr (Or.inr (Or.inl ⟨c2, Or.inl ⟨?_, rfl⟩⟩))⟩⟩⟩⟩, fun c1 => ⟨k1, Or.inr (Or.inl ⟨c1, ?_⟩)⟩⟩, fun c0 => ⟨k1, Or.inl ⟨c0, ?_⟩⟩⟩
  · have q7 : r7 = ccF (nc h1 36) := q7
    rw [q7, nc_cong (f1 36 (by decide)) (f1 1 (by decide))]
  · have := q10.1
    rw [gnF_cong (lt30 f1 (by decide))] at this
    exact fun z => c3 (this.trans z)
  · have := q10.1
    rw [gnF_cong (lt30 f1 (by decide))] at this
    exact this.symm.trans c3
  · rw [k1 3 (by decide) (by decide) (by decide) (by decide)]
    exact m.2.2.1
  · rw [k1 1 (by decide) (by decide) (by decide) (by decide)]
    exact m.1

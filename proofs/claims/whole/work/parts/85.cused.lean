/-! How many colours are used, and edges with equal ends: class and reference -/
noncomputable def ccF (c : Int → Int) : Int := cntP (fun x => 1 ≤ x ∧ ∃ v, c v = x) 6
def bcA (a : Int) : Int := a - (jand (jushr a 1) 1431655765)
def bcB (z : Int) : Int := (jand z 858993459) + (jand (jushr z 2) 858993459)
def bcC (z : Int) : Int := z + (jushr z 4)
def bcD (z : Int) : Int := z + (jushr z 8)
def bcE (z : Int) : Int := z + (jushr z 16)
def inR (x : Int) : Bool := decide (-2147483648 ≤ x) && decide (x ≤ 2147483647)
theorem inR_t {x : Int} (h : inR x = true) : InR x := by
  unfold inR at h
  rw [Bool.and_eq_true, decide_eq_true_iff, decide_eq_true_iff] at h
  exact h
def bcAll (b : Int) : Bool :=
  let a := jshr b 1
  let z2 := bcA a
  let z4 := bcB z2
  let z5 := bcC z4
  let z6 := jand z5 252645135
  let z8 := bcD z6
  let z10 := bcE z8
  inR z2 && inR z4 && inR z5 && inR z8 && inR z10 && decide (jand z10 63 = cnt (fun x => 1 ≤ x ∧ jand b (jshl 1 x) ≠ 0) 6)
theorem bcAll_d : ∀ b : Fin 64, bcAll ((b : Nat) : Int) = true := by decide +kernel
def p_bitc (a : Int) (_ : Hp) : Prop := ∃ b : Int, (0 ≤ b ∧ b < 64) ∧ a = jshr b 1
def q_bitc (a : Int) (_ : Hp) (r : Int) : Prop := ∀ b : Int, 0 ≤ b → b < 64 → a = jshr b 1 → ∃ b' : Int, (0 ≤ b' ∧ b' < 64) ∧ jshr b' 1 = jshr b 1 ∧ r = cnt (fun x => 1 ≤ x ∧ jand b' (jshl 1 x) ≠ 0) 6
theorem bit_half : ∀ (b c : Fin 64), jshr ((b : Nat) : Int) 1 = jshr ((c : Nat) : Int) 1 → cnt (fun x => 1 ≤ x ∧ jand ((b : Nat) : Int) (jshl 1 x) ≠ 0) 6 = cnt (fun x => 1 ≤ x ∧ jand ((c : Nat) : Int) (jshl 1 x) ≠ 0) 6 := by decide +kernel
theorem ct_bitc {l : Launch} (a : Int) (h : Hp) (hb : p_bitc a h) : Ct l yJ6_bitCount_0f7a4 cJ6_bitCount_0f7a4 1 (some .int) 0 0 0 [vi a] h [] (fun r _ => q_bitc a h r) (fun _ => False) := by
  obtain ⟨b, hb, rfl⟩ := hb
  refine w_J6_bitCount_0f7a4 _ h _ (fun _ _ => ?_)
  obtain ⟨n, rfl⟩ : ∃ n : Nat, b = n := ⟨b.toNat, by omega⟩
  have d := bcAll_d ⟨n, by omega⟩
  unfold bcAll at d
  simp only [Bool.and_eq_true, decide_eq_true_iff] at d
  obtain ⟨⟨⟨⟨⟨d1, d2⟩, d3⟩, d4⟩, d5⟩, d6⟩ := d
  unfold V_J6_bitCount_0f7a4
  refine ⟨inR_t d1, fun z2 e2 => ?_⟩
  have e2 : z2 = bcA (jshr n 1) := e2
  refine ⟨by rw [e2]; exact inR_t d2, fun z4 e4 => ?_⟩
  have e4 : z4 = bcB (bcA (jshr n 1)) := by rw [e4, e2]; rfl
  refine ⟨by rw [e4]; exact inR_t d3, fun z6 e6 => ?_⟩
  have e6 : z6 = jand (bcC (bcB (bcA (jshr n 1)))) 252645135 := by rw [e6, e4]; rfl
  refine ⟨by rw [e6]; exact inR_t d4, fun z8 e8 => ?_⟩
  have e8 : z8 = bcD (jand (bcC (bcB (bcA (jshr n 1)))) 252645135) := by rw [e8, e6]; rfl
  refine ⟨by rw [e8]; exact inR_t d5, fun z10 e10 => ?_⟩
  have e10 : z10 = bcE (bcD (jand (bcC (bcB (bcA (jshr n 1)))) 252645135)) := by rw [e10, e8]; rfl
  intro b' h1 h2 e
  refine ⟨n, by omega, e, ?_⟩
  rw [e10]
  exact d6
def p_used (h : Hp) : Prop := (∃ R, GI h R) ∧ CR (nc h 20)
def q_used (h : Hp) (r : Int) : Prop := r = ccF (nc h 20)
set_option maxHeartbeats 1000000 in
theorem ct_used {l : Launch} (h : Hp) (hb : p_used h) : Ct l yX0_coloursUsed cX0_coloursUsed 3 (some .int) 1 20 0 [vr 4] h [] (fun r _ => q_used h r) (fun _ => False) := by
  obtain ⟨⟨R, G⟩, cr⟩ := hb
  have g1 := G.1
  refine w_X0_coloursUsed _ p_bitc q_bitc (fun n g x1 x2 => g = h ∧ ∃ k : Nat, x2 = k ∧ (k : Int) ≤ h 1 6 ∧ (0 ≤ x1 ∧ x1 < 64) ∧ (∀ x : Int, 0 ≤ x → x ≤ 5 → (jand x1 (jshl 1 x) = 0 ↔ ∀ v : Int, 0 ≤ v → v < k → nc h 20 v ≠ x)) ∧ n = 30 - k) h ct_bitc ?_ (fun _ => ?_)
  · rintro n g x1 x2 - F - - ⟨rfl, k, rfl, i1, i2, i3, i4⟩
    unfold V_X0_coloursUsed_4
    refine ⟨fun c => ⟨⟨x1, i2, rfl⟩, fun r _ q => ?_⟩, fun c => ?_⟩
    · obtain ⟨b, b1, b2, b3⟩ := q x1 i2.1 i2.2 rfl
      show r = ccF (nc g 20)
      have e := bit_half ⟨b.toNat, by omega⟩ ⟨x1.toNat, by omega⟩ (by
        show jshr ((b.toNat : Nat) : Int) 1 = jshr ((x1.toNat : Nat) : Int) 1
        rw [show ((b.toNat : Nat) : Int) = b by omega, show ((x1.toNat : Nat) : Int) = x1 by omega]
        exact b2)
      have e : cnt (fun x => 1 ≤ x ∧ jand ((b.toNat : Nat) : Int) (jshl 1 x) ≠ 0) 6 = cnt (fun x => 1 ≤ x ∧ jand ((x1.toNat : Nat) : Int) (jshl 1 x) ≠ 0) 6 := e
      rw [show ((b.toNat : Nat) : Int) = b by omega, show ((x1.toNat : Nat) : Int) = x1 by omega] at e
      rw [b3, e]
      unfold ccF cntP
      refine @cnt_congr _ _ _ (fun a => Classical.propDecidable _) _ (fun x hx => and_congr_right (fun hx1 => ?_))
      have := i3 x (by omega) (by omega)
      refine ⟨fun z => Classical.byContradiction (fun y => z (this.mpr (fun v _ _ ev => y ⟨v, ev⟩))), fun ⟨v, ev⟩ z => ?_⟩
      by_cases hv : vOK g v
      · have hv' := hv
        unfold vOK at hv'
        exact this.mp z v hv'.1 (by omega) ev
      · rw [nc_n hv] at ev
        omega
    · have hv : vOK g k := ⟨by omega, by omega⟩
      have hc := cr k
      rw [← nc_v hv]
      obtain ⟨b1, b2⟩ := bit_or i2 hc
      refine ⟨by omega, fun z5 e5 => ⟨by unfold InR; omega, fun z6 e6 => ⟨30 - (k + 1), by omega, rfl, k + 1, by omega, by omega, by rw [e5]; exact b1, fun x h1 h2 => ?_, rfl⟩⟩⟩
      rw [e5, b2 x h1 h2, i3 x h1 h2]
      refine ⟨fun z v v1 v2 => ?_, fun z => ⟨fun v v1 v2 => z v v1 (by omega), fun e => z k (by omega) (by omega) e.symm⟩⟩
      by_cases w : v = k
      · rw [w]; exact fun e => z.2 e.symm
      · exact z.1 v v1 (by omega)
  · unfold V_X0_coloursUsed
    exact fun z0 e0 z1 e1 => ⟨30, rfl, 0, e1, by omega, by omega, fun x h1 h2 => by rw [e0]; exact ⟨fun _ v v1 v2 => by omega, fun _ => bit_z h1 h2⟩, rfl⟩
-- equalEnds
def clF (h : Hp) (c : Int → Int) : Int := cnt (fun e => h 9 e = 1 ∧ c (h 6 (2 * e)) ≠ 0 ∧ c (h 6 (2 * e)) = c (h 6 (2 * e + 1))) (h 1 7).toNat
def p_equalEnds (h : Hp) : Prop := ∃ R, GI h R
def q_equalEnds (h : Hp) (r : Int) : Prop := r = clF h (nc h 20)
theorem ends_v {h : Hp} {R : Int → Nat → Int} (G : GI h R) {e : Int} (he : 0 ≤ e ∧ e < h 1 7) (h9 : h 9 e = 1) : vOK h (h 6 (2 * e)) ∧ vOK h (h 6 (2 * e + 1)) := by
  have s1 : Sd h (2 * e) := ⟨by omega, by omega, by rw [show 2 * e / 2 = e by omega]; exact h9⟩
  have s2 : Sd h (2 * e + 1) := ⟨by omega, by omega, by rw [show (2 * e + 1) / 2 = e by omega]; exact h9⟩
  exact ⟨(G.2.2.2.1 _ s1).1, (G.2.2.2.1 _ s2).1⟩
theorem ct_equalEnds {l : Launch} (h : Hp) (hb : p_equalEnds h) : Ct l yX0_equalEnds cX0_equalEnds 4 (some .int) 0 0 0 [vr 4] h [] (fun r _ => q_equalEnds h r) (fun _ => False) := by
  obtain ⟨R, G⟩ := hb
  have g1 := G.1
  have g2 := G.2.1
  refine w_X0_equalEnds _ (fun n g x1 x2 => g = h ∧ ∃ k : Nat, x2 = k ∧ (k : Int) ≤ h 1 7 ∧ x1 = cnt (fun e => h 9 e = 1 ∧ nc h 20 (h 6 (2 * e)) ≠ 0 ∧ nc h 20 (h 6 (2 * e)) = nc h 20 (h 6 (2 * e + 1))) k ∧ n = 100 - k) h ?_ (fun _ => ?_)
  · rintro n g x1 x2 - F - - ⟨rfl, k, rfl, i1, i2, i3⟩
    have hc := cnt_le (fun e => g 9 e = 1 ∧ nc g 20 (g 6 (2 * e)) ≠ 0 ∧ nc g 20 (g 6 (2 * e)) = nc g 20 (g 6 (2 * e + 1))) k
    unfold V_X0_equalEnds_4 V_X0_equalEnds_73
    have no : (k : Int) < g 1 7 → ¬ (g 9 k = 1 ∧ nc g 20 (g 6 (2 * k)) ≠ 0 ∧ nc g 20 (g 6 (2 * k)) = nc g 20 (g 6 (2 * k + 1))) → x1 = cnt (fun e => g 9 e = 1 ∧ nc g 20 (g 6 (2 * e)) ≠ 0 ∧ nc g 20 (g 6 (2 * e)) = nc g 20 (g 6 (2 * e + 1))) (k + 1) := by
      intro _ z
      rw [cnt_succ, if_neg z, i2]
      omega
    refine ⟨fun c => ?_, fun c => ⟨by omega, fun c1 => ⟨by unfold InR; omega, fun z ez => ⟨100 - (k + 1), by omega, rfl, k + 1, by omega, by omega, no (by omega) (fun y => by have := y.1; omega), rfl⟩⟩, fun c1 => ?_⟩⟩
    · show x1 = clF g (nc g 20)
      unfold clF
      rw [i2, show k = (g 1 7).toNat by omega]
    · have h9 : g 9 k = 1 := by
        rcases G.2.2.1 k (by omega) (by omega) with z | z
        · exact absurd z c1
        · exact z
      obtain ⟨va, vb⟩ := ends_v G ⟨by omega, by omega⟩ h9
      have va' := va
      have vb' := vb
      unfold vOK at va' vb'
      rw [← nc_v va, ← nc_v vb]
      refine ⟨by unfold InR; omega, by omega, by omega, fun z9 e9 => ⟨fun c2 => ⟨by unfold InR; omega, fun z ez => ⟨100 - (k + 1), by omega, rfl, k + 1, by omega, by omega, no (by omega) (fun y => y.2.1 (e9.symm.trans c2)), rfl⟩⟩, fun c2 => ⟨by unfold InR; omega, by unfold InR; omega, by omega, by omega, fun c3 => ⟨by unfold InR; omega, fun z ez => ⟨100 - (k + 1), by omega, rfl, k + 1, by omega, by omega, no (by omega) (fun y => c3 (e9.trans y.2.2)), rfl⟩⟩, fun c3 => ⟨by unfold InR; omega, fun z16 e16 => ⟨by unfold InR; omega, fun z ez => ⟨100 - (k + 1), by omega, rfl, k + 1, by omega, by omega, ?_, rfl⟩⟩⟩⟩⟩⟩
      rw [cnt_succ, if_pos ⟨h9, by rw [← e9]; exact c2, e9.symm.trans c3⟩, e16, i2]
  · unfold V_X0_equalEnds
    exact fun z0 e0 z1 e1 => ⟨100, rfl, 0, e1, by omega, e0, rfl⟩
-- the reference's
def q_colourCount (h : Hp) (r : Int) : Prop := r = ccF (nc h 36)
set_option maxHeartbeats 1000000 in
theorem ct_colourCount {l : Launch} (h : Hp) (hb : Sy h) : Ct l yX6_colourCount cX6_colourCount 5 (some .int) 0 0 0 [vr 30] h [] (fun r _ => q_colourCount h r) (fun _ => False) := by
  obtain ⟨R, G, m⟩ := hb
  have g1 := G.1
  have m1 : h 30 1 = h 1 6 := m.1
  refine w_X6_colourCount _
    (fun n g x1 x2 => g = h ∧ ∃ k : Nat, x2 = k ∧ 1 ≤ k ∧ k ≤ 6 ∧ x1 = cntP (fun x => 1 ≤ x ∧ ∃ v, nc h 36 v = x) k ∧ n = 6 - k)
    (fun n4 n g x1 x2 x3 x4 => g = h ∧ ∃ k j : Nat, x2 = k ∧ 1 ≤ k ∧ k < 6 ∧ x1 = cntP (fun x => 1 ≤ x ∧ ∃ v, nc h 36 v = x) k ∧ n4 = 6 - k ∧ x4 = j ∧ (j : Int) ≤ h 1 6 ∧ (x3 = 0 ↔ ∀ v : Int, 0 ≤ v → v < j → nc h 36 v ≠ k) ∧ n = 30 - j) h ?_ ?_ (fun _ => ?_)
  · rintro n g x1 x2 - F - - ⟨rfl, k, rfl, i1, i2, i3, i4⟩
    unfold V_X6_colourCount_4
    refine ⟨fun c => ?_, fun c z14 e14 z15 e15 => ⟨30, rfl, k, 0, rfl, i1, by omega, i3, i4, e15, by omega, ⟨fun _ v v1 v2 => by omega, fun _ => e14⟩, rfl⟩⟩
    show x1 = ccF (nc g 36)
    unfold ccF
    rw [i3, show k = 6 by omega]
  · rintro n4 n g x1 x2 x3 x4 - F - - - - ⟨rfl, k, j, rfl, i1, i2, i3, i4, rfl, i5, i6, i7⟩
    have hc := cntP_le (fun x => 1 ≤ x ∧ ∃ v, nc g 36 v = x) k
    unfold V_X6_colourCount_15 V_X6_colourCount_39 V_X6_colourCount_44 V_X6_colourCount_62
    rw [m1]
    refine ⟨fun c => ⟨fun c1 z1 e1 => ⟨by unfold InR; omega, fun z2 e2 => ⟨6 - (k + 1), by omega, rfl, k + 1, by omega, by omega, by omega, ?_, rfl⟩⟩, fun c1 => ⟨by unfold InR; omega, fun z1 e1 => ⟨by unfold InR; omega, fun z2 e2 => ⟨6 - (k + 1), by omega, rfl, k + 1, by omega, by omega, by omega, ?_, rfl⟩⟩⟩⟩, fun c => ⟨fun c1 z4 e4 => ⟨by unfold InR; omega, fun z5 e5 => ⟨30 - (j + 1), by omega, rfl, k, j + 1, rfl, i1, i2, i3, i4, by omega, by omega, ?_, rfl⟩⟩, fun c1 => ⟨by omega, fun c2 z4 e4 => ⟨by unfold InR; omega, fun z5 e5 => ⟨30 - (j + 1), by omega, rfl, k, j + 1, rfl, i1, i2, i3, i4, by omega, by omega, ?_, rfl⟩⟩, fun c2 z4 e4 => ⟨by unfold InR; omega, fun z5 e5 => ⟨30 - (j + 1), by omega, rfl, k, j + 1, rfl, i1, i2, i3, i4, by omega, by omega, ?_, rfl⟩⟩⟩⟩⟩
    · rw [e1, i3, cntP_f]
      rintro ⟨-, v, ev⟩
      by_cases hv : vOK g v
      · have hv' := hv
        unfold vOK at hv'
        exact i6.mp c1 v hv'.1 (by omega) ev
      · rw [nc_n hv] at ev
        omega
    · rw [e1, i3, cntP_t]
      refine ⟨by omega, ?_⟩
      apply Classical.byContradiction
      intro z
      exact c1 (i6.mpr (fun v _ _ ev => z ⟨v, ev⟩))
    · refine ⟨fun z => by omega, fun z => absurd (i6.mpr (fun v v1 v2 => z v v1 (by omega))) c1⟩
    · refine ⟨fun _ v v1 v2 => ?_, fun _ => e4⟩
      by_cases w : v = j
      · rw [w, nc_v ⟨by omega, by omega⟩]; exact c2
      · exact i6.mp c1 v v1 (by omega)
    · refine ⟨fun z => by omega, fun z => ?_⟩
      have := z j (by omega) (by omega)
      rw [nc_v ⟨by omega, by omega⟩] at this
      exact absurd c2 this
  · unfold V_X6_colourCount
    refine fun z0 e0 z1 e1 => ⟨5, rfl, 1, e1, by omega, by omega, ?_, rfl⟩
    rw [cntP_f (by rintro ⟨z, -⟩; omega), cntP_0, e0]
-- clashes
def q_mclashes (h : Hp) (r : Int) (h' : Hp) : Prop := r = clF h (nc h 36) ∧ h' = hup h 30 0 0
theorem ct_mclashes {l : Launch} (h : Hp) (hb : Sy h) (cr : CR (nc h 36)) : Ct l yX6_clashes cX6_clashes 3 (some .int) 0 0 0 [vr 30] h [30] (fun r h1 => q_mclashes h r h1) (fun _ => False) := by
  obtain ⟨R, G, m⟩ := hb
  have g1 := G.1
  have g2 := G.2.1
  have m2 : h 30 2 = h 1 7 := m.2.1
  refine w_X6_clashes _ (fun n g x1 x2 => g = hup h 30 0 0 ∧ ∃ k : Nat, x2 = k ∧ (k : Int) ≤ h 1 7 ∧ x1 = cnt (fun e => h 9 e = 1 ∧ nc h 36 (h 6 (2 * e)) ≠ 0 ∧ nc h 36 (h 6 (2 * e)) = nc h 36 (h 6 (2 * e + 1))) k ∧ n = 100 - k) h ?_ (fun _ => ?_)
  · rintro n g x1 x2 - F - - ⟨eg, k, rfl, i1, i2, i3⟩
    have hc := cnt_le (fun e => h 9 e = 1 ∧ nc h 36 (h 6 (2 * e)) ≠ 0 ∧ nc h 36 (h 6 (2 * e)) = nc h 36 (h 6 (2 * e + 1))) k
    unfold V_X6_clashes_9 V_X6_clashes_71 V_X6_clashes_72
    have k2 : g 30 2 = h 1 7 := by rw [eg, hup_o (fun z => by have := z.2; omega)]; exact m2
    rw [k2, F 33 (by decide), F 31 (by decide), F 32 (by decide), F 36 (by decide)]
    have no : (k : Int) < h 1 7 → ¬ (h 9 k = 1 ∧ nc h 36 (h 6 (2 * k)) ≠ 0 ∧ nc h 36 (h 6 (2 * k)) = nc h 36 (h 6 (2 * k + 1))) → x1 = cnt (fun e => h 9 e = 1 ∧ nc h 36 (h 6 (2 * e)) ≠ 0 ∧ nc h 36 (h 6 (2 * e)) = nc h 36 (h 6 (2 * e + 1))) (k + 1) := by
      intro _ z
      rw [cnt_succ, if_neg z, i2]
      omega
    refine ⟨fun c => ⟨?_, eg⟩, fun c => ?_⟩
    · unfold clF
      rw [i2, show k = (h 1 7).toNat by omega]
    · obtain ⟨e31, e32, e33⟩ := m.2.2.2.1 k (by omega) (by omega)
      rw [e31, e32, e33]
      refine ⟨by omega, fun c1 z1 e1 => ⟨by unfold InR; omega, fun z ez => ⟨100 - (k + 1), by omega, eg, k + 1, by omega, by omega, by rw [e1]; exact no (by omega) (fun y => by have := y.1; omega), rfl⟩⟩, fun c1 => ?_⟩
      have h9 : h 9 k = 1 := by omega
      obtain ⟨va, vb⟩ := ends_v G ⟨by omega, by omega⟩ h9
      have va' := va
      have vb' := vb
      unfold vOK at va' vb'
      rw [← nc_v (k := 36) va, ← nc_v (k := 36) vb]
      have hc1 := cr (h 6 (2 * k))
      refine ⟨by omega, by omega, fun c2 z1 e1 => ⟨by unfold InR; omega, fun z ez => ⟨100 - (k + 1), by omega, eg, k + 1, by omega, by omega, by rw [e1]; exact no (by omega) (fun y => by have := y.2.1; omega), rfl⟩⟩, fun c2 => ⟨by omega, by omega, by omega, by omega, fun c3 z1 e1 => ⟨by unfold InR; omega, fun z ez => ⟨100 - (k + 1), by omega, eg, k + 1, by omega, by omega, by rw [e1]; exact no (by omega) (fun y => c3 y.2.2), rfl⟩⟩, fun c3 => ⟨by unfold InR; omega, fun z1 e1 => ⟨by unfold InR; omega, fun z ez => ⟨100 - (k + 1), by omega, eg, k + 1, by omega, by omega, ?_, rfl⟩⟩⟩⟩⟩
      rw [cnt_succ, if_pos ⟨h9, by omega, c3⟩, e1, i2]
  · unfold V_X6_clashes
    exact fun h16 e16 z0 e0 z1 e1 => ⟨100, e16, 0, e1, by omega, e0, rfl⟩

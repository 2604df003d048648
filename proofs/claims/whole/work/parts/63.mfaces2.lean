/-! The reference's faces, sides, from -/
/-- the leader of face f -/
theorem face_ld {g : Hp} {R : Int → Nat → Int} (G : GI g R) {f : Int} (hf : 0 ≤ f ∧ f < cntP (LdF g) (2 * g 1 7).toNat) : ∃ t, LdF g t ∧ cntP (LdF g) t.toNat = f := by
  obtain ⟨a, a1, a2, a3⟩ := cntP_ex _ f hf.1 hf.2
  exact ⟨a, a2, by rw [show ((a : Int)).toNat = a by omega]; exact a3⟩
theorem ld_lt {g : Hp} {t : Int} (ht : LdF g t) : 0 ≤ t ∧ cntP (LdF g) t.toNat < cntP (LdF g) (2 * g 1 7).toNat := by
  have h0 := ht.1.1
  have h1 := ht.1.2.1
  exact ⟨h0, cntP_lt (by omega) (by rw [show ((t.toNat : Nat) : Int) = t by omega]; exact ht)⟩
/-- two leaders with one number are one -/
theorem ld_inj {g : Hp} {t u : Int} (ht : LdF g t) (hu : LdF g u) (e : cntP (LdF g) t.toNat = cntP (LdF g) u.toNat) : t = u := by
  have h0 := ht.1.1
  have h1 := hu.1.1
  rcases Int.lt_trichotomy t u with w | w | w
  · have := cntP_lt (p := LdF g) (a := t.toNat) (b := u.toNat) (by omega) (by rw [show ((t.toNat : Nat) : Int) = t by omega]; exact ht)
    omega
  · exact w
  · have := cntP_lt (p := LdF g) (a := u.toNat) (b := t.toNat) (by omega) (by rw [show ((u.toNat : Nat) : Int) = u by omega]; exact hu)
    omega
/-- a side's number is its leader's -/
theorem mfo_side {g h : Hp} {R : Int → Nat → Int} (G : GI g R) (m : MFO g h) {s t : Int} (hs : Sd g s) (ht : LdF g t) : h 37 s = cntP (LdF g) t.toNat ↔ Orb (ph g) t s := by
  have P := ph_perm G
  constructor
  · intro e
    obtain ⟨u, hu, o, -⟩ := lead_ex P hs
    have := m.2 u hu s o
    rw [ld_inj ht hu (by rw [← e, this])]
    exact o
  · exact m.2 t ht s
/-- how many sides a face has: its leader's period -/
theorem per_cnt {g : Hp} {R : Int → Nat → Int} (G : GI g R) {t : Int} {n : Nat} (ht : LdF g t) (p : Per (ph g) t n) : cntP (fun s => Sd g s ∧ Orb (ph g) t s) (2 * g 1 7).toNat = n := by
  have P := ph_perm G
  -- count a list without repetition: by removing one place after the other
  have key : ∀ (k : Nat), k ≤ n → cntP (fun s => ∃ i, i < k ∧ itF (ph g) i t = s) (2 * g 1 7).toNat = k := by
    intro k
    induction k with
    | zero =>
      intro _
      have : ∀ m : Nat, cntP (fun s => ∃ i, i < 0 ∧ itF (ph g) i t = s) m = 0 := by
        intro m
        induction m with
        | zero => rfl
        | succ m ih => rw [cntP_f (fun ⟨i, hi, _⟩ => by omega)]; exact ih
      exact this _
    | succ k ih =>
      intro hk
      have hs := P.it ht.1 k
      have h1 := @cnt_off (fun s => ∃ i, i < k + 1 ∧ itF (ph g) i t = s) (fun s => ∃ i, i < k ∧ itF (ph g) i t = s) (fun a => Classical.propDecidable _) (fun a => Classical.propDecidable _) (itF (ph g) k t) ⟨k, by omega, rfl⟩ (fun ⟨i, hi, e⟩ => by have := Per.inj P ht.1 p i k (by omega) (by omega) e; omega) (fun s hs => ⟨fun ⟨i, hi, e⟩ => ⟨i, by
        rcases Nat.lt_or_ge i k with w | w
        · exact w
        · exact absurd (by rw [← e, show i = k by omega]) hs, e⟩, fun ⟨i, hi, e⟩ => ⟨i, by omega, e⟩⟩) (2 * g 1 7).toNat hs.1 (by have := hs.2.1; omega)
      have h2 := ih (by omega)
      have h3 : cntP (fun s => ∃ i, i < k ∧ itF (ph g) i t = s) (2 * g 1 7).toNat = cntP (fun s => ∃ i, i < k + 1 ∧ itF (ph g) i t = s) (2 * g 1 7).toNat - 1 := h1
      omega
  have := key n (Nat.le_refl n)
  rw [← this]
  refine cntP_congr _ (fun k _ => ⟨fun z => ?_, fun ⟨i, hi, e⟩ => ?_⟩)
  · obtain ⟨i, hi, e⟩ := p.orb z.2
    exact ⟨i, hi, e⟩
  · exact ⟨by rw [← e]; exact P.it ht.1 i, i, e⟩
-- sidesOf
def p_sidesOf (_ : Int) (h : Hp) : Prop := Sy h ∧ MFO h h
def q_sidesOf (f : Int) (h : Hp) (r : Int) : Prop := r = cntP (fun s => Sd h s ∧ h 37 s = f) (2 * h 1 7).toNat
theorem ct_sidesOf {l : Launch} (f : Int) (h : Hp) (hb : p_sidesOf f h) : Ct l yX6_sidesOf cX6_sidesOf 4 (some .int) 0 0 0 [vr 30, vi f] h [] (fun r _ => q_sidesOf f h r) (fun _ => False) := by
  obtain ⟨⟨R, G, m⟩, mf⟩ := hb
  have g2 := G.2.1
  have hm2 : h 30 2 = h 1 7 := m.2.1
  refine w_X6_sidesOf _ (fun n g x1 x2 x3 => g = h ∧ x1 = f ∧ ∃ k : Nat, x3 = k ∧ (k : Int) ≤ 2 * h 1 7 ∧ x2 = cntP (fun s => Sd h s ∧ h 37 s = f) k ∧ n = 200 - k) h f ?_ (fun _ _ => ?_)
  · rintro n g x1 x2 x3 - - - - - ⟨rfl, rfl, k, rfl, i1, i2, i3⟩
    have hcl := cntP_le (fun s => Sd g s ∧ g 37 s = x1) k
    have hkk : ∀ y, y = cntP (fun s => Sd g s ∧ g 37 s = x1) (k + 1) → (k : Int) < 2 * g 1 7 → V_X6_sidesOf_42 (fun r _ => q_sidesOf x1 g r) (fun n g' y1 x2 x3 => g' = g ∧ y1 = x1 ∧ ∃ k : Nat, x3 = k ∧ (k : Int) ≤ 2 * g 1 7 ∧ x2 = cntP (fun s => Sd g s ∧ g 37 s = x1) k ∧ n = 200 - k) n g x1 k y := by
      intro y hy hk
      unfold V_X6_sidesOf_42
      exact fun z ez => ⟨by unfold InR; omega, fun z2 e2 => ⟨200 - (k + 1), by omega, rfl, rfl, k + 1, by omega, by omega, by rw [ez, hy], rfl⟩⟩
    unfold V_X6_sidesOf_4 V_X6_sidesOf_41
    rw [hm2, tdiv2 (show (0 : Int) ≤ k by omega)]
    refine ⟨by unfold InR; omega, fun c => ?_, fun c => ⟨⟨by omega, by unfold InR; omega⟩, by omega, fun c1 => hkk _ ?_ (by omega), fun c1 => ⟨by omega, fun c2 => hkk _ ?_ (by omega), fun c2 => ⟨by unfold InR; omega, hkk _ ?_ (by omega)⟩⟩⟩⟩
    · show x2 = _
      rw [i2]
      congr 1
      omega
    · rw [cntP_f (fun z => c1 ((here_m G m ⟨by omega, by omega⟩).mpr z.1)), i2]
    · rw [cntP_f (fun z => c2 z.2), i2]
    · rw [cntP_t ⟨(here_m G m ⟨by omega, by omega⟩).mp c1, c2⟩, i2]
  · unfold V_X6_sidesOf
    exact fun z1 e1 z2 e2 => ⟨200, rfl, rfl, 0, e2, by omega, by rw [e1]; rfl, rfl⟩
-- firstSide
def p_firstSide (f : Int) (h : Hp) : Prop := Sy h ∧ MFO h h ∧ 0 ≤ f ∧ f < h 30 12
def q_firstSide (f : Int) (h : Hp) (r : Int) : Prop := LdF h r ∧ cntP (LdF h) r.toNat = f
theorem ct_firstSide {l : Launch} (f : Int) (h : Hp) (hb : p_firstSide f h) : Ct l yX6_firstSide cX6_firstSide 3 (some .int) 0 0 0 [vr 30, vi f] h [] (fun r _ => q_firstSide f h r) (fun _ => False) := by
  obtain ⟨⟨R, G, m⟩, mf, hf⟩ := hb
  have P := ph_perm G
  rw [mf.1] at hf
  obtain ⟨t, ht, et⟩ := face_ld G hf
  have g2 := G.2.1
  have t1 := ht.1.1
  have t2 := ht.1.2.1
  have hm2 : h 30 2 = h 1 7 := m.2.1
  refine w_X6_firstSide _ (fun n g x1 x2 => g = h ∧ x1 = f ∧ ∃ k : Nat, x2 = k ∧ (k : Int) ≤ t ∧ n = 200 - k) h f ?_ (fun _ _ => ?_)
  · rintro n g x1 x2 - - - - ⟨rfl, rfl, k, rfl, i1, i3⟩
    have hkk : (k : Int) < t → V_X6_firstSide_35 (fun r _ => q_firstSide x1 g r) (fun n g' y1 x2 => g' = g ∧ y1 = x1 ∧ ∃ k : Nat, x2 = k ∧ (k : Int) ≤ t ∧ n = 200 - k) n g x1 k := by
      intro hk
      unfold V_X6_firstSide_35
      exact ⟨by unfold InR; omega, fun z ez => ⟨200 - (k + 1), by omega, rfl, rfl, k + 1, by omega, by omega, rfl⟩⟩
    have ne : ∀ w : (k : Int) = t, g 33 ((k : Int) / 2) = 0 ∧ g 37 k = x1 := fun w => by
      rw [w]
      exact ⟨(here_m G m ⟨t1, t2⟩).mpr ht.1, by rw [mf.2 t ht t Orb.rf]; exact et⟩
    unfold V_X6_firstSide_2
    rw [hm2, tdiv2 (show (0 : Int) ≤ k by omega)]
    refine ⟨by unfold InR; omega, fun c => by omega, fun c => ⟨⟨by omega, by unfold InR; omega⟩, by omega, fun c1 => hkk ?_, fun c1 => ⟨by omega, fun c2 => hkk ?_, fun c2 => ?_⟩⟩⟩
    · rcases Classical.em ((k : Int) = t) with w | w
      · exact absurd (ne w).1 c1
      · omega
    · rcases Classical.em ((k : Int) = t) with w | w
      · exact absurd (ne w).2 c2
      · omega
    · have hs := (here_m G m ⟨by omega, by omega⟩).mp c1
      have o := (mfo_side G mf hs ht).mp (by rw [c2]; exact et.symm)
      have hle : t ≤ k := by obtain ⟨i, e⟩ := o; have := ht.2 i; omega
      rw [show (k : Int) = t by omega]
      exact ⟨ht, et⟩
  · unfold V_X6_firstSide
    exact fun z ez => ⟨200, rfl, rfl, 0, ez, by omega, rfl⟩

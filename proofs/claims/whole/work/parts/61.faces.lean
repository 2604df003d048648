/-! FaceRows: the faces are the walks of ph; numbered by their leaders -/
def ph (g : Hp) (s : Int) : Int := g 7 (tw s)
theorem ph_perm {g : Hp} {R : Int → Nat → Int} (G : GI g R) : Perm (Sd g) (ph g) 200 := by
  refine ⟨fun s hs => (G.nb (Sd_tw hs)).1, fun s t hs ht e => ?_, fun s hs => Sd_lt G hs⟩
  have key : ∀ s, Sd g s → g 8 (g 7 s) = s := by
    intro s hs
    have H := G.ring (G.2.2.2.1 s hs).1
    obtain ⟨i, hi, e⟩ := H.2.2.2.1 s hs rfl
    by_cases w : (i : Int) + 1 = g 11 (g 6 s)
    · have q := H.2.2.2.2.2.2 i w
      rw [e] at q
      rw [q.1]; exact q.2
    · have q := H.2.2.2.2.2.1 i (by omega)
      rw [e] at q
      rw [q.1]; exact q.2
  have e : g 7 (tw s) = g 7 (tw t) := e
  have h1 := key _ (Sd_tw hs)
  rw [e, key _ (Sd_tw ht)] at h1
  exact (tw_inj h1).symm
abbrev LdF (g : Hp) : Int → Prop := Lead (Sd g) (ph g)
def p_walkFrom (t : Int) (h : Hp) : Prop := (∃ R, GI h R) ∧ Sd h t ∧ 0 ≤ h 2 4 ∧ h 2 4 < 200
def q_walkFrom (t : Int) (h h' : Hp) : Prop := (∀ u, Orb (ph h) t u → h' 12 u = h 2 4) ∧ (∀ u, ¬ Orb (ph h) t u → h' 12 u = h 12 u) ∧ h' 13 (h 2 4) = t ∧ (∀ j, j ≠ h 2 4 → h' 13 j = h 13 j) ∧ (∃ n, Per (ph h) t n ∧ h' 14 (h 2 4) = n) ∧ (∀ j, j ≠ h 2 4 → h' 14 j = h 14 j) ∧ h' 2 4 = h 2 4 + 1
set_option maxHeartbeats 1000000 in
theorem ct_walkFrom {l : Launch} (t : Int) (h : Hp) (hb : p_walkFrom t h) : Ct l yX1_walkFrom cX1_walkFrom 4 none 1 21 0 [vr 2, vi t] h [2, 12, 13, 14] (fun _ h1 => q_walkFrom t h h1) (fun _ => False) := by
  obtain ⟨⟨R, G⟩, ht, hc⟩ := hb
  have P := ph_perm G
  obtain ⟨per, pp, pN⟩ := P.per ht
  refine w_X1_walkFrom _ p_sideBehind q_sideBehind (fun n g x1 x2 x3 => x1 = t ∧ ∃ k : Nat, x3 = k ∧ k < per ∧ x2 = itF (ph h) k t ∧ g 2 = h 2 ∧ g 13 = h 13 ∧ g 14 = h 14 ∧ (∀ u, (∃ i, i < k ∧ itF (ph h) i t = u) → g 12 u = h 2 4) ∧ (∀ u, (¬ ∃ i, i < k ∧ itF (ph h) i t = u) → g 12 u = h 12 u) ∧ n = 200 - k) h t ct_sideBehind ?_ (fun _ _ => ?_)
  · rintro n g x1 x2 x3 - F - - - ⟨rfl, k, rfl, i1, rfl, i2, i3, i4, i5, i6, i7⟩
    have hs := P.it ht k
    have hlt := Sd_lt G hs
    unfold V_X1_walkFrom_4
    refine ⟨hlt, fun h8 e8 => ⟨hlt, fun r _ q z11 e11 => ⟨by unfold InR; omega, fun z12 e12 => ?_⟩⟩⟩
    have q : r = h8 7 (tw (itF (ph h) k x1)) := q
    have k7 : h8 7 = h 7 := by rw [e8, hup_k (by decide), F 7 (by decide)]
    have ez : z11 = itF (ph h) (k + 1) x1 := by rw [e11, q, k7]; rfl
    have a2 : h8 2 = h 2 := by rw [e8, hup_k (by decide), i2]
    have a13 : h8 13 = h 13 := by rw [e8, hup_k (by decide), i3]
    have a14 : h8 14 = h 14 := by rw [e8, hup_k (by decide), i4]
    have b1 : ∀ u, (∃ i, i < k + 1 ∧ itF (ph h) i x1 = u) → h8 12 u = h 2 4 := by
      rintro u ⟨i, hi, e⟩
      rw [e8]
      by_cases w : u = itF (ph h) k x1
      · rw [w, hup_s, i2]
      · rw [hup_o (fun z => w z.2)]
        refine i5 u ⟨i, ?_, e⟩
        rcases Nat.lt_or_ge i k with y | y
        · exact y
        · exact absurd (by rw [← e, show i = k by omega]) w
    have b2 : ∀ u, (¬ ∃ i, i < k + 1 ∧ itF (ph h) i x1 = u) → h8 12 u = h 12 u := by
      intro u hu
      rw [e8, hup_o (fun z => hu ⟨k, by omega, z.2.symm⟩)]
      exact i6 u (fun ⟨i, hi, e⟩ => hu ⟨i, by omega, e⟩)
    have fin : k + 1 = per → V_X1_walkFrom_38 (fun _ h1 => q_walkFrom x1 h h1) p_sideBehind q_sideBehind (fun n g y1 x2 x3 => y1 = x1 ∧ ∃ k : Nat, x3 = k ∧ k < per ∧ x2 = itF (ph h) k x1 ∧ g 2 = h 2 ∧ g 13 = h 13 ∧ g 14 = h 14 ∧ (∀ u, (∃ i, i < k ∧ itF (ph h) i x1 = u) → g 12 u = h 2 4) ∧ (∀ u, (¬ ∃ i, i < k ∧ itF (ph h) i x1 = u) → g 12 u = h 12 u) ∧ n = 200 - k) h8 x1 z12 := by
      intro hk
      unfold V_X1_walkFrom_38
      rw [a2]
      refine ⟨hc, fun g2 e2 => ?_⟩
      have c2 : g2 2 = h 2 := by rw [e2, hup_k (by decide), a2]
      rw [c2]
      refine ⟨hc, fun g4 e4 => ?_⟩
      have c4 : g4 2 = h 2 := by rw [e4, hup_k (by decide), c2]
      rw [c4]
      refine ⟨by unfold InR; omega, fun g6 e6 => ?_⟩
      have k12 : g6 12 = h8 12 := by rw [e6, hup_k (by decide), e4, hup_k (by decide), e2, hup_k (by decide)]
      refine ⟨fun u hu => ?_, fun u hu => ?_, ?_, fun j hj => ?_, ⟨per, pp, ?_⟩, fun j hj => ?_, by rw [e6, hup_s]⟩
      · rw [k12]
        obtain ⟨i, hi, e⟩ := pp.orb hu
        exact b1 u ⟨i, by omega, e⟩
      · rw [k12]
        exact b2 u (fun ⟨i, hi, e⟩ => hu ⟨i, e⟩)
      · rw [e6, hup_k (by decide), e4, hup_k (by decide), e2, hup_s]
      · rw [e6, hup_k (by decide), e4, hup_k (by decide), e2, hup_o (fun z => hj z.2), a13]
      · rw [e6, hup_k (by decide), e4, hup_s, e12]; omega
      · rw [e6, hup_k (by decide), e4, hup_o (fun z => hj z.2), e2, hup_k (by decide), a14]
    refine ⟨fun c => fin ?_, fun c => ⟨fun c2 => ⟨200 - (k + 1), by omega, rfl, k + 1, by omega, ?_, ez, a2, a13, a14, b1, b2, rfl⟩, fun c2 => fin ?_⟩⟩
    · rcases Nat.lt_or_ge (k + 1) per with y | y
      · exact absurd (by rw [← ez]; exact c) (pp.2.2 (k + 1) (by omega) y)
      · omega
    · rcases Nat.lt_or_ge (k + 1) per with y | y
      · exact y
      · exact absurd (by rw [ez, show k + 1 = per by omega]; exact pp.2.1) c
    · omega
  · unfold V_X1_walkFrom
    intro z1 e1 z2 e2
    exact ⟨200, rfl, 0, e2, pp.1, e1, rfl, rfl, rfl, fun u ⟨i, hi, _⟩ => by omega, fun u _ => rfl, rfl⟩
/-- the faces' rows as they should be, for the graph g -/
def FOK (g h : Hp) : Prop := h 2 4 = cntP (LdF g) (2 * g 1 7).toNat ∧ ∀ t, LdF g t → h 13 (cntP (LdF g) t.toNat) = t ∧ (∃ n, Per (ph g) t n ∧ h 14 (cntP (LdF g) t.toNat) = n) ∧ ∀ u, Orb (ph g) t u → h 12 u = cntP (LdF g) t.toNat
def p_fsurvey (h : Hp) : Prop := ∃ R, GI h R
def q_fsurvey (h h' : Hp) : Prop := FOK h h'
theorem ph_cong {g h : Hp} (e : h 7 = g 7) : ph h = ph g := by
  funext s
  unfold ph
  rw [e]
theorem Sd_cong {g h : Hp} (e1 : h 1 7 = g 1 7) (e9 : h 9 = g 9) : Sd h = Sd g := by
  funext s
  unfold Sd
  rw [e1, e9]
set_option maxHeartbeats 1000000 in
theorem ct_fsurvey {l : Launch} (h : Hp) (hb : p_fsurvey h) : Ct l yX1_survey cX1_survey 3 none 2 44 0 [vr 2] h [2, 12, 13, 14] (fun _ h1 => q_fsurvey h h1) (fun _ => False) := by
  obtain ⟨R, G⟩ := hb
  have P := ph_perm G
  have g2 := G.2.1
  -- the second loop: what stands when side s is looked at
  refine w_X1_survey _ p_walkFrom q_walkFrom (fun n g x1 x2 => x1 = 2 * h 1 7 ∧ ∃ k : Nat, x2 = k ∧ (k : Int) ≤ 2 * h 1 7 ∧ (∀ u : Int, 0 ≤ u → u < k → g 12 u = -1) ∧ n = 200 - k)
    (fun n g x1 x2 => x1 = 2 * h 1 7 ∧ ∃ k : Nat, x2 = k ∧ (k : Int) ≤ 2 * h 1 7 ∧ g 2 4 = cntP (LdF h) k ∧ (∀ t, LdF h t → t < k → g 13 (cntP (LdF h) t.toNat) = t ∧ (∃ n, Per (ph h) t n ∧ g 14 (cntP (LdF h) t.toNat) = n) ∧ ∀ u, Orb (ph h) t u → g 12 u = cntP (LdF h) t.toNat) ∧ (∀ u, Sd h u → (∀ t, LdF h t → t < k → ¬ Orb (ph h) t u) → g 12 u = -1) ∧ n = 200 - k) h ct_walkFrom ?_ ?_ (fun _ => ?_)
  · rintro n g x1 x2 - F - - ⟨rfl, k, rfl, i1, i2, i3⟩
    unfold V_X1_survey_12
    refine ⟨fun c h12 e12 z ez => ⟨200, rfl, 0, ez, by omega, ?_, fun t ht ht2 => ?_, fun u hu _ => ?_, rfl⟩, fun c => ⟨by omega, fun h15 e15 => ⟨by unfold InR; omega, fun z ez => ⟨200 - (k + 1), by omega, rfl, k + 1, by omega, by omega, fun u u1 u2 => ?_, rfl⟩⟩⟩⟩
    · rw [e12, hup_s]; rfl
    · have := (P.2.2 t ht.1).1
      omega
    · rw [e12, hup_k (by decide)]
      exact i2 u hu.1 (by have := hu.2.1; omega)
    · rw [e15]
      by_cases w : u = k
      · rw [w, hup_s]
      · rw [hup_o (fun z => w z.2)]
        exact i2 u u1 (by omega)
  · rintro n g x1 x2 - F - - ⟨rfl, k, rfl, i1, i2, i3, i4, i5⟩
    have k9 : g 9 = h 9 := F 9 (by decide)
    have k7 : g 7 = h 7 := F 7 (by decide)
    have k1 : g 1 = h 1 := F 1 (by decide)
    have eP : ph g = ph h := ph_cong k7
    have eS : Sd g = Sd h := Sd_cong (by rw [k1]) k9
    have hcl := cntP_le (LdF h) k
    have step : ∀ g' : Hp, g' 2 4 = cntP (LdF h) (k + 1) → (∀ t, LdF h t → t < ((k + 1 : Nat) : Int) → g' 13 (cntP (LdF h) t.toNat) = t ∧ (∃ n, Per (ph h) t n ∧ g' 14 (cntP (LdF h) t.toNat) = n) ∧ ∀ u, Orb (ph h) t u → g' 12 u = cntP (LdF h) t.toNat) → (∀ u, Sd h u → (∀ t, LdF h t → t < ((k + 1 : Nat) : Int) → ¬ Orb (ph h) t u) → g' 12 u = -1) → (k : Int) < 2 * h 1 7 →
        V_X1_survey_71 (fun _ h1 => q_fsurvey h h1) p_walkFrom q_walkFrom (fun n g x1 x2 => x1 = 2 * h 1 7 ∧ ∃ k : Nat, x2 = k ∧ (k : Int) ≤ 2 * h 1 7 ∧ (∀ u : Int, 0 ≤ u → u < k → g 12 u = -1) ∧ n = 200 - k)
        (fun n g x1 x2 => x1 = 2 * h 1 7 ∧ ∃ k : Nat, x2 = k ∧ (k : Int) ≤ 2 * h 1 7 ∧ g 2 4 = cntP (LdF h) k ∧ (∀ t, LdF h t → t < k → g 13 (cntP (LdF h) t.toNat) = t ∧ (∃ n, Per (ph h) t n ∧ g 14 (cntP (LdF h) t.toNat) = n) ∧ ∀ u, Orb (ph h) t u → g 12 u = cntP (LdF h) t.toNat) ∧ (∀ u, Sd h u → (∀ t, LdF h t → t < k → ¬ Orb (ph h) t u) → g 12 u = -1) ∧ n = 200 - k) n g' (2 * h 1 7) k := by
      intro g' s1 s2 s3 hk
      unfold V_X1_survey_71
      exact ⟨by unfold InR; omega, fun z ez => ⟨200 - (k + 1), by omega, rfl, k + 1, by omega, by omega, s1, s2, s3, rfl⟩⟩
    -- no new leader
    have same : (k : Int) < 2 * h 1 7 → ¬ LdF h k → (∀ t, LdF h t → t < ((k + 1 : Nat) : Int) → t < k) := fun _ hn t ht h2 => by
      rcases Classical.em (t < k) with w | w
      · exact w
      · exact absurd (show LdF h k by rw [← show t = (k : Int) by omega]; exact ht) hn
    unfold V_X1_survey_37
    rw [tdiv2 (show (0 : Int) ≤ k by omega)]
    refine ⟨fun c => ?_, fun c => ⟨⟨by omega, by unfold InR; omega⟩, by omega, fun c1 => ?_, fun c1 => ⟨by omega, fun c2 => ?_, fun c2 => ?_⟩⟩⟩
    · have hk : k = (2 * h 1 7).toNat := by omega
      refine ⟨by rw [i2, hk], fun t ht => i3 t ht ?_⟩
      have := ht.1.2.1
      omega
    · rw [k9] at c1
      have hn : ¬ LdF h k := fun z => by have := z.1.2.2; omega
      exact step g (by rw [i2, cntP_f hn]) (fun t ht h2 => i3 t ht (same (by omega) hn t ht h2)) (fun u hu hno => i4 u hu (fun t ht h2 => hno t ht (by omega))) (by omega)
    · rw [k9] at c1
      have hsd : Sd h k := ⟨by omega, by omega, by rcases G.2.2.1 ((k : Int) / 2) (by omega) (by omega) with w | w; exact absurd w c1; exact w⟩
      have hn : ¬ LdF h k := by
        intro z
        refine c2 (i4 k hsd (fun t ht h2 o => ?_))
        have := lead_uniq P ht z o
        omega
      exact step g (by rw [i2, cntP_f hn]) (fun t ht h2 => i3 t ht (same (by omega) hn t ht h2)) (fun u hu hno => i4 u hu (fun t ht h2 => hno t ht (by omega))) (by omega)
    · rw [k9] at c1
      have hsd : Sd h k := ⟨by omega, by omega, by rcases G.2.2.1 ((k : Int) / 2) (by omega) (by omega) with w | w; exact absurd w c1; exact w⟩
      have hld : LdF h k := by
        obtain ⟨t, ht, o, hle⟩ := lead_ex P hsd
        rcases Classical.em (t < k) with w | w
        · have := (i3 t ht w).2.2 k o
          have h3 := cntP_le (LdF h) t.toNat
          omega
        · rw [show (k : Int) = t by omega]; exact ht
      have hkn : (((k : Nat) : Int)).toNat = k := by omega
      refine ⟨⟨⟨R, ?_⟩, by rw [eS]; exact hsd, by rw [i2]; omega, by rw [i2]; omega⟩, fun h10 f10 _ q10 => ?_⟩
      · obtain ⟨x1, x2, x3, x4, x5, x6, x7⟩ := id G
        have k6 : g 6 = h 6 := F 6 (by decide)
        have k8 : g 8 = h 8 := F 8 (by decide)
        have k10 : g 10 = h 10 := F 10 (by decide)
        have k11 : g 11 = h 11 := F 11 (by decide)
        refine ⟨by rw [k1]; exact x1, by rw [k1]; exact x2, by rw [k1, k9]; exact x3, ?_, ?_, ?_, by rw [k1, k9]; exact x7⟩
        · rw [eS, k6, k1]; exact x4
        · rw [eS, k6]; exact x5
        · exact x6.cong (fun s => by rw [eS]) (by rw [k1]) k6 k7 k8 k10 k11
      · obtain ⟨q1, q2, q3, q4, ⟨pn, q5, q6⟩, q7, q8⟩ := q10
        rw [eP] at q1 q2 q5
        rw [i2] at q1 q3 q4 q6 q7 q8
        refine step h10 (by rw [q8, cntP_t hld]) (fun t ht h2 => ?_) (fun u hu hno => ?_) (by omega)
        · by_cases w : t = k
          · rw [w, hkn]
            exact ⟨q3, ⟨pn, q5, q6⟩, fun u hu => q1 u hu⟩
          · have h3 := i3 t ht (by omega)
            have h0 := (P.2.2 t ht.1).1
            have hlt : cntP (LdF h) t.toNat < cntP (LdF h) k := cntP_lt (by omega) (by rw [show ((t.toNat : Nat) : Int) = t by omega]; exact ht)
            refine ⟨by rw [q4 _ (by omega)]; exact h3.1, ?_, fun u hu => ?_⟩
            · rw [q7 _ (by omega)]; exact h3.2.1
            · rw [q2 u (fun z => w (lead_uniq P ht hld (hu.trans (z.symm P hsd))))]
              exact h3.2.2 u hu
        · rw [q2 u (hno k hld (by omega))]
          exact i4 u hu (fun t ht h2 => hno t ht (by omega))
  · unfold V_X1_survey
    exact ⟨by unfold InR; omega, fun z1 e1 z2 e2 => ⟨200, e1, 0, e2, by omega, fun u u1 u2 => by omega, rfl⟩⟩

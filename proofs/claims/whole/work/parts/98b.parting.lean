/-! Both sides of a cycle: the class's partBy, the reference's findInside and countSide -/
def FIn (h : Hp) (e f : Int) : Prop := InF h (fun k => k ∈ cyE h e) (fcF h (2 * e)) f
def siI (h : Hp) (e v : Int) : Prop := tr h 18 v = tr h 18 (h 6 (2 * e)) ∧ v ∉ cyV h e ∧ FIn h e (fcF h (h 10 v))
def siO (h : Hp) (e v : Int) : Prop := tr h 18 v = tr h 18 (h 6 (2 * e)) ∧ v ∉ cyV h e ∧ ¬ FIn h e (fcF h (h 10 v))
noncomputable def cntIn (h : Hp) (e : Int) : Int := cntP (siI h e) (h 1 6).toNat
noncomputable def cntOut (h : Hp) (e : Int) : Int := cntP (siO h e) (h 1 6).toNat
theorem part_deg {h : Hp} {R : Int → Nat → Int} (G : GI h R) {e v : Int} (he : eOK h e) (hv : vOK h v) (ep : tr h 18 v = tr h 18 (h 6 (2 * e))) : 0 < h 11 v := by
  obtain ⟨⟨s1, s2⟩, hu, -, -⟩ := edge_ok G he
  have hd := G.deg hv
  apply Classical.byContradiction
  intro z
  have iso : Iso (Sd h) (h 6) v := (iso_iff G hv).mpr (by omega)
  have cn := part_Cn G hv hu ep
  have := cn (fun x => x = v) rfl (fun s hs y => absurd y (iso s hs))
  exact iso _ s1 this
theorem FIn_gs {h h' : Hp} {R : Int → Nat → Int} (G : GI h R) (gs : Gs h h') {e : Int} (he : eOK h e) (f : Int) : FIn h' e f ↔ FIn h e f := by
  unfold FIn
  rw [fcF_gs gs, (cyF_gs G gs he).2]
  exact (InF_cong gs (fun k _ _ => Iff.rfl)).symm
theorem si_gs {h h' : Hp} {R : Int → Nat → Int} (G : GI h R) (gs : Gs h h') {e v : Int} (he : eOK h e) (hv : vOK h v) : (siI h' e v ↔ siI h e v) ∧ (siO h' e v ↔ siO h e v) := by
  obtain ⟨-, hu, -, -⟩ := edge_ok G he
  have T := (tr_gs G gs).2
  unfold siI siO
  rw [gs.2.1, gs.2.2.2.2.2.1, (T v hv).1, (T _ hu).1, cyV_gs G gs he, fcF_gs gs, FIn_gs G gs he]
  exact ⟨Iff.rfl, Iff.rfl⟩
theorem n_gs {h h' : Hp} {R : Int → Nat → Int} (G : GI h R) (gs : Gs h h') {e : Int} (he : eOK h e) : cntIn h' e = cntIn h e ∧ cntOut h' e = cntOut h e := by
  unfold cntIn cntOut
  rw [gs.1]
  exact ⟨cntP_congr _ (fun k hk => (si_gs G gs he ⟨by omega, by omega⟩).1), cntP_congr _ (fun k hk => (si_gs G gs he ⟨by omega, by omega⟩).2)⟩
-- partBy
def p_partBy (e : Int) (h : Hp) : Prop := (∃ R, GI h R) ∧ TS h ∧ FOK h h ∧ eOK h e
def q_partBy (e : Int) (h h' : Hp) : Prop := h' 5 8 = (cyV h e).length ∧ h' 5 9 = cntIn h e ∧ h' 5 10 = cntOut h e
set_option maxHeartbeats 1000000 in
theorem ct_partBy {l : Launch} (e : Int) (h : Hp) (hb : p_partBy e h) : Ct l yX3_partBy cX3_partBy 2 none 3 67 0 [vr 5, vi e] h [5, 26, 27, 28, 29] (fun _ h1 => q_partBy e h h1) (fun _ => False) := by
  obtain ⟨⟨R, G⟩, ts, fok, he⟩ := hb
  obtain ⟨⟨s1, s2⟩, hu, hv, ep⟩ := edge_ok G he
  have g1 := G.1
  have ls := Sd_lt G s1
  have hu' := hu
  unfold vOK at hu'
  refine w_X3_partBy _ p_mark q_mark p_mfi q_mfi p_countV q_countV h e ct_mark ct_mfi ct_countV (fun _ _ => ?_)
  unfold V_X3_partBy
  refine ⟨⟨⟨R, G⟩, ts, he⟩, fun h2 f2 _ q2 => ?_⟩
  have gs2 : Gs h h2 := Gs.of f2 (by decide)
  have e12 : h2 12 (2 * e) = fcF h (2 * e) := by rw [f2 12 (by decide)]; exact fok_at G fok s1
  have fr := fcF_r G s1
  have fok2 : FOK h2 h2 := FOK_gs gs2 fok (f2 2 (by decide)) (f2 12 (by decide)) (f2 13 (by decide)) (f2 14 (by decide))
  rw [e12]
  refine ⟨by unfold InR; omega, by omega, ⟨⟨R, Gs_GI gs2 G⟩, fok2, by rw [Gs_nF gs2]; exact fr⟩, fun h6 f6 _ q6 => ?_⟩
  have gs6 : Gs h h6 := gs2.tr (Gs.of f6 (by decide))
  have k6 : h6 6 = h 6 := gs6.2.1
  have k18 : h6 18 = h 18 := by rw [f6 18 (by decide), f2 18 (by decide)]
  have fok6 : FOK h6 h6 := FOK_gs gs2 fok (f2 2 (by decide)) (f2 12 (by decide)) (f2 13 (by decide)) (f2 14 (by decide)) |> fun z => FOK_gs (Gs.of f6 (by decide)) z (f6 2 (by decide)) (f6 12 (by decide)) (f6 13 (by decide)) (f6 14 (by decide))
  rw [k6, k18]
  have inv : ∀ v, vOK h v → (h6 18 v = h 18 (h 6 (2 * e)) ↔ tr h 18 v = tr h 18 (h 6 (2 * e))) := by
    intro v hv
    rw [k18, (ts.2 v hv).1, (ts.2 _ hu).1]
  have m26 : ∀ v, vOK h v → (h6 26 v = 0 ↔ v ∉ cyV h e) := by
    intro v hv
    rw [f6 26 (by decide), q2.1 v hv]
    by_cases w : v ∈ cyV h e
    · rw [if_pos w]; exact ⟨fun z => absurd z (by decide), fun z => absurd w z⟩
    · rw [if_neg w]; exact ⟨fun _ => w, fun _ => rfl⟩
  refine ⟨by unfold InR; omega, by omega, by omega, ⟨⟨R, Gs_GI gs6 G⟩, fok6, fun v hv a b => ?_⟩, fun h11 f11 _ q11 => ?_⟩
  · have hv' : vOK h v := by unfold vOK at hv ⊢; rw [gs6.1] at hv; exact hv
    rw [gs6.2.2.2.2.2.2]
    exact part_deg G he hv' ((inv v hv').mp a)
  · obtain ⟨a1, a2, a3⟩ := q11
    have ff : ∀ v, vOK h v → tr h 18 v = tr h 18 (h 6 (2 * e)) → (h6 28 (h6 12 (h6 10 v)) = 0 ↔ ¬ FIn h e (fcF h (h 10 v))) := by
      intro v hv etr
      have hd := part_deg G he hv etr
      have hs : Sd h (h 10 v) := (sk_S G hv (k := 0) (by omega)).1
      have e1 : h6 12 (h6 10 v) = fcF h (h 10 v) := by
        rw [f6 12 (by decide), f2 12 (by decide), gs6.2.2.2.2.2.1]
        exact fok_at G fok hs
      have r := fcF_r G hs
      rw [e1, q6.1 _ r.1 (by rw [Gs_nF gs2]; exact r.2)]
      refine not_congr ?_
      unfold FIn
      refine (InF_cong gs2 (fun k k1 k2 => ?_)).symm
      show k ∈ cyE h e ↔ h2 27 k ≠ 0
      rw [q2.2.1 k k1 k2]
      by_cases w : k ∈ cyE h e
      · rw [if_pos w]; exact ⟨fun _ => by decide, fun _ => w⟩
      · rw [if_neg w]; exact ⟨fun z => absurd z w, fun z => absurd rfl z⟩
    have hI : cntP (cvI h6 (h 18 (h 6 (2 * e)))) (h6 1 6).toNat = cntIn h e := by
      unfold cntIn
      rw [gs6.1]
      refine cntP_congr _ (fun k hk => ?_)
      have vk : vOK h k := ⟨by omega, by omega⟩
      unfold cvI siI
      rw [inv k vk, m26 k vk]
      exact and_congr_right (fun x => and_congr Iff.rfl (by rw [Ne, ff k vk x]; exact Classical.not_not))
    have hO : cntP (cvO h6 (h 18 (h 6 (2 * e)))) (h6 1 6).toNat = cntOut h e := by
      unfold cntOut
      rw [gs6.1]
      refine cntP_congr _ (fun k hk => ?_)
      have vk : vOK h k := ⟨by omega, by omega⟩
      unfold cvO siO
      rw [inv k vk, m26 k vk]
      exact and_congr_right (fun x => and_congr Iff.rfl (ff k vk x))
    refine ⟨?_, by rw [a1]; exact hI, by rw [a2]; exact hO⟩
    rw [a3 8 (by decide) (by decide), q6.2 8 (by decide)]
    exact q2.2.2.1
-- findInside
def p_findInside (e : Int) (h : Hp) : Prop := Sy h ∧ MFO h h ∧ eOK h e
def q_findInside (e : Int) (h h' : Hp) : Prop := ∀ x, 0 ≤ x → x < nF h → (h' 46 x = 0 ↔ ¬ InF h (fun k => h 45 k ≠ 0) (fcF h (2 * e)) x)
theorem cntP_dec {p q : Int → Prop} {n : Nat} {x : Int} (hx : 0 ≤ x ∧ x < n) (px : p x) (hq : ∀ k, q k ↔ p k ∧ k ≠ x) : cntP q n = cntP p n - 1 := cntP_del px hq hx.1 hx.2
set_option maxHeartbeats 1000000 in
theorem ct_findInside {l : Launch} (e : Int) (h : Hp) (hb : p_findInside e h) : Ct l yX6_findInside cX6_findInside 4 none 0 0 0 [vr 30, vi e] h [46] (fun _ h1 => q_findInside e h h1) (fun _ => False) := by
  obtain ⟨⟨R, G, m⟩, mfo, he⟩ := hb
  obtain ⟨⟨s1, s2⟩, hu, hv, ep⟩ := edge_ok G he
  have g2 := G.2.1
  have nF0 := nF_le G
  have e12 : h 30 12 = nF h := mfo.1
  have m2 : h 30 2 = h 1 7 := m.2.1
  have ls := Sd_lt G s1
  have e37 : h 37 (2 * e) = fcF h (2 * e) := mfo_at G mfo s1
  have fr := fcF_r G s1
  obtain ⟨N, eN⟩ : ∃ N : Nat, nF h = N := ⟨(nF h).toNat, by omega⟩
  obtain ⟨I, eI⟩ : ∃ I : Int → Prop, I = InF h (fun k => h 45 k ≠ 0) (fcF h (2 * e)) := ⟨_, rfl⟩
  refine w_X6_findInside _
    (fun n g x1 x2 => x1 = e ∧ ∃ k : Nat, x2 = k ∧ (k : Int) ≤ N ∧ (∀ w : Int, 0 ≤ w → w < k → g 46 w = if w = fcF h (2 * e) then 1 else 0) ∧ n = 200 - k)
    (fun n g x2 => (x2 = 0 ∨ x2 = 1) ∧ (∀ w : Int, 0 ≤ w → w < N → g 46 w = 0 ∨ g 46 w = 1) ∧ g 46 (fcF h (2 * e)) = 1 ∧ (∀ w : Int, 0 ≤ w → w < N → g 46 w = 1 → I w) ∧ (x2 = 0 → ∀ s, Sd h s → h 45 (s / 2) = 0 → g 46 (fcF h s) = g 46 (fcF h (tw s))) ∧ (n : Int) = 2 * cntP (fun x => g 46 x = 0) N + x2)
    (fun n41 n g x2 x3 => (x2 = 0 ∨ x2 = 1) ∧ (∀ w : Int, 0 ≤ w → w < N → g 46 w = 0 ∨ g 46 w = 1) ∧ g 46 (fcF h (2 * e)) = 1 ∧ (∀ w : Int, 0 ≤ w → w < N → g 46 w = 1 → I w) ∧ ∃ k : Nat, x3 = k ∧ (k : Int) ≤ h 1 7 ∧ (x2 = 0 → ∀ s, Sd h s → s / 2 < k → h 45 (s / 2) = 0 → g 46 (fcF h s) = g 46 (fcF h (tw s))) ∧ 2 * cntP (fun x => g 46 x = 0) N + 2 * x2 < n41 ∧ n = 100 - k) h e ?_ ?_ ?_ (fun _ _ => ?_)
  · rintro n g x1 x2 - F - - ⟨rfl, k, rfl, i1, i2, i3⟩
    have k37 : g 37 = h 37 := F 37 (by decide)
    unfold V_X6_findInside_2 V_X6_findInside_32
    rw [F 30 (by decide), e12, k37, e37]
    refine ⟨fun c z35 e35 => ?_, fun c => ⟨by unfold InR; omega, by omega, fun c1 => ⟨by omega, Or.inl rfl, fun h30 e30 => ⟨by unfold InR; omega, fun z ez => ⟨200 - (k + 1), by omega, rfl, k + 1, by omega, by omega, fun w w1 w2 => ?_, rfl⟩⟩⟩, fun c1 => ⟨by omega, Or.inr rfl, fun h30 e30 => ⟨by unfold InR; omega, fun z ez => ⟨200 - (k + 1), by omega, rfl, k + 1, by omega, by omega, fun w w1 w2 => ?_, rfl⟩⟩⟩⟩⟩
    · have cl := cntP_le (fun x => g 46 x = 0) N
      refine ⟨(2 * cntP (fun x => g 46 x = 0) N + z35).toNat, Or.inr e35, fun w w1 w2 => ?_, ?_, fun w w1 w2 a => ?_, fun z => by omega, by omega⟩
      · rw [i2 w w1 (by omega)]
        split
        · exact Or.inr rfl
        · exact Or.inl rfl
      · rw [i2 _ fr.1 (by omega), if_pos rfl]
      · rw [i2 w w1 (by omega)] at a
        by_cases z : w = fcF h (2 * x1)
        · rw [z, eI]; exact InF.rf
        · rw [if_neg z] at a
          omega
    · rw [e30]
      by_cases z : w = k
      · rw [z, hup_s, if_neg c1]
      · rw [hup_o (fun q => z q.2)]
        exact i2 w w1 (by omega)
    · rw [e30]
      by_cases z : w = k
      · rw [z, hup_s, if_pos c1]
      · rw [hup_o (fun q => z q.2)]
        exact i2 w w1 (by omega)
  · rintro n g x2 - F - ⟨b0, b1, b2, b3, b4, b5⟩
    have cl := cntP_le (fun x => g 46 x = 0) N
    unfold V_X6_findInside_41
    refine ⟨fun c => ?_, fun c z27 e27 z28 e28 => ⟨100, Or.inl e27, b1, b2, b3, 0, e28, by omega, fun _ s hs z => by have := hs.1; omega, by omega, rfl⟩⟩
    intro x h1 h2
    have cl2 : I x → g 46 x = 1 := by
      intro a
      rw [eI] at a
      have := a (fun y => (0 ≤ y ∧ y < N) ∧ g 46 y = 1) ⟨⟨fr.1, by omega⟩, b2⟩ (fun s hs hc hm => by
        have r := fcF_r G (Sd_tw hs)
        refine ⟨⟨r.1, by omega⟩, ?_⟩
        rw [← b4 c s hs (Classical.byContradiction hc)]
        exact hm.2)
      exact this.2
    show g 46 x = 0 ↔ ¬ InF h (fun k => h 45 k ≠ 0) (fcF h (2 * e)) x
    rw [← eI]
    constructor
    · intro z a
      have := cl2 a
      omega
    · intro z
      rcases b1 x h1 (by omega) with q | q
      · exact q
      · exact absurd (b3 x h1 (by omega) q) z
  · rintro n41 n g x2 x3 - F - - ⟨b0, b1, b2, b3, k, rfl, i1, i2, i3, i4⟩
    have cl := cntP_le (fun x => g 46 x = 0) N
    have next : ∀ (g' : Hp) (y : Int), (y = 0 ∨ y = 1) → (∀ w : Int, 0 ≤ w → w < N → g' 46 w = 0 ∨ g' 46 w = 1) → g' 46 (fcF h (2 * e)) = 1 → (∀ w : Int, 0 ≤ w → w < N → g' 46 w = 1 → I w) → (k : Int) < h 1 7 → (y = 0 → ∀ s, Sd h s → s / 2 < ((k + 1 : Nat) : Int) → h 45 (s / 2) = 0 → g' 46 (fcF h s) = g' 46 (fcF h (tw s))) → 2 * cntP (fun x => g' 46 x = 0) N + 2 * y < n41 → V_X6_findInside_138 (fun _ h1 => q_findInside e h h1)
        (fun n g x1 x2 => x1 = e ∧ ∃ k : Nat, x2 = k ∧ (k : Int) ≤ N ∧ (∀ w : Int, 0 ≤ w → w < k → g 46 w = if w = fcF h (2 * e) then 1 else 0) ∧ n = 200 - k)
        (fun n g x2 => (x2 = 0 ∨ x2 = 1) ∧ (∀ w : Int, 0 ≤ w → w < N → g 46 w = 0 ∨ g 46 w = 1) ∧ g 46 (fcF h (2 * e)) = 1 ∧ (∀ w : Int, 0 ≤ w → w < N → g 46 w = 1 → I w) ∧ (x2 = 0 → ∀ s, Sd h s → h 45 (s / 2) = 0 → g 46 (fcF h s) = g 46 (fcF h (tw s))) ∧ (n : Int) = 2 * cntP (fun x => g 46 x = 0) N + x2)
        (fun n41 n g x2 x3 => (x2 = 0 ∨ x2 = 1) ∧ (∀ w : Int, 0 ≤ w → w < N → g 46 w = 0 ∨ g 46 w = 1) ∧ g 46 (fcF h (2 * e)) = 1 ∧ (∀ w : Int, 0 ≤ w → w < N → g 46 w = 1 → I w) ∧ ∃ k : Nat, x3 = k ∧ (k : Int) ≤ h 1 7 ∧ (x2 = 0 → ∀ s, Sd h s → s / 2 < k → h 45 (s / 2) = 0 → g 46 (fcF h s) = g 46 (fcF h (tw s))) ∧ 2 * cntP (fun x => g 46 x = 0) N + 2 * x2 < n41 ∧ n = 100 - k) n41 n g' y k := by
      intro g' y a0 a1 a2 a3 a4 a5 a6
      unfold V_X6_findInside_138
      exact ⟨by unfold InR; omega, fun z ez => ⟨100 - (k + 1), by omega, a0, a1, a2, a3, k + 1, by omega, by omega, a5, a6, rfl⟩⟩
    -- edges that don't matter, or already agree
    have same : (k : Int) < h 1 7 → ((h 9 k = 1 ∧ h 45 k = 0) → g 46 (fcF h (2 * k)) = g 46 (fcF h (2 * k + 1))) → x2 = 0 → ∀ s, Sd h s → s / 2 < ((k + 1 : Nat) : Int) → h 45 (s / 2) = 0 → g 46 (fcF h s) = g 46 (fcF h (tw s)) := by
      intro _ hk x0 s hs hs2 hc
      by_cases w : s / 2 = k
      · have h9 := hs.2.2
        rw [w] at h9 hc
        rcases half_cases s k w with z | z
        · rw [z, tw_e]; exact hk ⟨h9, hc⟩
        · rw [z, tw_o]; exact (hk ⟨h9, hc⟩).symm
      · exact i2 x0 s hs (by omega) hc
    unfold V_X6_findInside_49
    rw [F 30 (by decide), m2, F 33 (by decide), F 45 (by decide), F 37 (by decide)]
    refine ⟨fun c => ?_, fun c => ?_⟩
    · refine ⟨(2 * cntP (fun x => g 46 x = 0) N + x2).toNat, by omega, b0, b1, b2, b3, fun x0 s hs hc => i2 x0 s hs (by have := hs.2.1; omega) hc, by omega⟩
    · obtain ⟨-, -, e33⟩ := m.2.2.2.1 k (by omega) (by omega)
      rw [e33]
      refine ⟨by omega, fun c1 => next g x2 b0 b1 b2 b3 (by omega) (same (by omega) (fun z => by omega)) i3, fun c1 => ⟨by omega, fun c2 => next g x2 b0 b1 b2 b3 (by omega) (same (by omega) (fun z => absurd z.2 c2)) i3, fun c2 => ?_⟩⟩
      have ek : eOK h k := ⟨⟨by omega, by omega⟩, by omega⟩
      obtain ⟨⟨t1, t2⟩, -⟩ := edge_ok G ek
      have l1 := Sd_lt G t1
      have l2 := Sd_lt G t2
      have r1 := fcF_r G t1
      have r2 := fcF_r G t2
      rw [mfo_at G mfo t1, mfo_at G mfo t2]
      refine ⟨by unfold InR; omega, by omega, by omega, by unfold InR; omega, by unfold InR; omega, by omega, by omega, fun c3 => next g x2 b0 b1 b2 b3 (by omega) (same (by omega) (fun _ => c3)) i3, fun c3 => ⟨by unfold InR; omega, by omega, by omega, fun h19 e19 => ?_⟩⟩
      have k37 : h19 37 = h 37 := by rw [e19, hup_k (by decide), F 37 (by decide)]
      rw [k37, mfo_at G mfo t2]
      refine ⟨by unfold InR; omega, by unfold InR; omega, by omega, by omega, fun h24 e24 z25 e25 => ?_⟩
      have both : I (fcF h (2 * k)) ∧ I (fcF h (2 * k + 1)) := by
        have cr := InF.iff (C := fun k => h 45 k ≠ 0) (f := fcF h (2 * e)) t1 (by rw [show 2 * (k : Int) / 2 = k by omega]; exact fun z => z c2)
        rw [tw_e, ← eI] at cr
        rcases b1 _ r1.1 (by omega) with q1 | q1
        · rcases b1 _ r2.1 (by omega) with q2 | q2
          · exact absurd (q1.trans q2.symm) c3
          · have := b3 _ r2.1 (by omega) q2
            exact ⟨cr.mpr this, this⟩
        · have := b3 _ r1.1 (by omega) q1
          exact ⟨this, cr.mp this⟩
      have new : ∀ w, h24 46 w = if w = fcF h (2 * k) ∨ w = fcF h (2 * k + 1) then 1 else g 46 w := by
        intro w
        rw [e24]
        by_cases z2 : w = fcF h (2 * k + 1)
        · rw [z2, hup_s, if_pos (Or.inr rfl)]
        · rw [hup_o (fun q => z2 q.2), e19]
          by_cases z1 : w = fcF h (2 * k)
          · rw [z1, hup_s, if_pos (Or.inl rfl)]
          · rw [hup_o (fun q => z1 q.2), if_neg (fun q => by rcases q with q | q; exact z1 q; exact z2 q)]
      -- the one that was not marked
      obtain ⟨x, x1, x2', x3⟩ : ∃ x : Int, (0 ≤ x ∧ x < N) ∧ g 46 x = 0 ∧ ∀ w, h24 46 w = 0 ↔ g 46 w = 0 ∧ w ≠ x := by
        have aux : ∀ a b, (a = fcF h (2 * k) ∧ b = fcF h (2 * k + 1)) ∨ (a = fcF h (2 * k + 1) ∧ b = fcF h (2 * k)) → g 46 a = 0 → g 46 b = 1 → ∀ w, h24 46 w = 0 ↔ g 46 w = 0 ∧ w ≠ a := by
          intro a b hab ha hb w
          rw [new w]
          by_cases z1 : w = a
          · rw [if_pos (by rcases hab with q | q; exact Or.inl (z1.trans q.1); exact Or.inr (z1.trans q.1))]
            exact ⟨fun y => absurd y (by decide), fun y => absurd z1 y.2⟩
          · by_cases z2 : w = b
            · rw [if_pos (by rcases hab with q | q; exact Or.inr (z2.trans q.2); exact Or.inl (z2.trans q.2)), z2, hb]
              exact ⟨fun y => absurd y (by decide), fun y => absurd y.1 (by decide)⟩
            · rw [if_neg (fun q => by rcases hab with y | y <;> rcases q with q | q; exact z1 (q.trans y.1.symm); exact z2 (q.trans y.2.symm); exact z2 (q.trans y.2.symm); exact z1 (q.trans y.1.symm))]
              exact ⟨fun y => ⟨y, z1⟩, fun y => y.1⟩
        rcases b1 _ r1.1 (by omega) with q1 | q1
        · rcases b1 _ r2.1 (by omega) with q2 | q2
          · exact absurd (q1.trans q2.symm) c3
          · exact ⟨fcF h (2 * k), ⟨r1.1, by omega⟩, q1, aux _ _ (Or.inl ⟨rfl, rfl⟩) q1 q2⟩
        · rcases b1 _ r2.1 (by omega) with q2 | q2
          · exact ⟨fcF h (2 * k + 1), ⟨r2.1, by omega⟩, q2, aux _ _ (Or.inr ⟨rfl, rfl⟩) q2 q1⟩
          · exact absurd (q1.trans q2.symm) c3
      have dec := cntP_dec (p := fun x => g 46 x = 0) (q := fun x => h24 46 x = 0) (n := N) x1 x2' x3
      refine next h24 z25 (Or.inr e25) (fun w w1 w2 => ?_) ?_ (fun w w1 w2 a => ?_) (by omega) (fun z => by omega) (by rcases b0 with q | q <;> omega)
      · rw [new w]
        split
        · exact Or.inr rfl
        · exact b1 w w1 w2
      · rw [new, b2]
        split <;> rfl
      · rw [new w] at a
        by_cases z : w = fcF h (2 * k) ∨ w = fcF h (2 * k + 1)
        · rcases z with z | z
          · rw [z]; exact both.1
          · rw [z]; exact both.2
        · rw [if_neg z] at a
          exact b3 w w1 w2 a
  · unfold V_X6_findInside
    exact fun z ez => ⟨200, rfl, 0, ez, by omega, fun w w1 w2 => by omega, rfl⟩

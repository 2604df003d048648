/-! Graph: adding an edge, dropping one, are two joined -/
theorem cnt_succ (p : Int → Prop) [DecidablePred p] (k : Nat) : cnt p (k + 1) = cnt p k + (if p k then 1 else 0) := rfl
theorem put_k {h : Hp} {x v b0 : Int} {k : Nat} (h6 : k ≠ 6) (h7 : k ≠ 7) (h8 : k ≠ 8) (h10 : k ≠ 10) (h11 : k ≠ 11) : putH h x v b0 k = h k := by
  unfold putH
  split
  · rw [hup_k h11, hup_k h8, hup_k h7, hup_k h10, hup_k h6]
  · rw [hup_k h11, link_k h7 h8, link_k h7 h8, hup_k h6]
theorem put_6 {h : Hp} {x v b0 : Int} : putH h x v b0 6 = hup h 6 x v 6 := by
  unfold putH
  split
  · rw [hup_k (by decide), hup_k (by decide), hup_k (by decide), hup_k (by decide)]
  · rw [hup_k (by decide), link_k (by decide) (by decide), link_k (by decide) (by decide)]
theorem put_11 {h : Hp} {x v b0 : Int} : putH h x v b0 11 = hup h 11 v (h 11 v + 1) 11 := by
  unfold putH
  split
  · funext b
    unfold hup
    simp
  · funext b
    unfold hup linkH hup
    simp
theorem take_k {h : Hp} {x : Int} {k : Nat} (h7 : k ≠ 7) (h8 : k ≠ 8) (h10 : k ≠ 10) (h11 : k ≠ 11) : takeH h x k = h k := by
  unfold takeH
  split
  · rw [hup_k h10, hup_k h11]
  · rw [link_k h7 h8]
    split
    · rw [hup_k h10, hup_k h11]
    · rw [hup_k h11]
theorem take_11 {h : Hp} {x : Int} : takeH h x 11 = hup h 11 (h 6 x) (h 11 (h 6 x) - 1) 11 := by
  unfold takeH
  split
  · rw [hup_k (by decide)]
  · rw [link_k (by decide) (by decide)]
    split
    · rw [hup_k (by decide)]
    · rfl
def addH0 (h : Hp) : Hp := hup (hup (hup h 9 (h 1 7) 1) 1 7 (h 1 7 + 1)) 1 8 (h 1 8 + 1)
def addH (h : Hp) (a b ba bb : Int) : Hp := putH (putH (addH0 h) (2 * h 1 7) a ba) (2 * h 1 7 + 1) b bb
def Pl (h : Hp) (R : Int → Nat → Int) (v b0 : Int) (p : Nat) : Prop := (b0 = -1 ∧ (p : Int) = h 11 v) ∨ (b0 ≠ -1 ∧ 1 ≤ p ∧ (p : Int) ≤ h 11 v ∧ R v (p - 1) / 2 = b0)
def AddOk (h : Hp) (R : Int → Nat → Int) (a b ba bb : Int) (p1 p2 : Nat) : Prop := GI h R ∧ (0 ≤ a ∧ a < h 1 6) ∧ (0 ≤ b ∧ b < h 1 6) ∧ a ≠ b ∧ (∀ s, Sd h s → h 6 s = a → h 6 (tw s) ≠ b) ∧ h 1 7 < 100 ∧ Pl h R a ba p1 ∧ Pl h R b bb p2
def addR (h : Hp) (R : Int → Nat → Int) (a b : Int) (p1 p2 : Nat) : Int → Nat → Int := updR (updR R a (insF (R a) p1 (2 * h 1 7))) b (insF (R b) p2 (2 * h 1 7 + 1))
/-- what the new picture holds -/
def AddF (h h' : Hp) (a b : Int) : Prop := h' 1 6 = h 1 6 ∧ h' 1 7 = h 1 7 + 1 ∧ h' 1 8 = h 1 8 + 1 ∧ h' 6 (2 * h 1 7) = a ∧ h' 6 (2 * h 1 7 + 1) = b ∧ (∀ s, s / 2 ≠ h 1 7 → h' 6 s = h 6 s) ∧ h' 9 (h 1 7) = 1 ∧ (∀ e, e ≠ h 1 7 → h' 9 e = h 9 e) ∧ h' 11 a = h 11 a + 1 ∧ h' 11 b = h 11 b + 1 ∧ ∀ v, v ≠ a → v ≠ b → h' 11 v = h 11 v
theorem addH_F {h : Hp} {a b ba bb : Int} (hab : a ≠ b) : AddF h (addH h a b ba bb) a b := by
  unfold addH
  have e1 : ∀ j, putH (putH (addH0 h) (2 * h 1 7) a ba) (2 * h 1 7 + 1) b bb 1 j = addH0 h 1 j := fun j => by rw [put_k (by decide) (by decide) (by decide) (by decide) (by decide), put_k (by decide) (by decide) (by decide) (by decide) (by decide)]
  have e9 : ∀ j, putH (putH (addH0 h) (2 * h 1 7) a ba) (2 * h 1 7 + 1) b bb 9 j = addH0 h 9 j := fun j => by rw [put_k (by decide) (by decide) (by decide) (by decide) (by decide), put_k (by decide) (by decide) (by decide) (by decide) (by decide)]
  have z6 : addH0 h 6 = h 6 := by unfold addH0; rw [hup_k (by decide), hup_k (by decide), hup_k (by decide)]
  have z11 : addH0 h 11 = h 11 := by unfold addH0; rw [hup_k (by decide), hup_k (by decide), hup_k (by decide)]
  refine ⟨?_, ?_, ?_, ?_, ?_, ?_, ?_, ?_, ?_, ?_, ?_⟩
  · rw [e1]; unfold addH0 hup; simp
  · rw [e1]; unfold addH0 hup; simp
  · rw [e1]; unfold addH0 hup; simp
  · rw [put_6, hup_o (fun z => by have := z.2; omega), put_6, hup_s]
  · rw [put_6, hup_s]
  · intro s hs
    rw [put_6, hup_o (fun z => by have := z.2; omega), put_6, hup_o (fun z => by have := z.2; omega), z6]
  · rw [e9]; unfold addH0; rw [hup_k (by decide), hup_k (by decide), hup_s]
  · intro e he
    rw [e9]; unfold addH0; rw [hup_k (by decide), hup_k (by decide), hup_o (fun z => he z.2)]
  · rw [put_11, hup_o (fun z => hab z.2), put_11, hup_s, z11]
  · rw [put_11, hup_s, put_11, hup_o (fun z => hab z.2.symm), z11]
  · intro v h1 h2
    rw [put_11, hup_o (fun z => h2 z.2), put_11, hup_o (fun z => h1 z.2), z11]
theorem PlA_of {h g : Hp} {R R' : Int → Nat → Int} {v b0 : Int} {p : Nat} (hp : Pl h R v b0 p) (e11 : g 11 v = h 11 v) (eR : R' v = R v) (hne : ∀ i : Nat, (i : Int) < h 11 v → g 6 (R v i) ≠ g 6 (tw (R v i))) : PlA g R' v b0 p := by
  unfold PlA
  rw [e11, eR]
  rcases hp with q | ⟨q1, q2, q3, q4⟩
  · exact Or.inl q
  · exact Or.inr ⟨q1, q2, q3, q4, hne (p - 1) (by omega)⟩
set_option maxHeartbeats 1000000 in
theorem GI_add {h : Hp} {R : Int → Nat → Int} {a b ba bb : Int} {p1 p2 : Nat} (A : AddOk h R a b ba bb p1 p2) : GI (addH h a b ba bb) (addR h R a b p1 p2) := by
  obtain ⟨g, ha, hb, hab, hj, hm, q1, q2⟩ := A
  have F := addH_F (h := h) (ba := ba) (bb := bb) hab
  obtain ⟨f1, f2, f3, f4, f5, f6, f7, f8, f9, f10, f11⟩ := F
  obtain ⟨g1, g2, g3, g4, g5, g6, g7⟩ := id g
  -- which sides there are
  have oldne : ∀ s, Sd h s → s / 2 ≠ h 1 7 := fun s hs => by have := hs.2.1; have := hs.1; omega
  have hSd : ∀ s, Sd (addH h a b ba bb) s ↔ (Sd h s ∨ s = 2 * h 1 7) ∨ s = 2 * h 1 7 + 1 := by
    intro s
    unfold Sd
    rw [f2]
    constructor
    · rintro ⟨x, y, z⟩
      by_cases w : s / 2 = h 1 7
      · have : s = 2 * h 1 7 ∨ s = 2 * h 1 7 + 1 := by omega
        rcases this with q | q
        · exact Or.inl (Or.inr q)
        · exact Or.inr q
      · rw [f8 _ w] at z
        exact Or.inl (Or.inl ⟨x, by omega, z⟩)
    · rintro ((⟨x, y, z⟩ | q) | q)
      · refine ⟨x, by omega, ?_⟩
        rw [f8 _ (by omega)]
        exact z
      · refine ⟨by omega, by omega, ?_⟩
        rw [show s / 2 = h 1 7 by omega]
        exact f7
      · refine ⟨by omega, by omega, ?_⟩
        rw [show s / 2 = h 1 7 by omega]
        exact f7
  have z6 : addH0 h 6 = h 6 := by unfold addH0; rw [hup_k (by decide), hup_k (by decide), hup_k (by decide)]
  have z7 : addH0 h 7 = h 7 := by unfold addH0; rw [hup_k (by decide), hup_k (by decide), hup_k (by decide)]
  have z8 : addH0 h 8 = h 8 := by unfold addH0; rw [hup_k (by decide), hup_k (by decide), hup_k (by decide)]
  have z10 : addH0 h 10 = h 10 := by unfold addH0; rw [hup_k (by decide), hup_k (by decide), hup_k (by decide)]
  have z11 : addH0 h 11 = h 11 := by unfold addH0; rw [hup_k (by decide), hup_k (by decide), hup_k (by decide)]
  have z1 : addH0 h 1 6 = h 1 6 := by unfold addH0 hup; simp
  have H0 : RI (Sd h) (addH0 h) R := g6.cong (fun _ => Iff.rfl) z1 z6 z7 z8 z10 z11
  have nd : ∀ v, (0 ≤ v ∧ v < h 1 6) → ∀ i : Nat, (i : Int) < h 11 v → Sd h (R v i) := fun v hv i hi => ((g.ring hv).2.2.1 i hi).1
  have P1 : PlA (addH0 h) R a ba p1 := PlA_of q1 (by rw [z11]) rfl (fun i hi => by rw [z6]; exact (g4 _ (nd a ha i hi)).2)
  have nx1 : ¬ Sd h (2 * h 1 7) := fun z => by have := oldne _ z; omega
  have nx2 : ¬ Sd h (2 * h 1 7 + 1) := fun z => by have := oldne _ z; omega
  have eb1 : ba ≠ -1 → 2 * h 1 7 / 2 ≠ ba := fun hne => by
    rcases q1 with ⟨w, -⟩ | ⟨-, w2, w3, w4⟩
    · exact absurd w hne
    · have := oldne _ (nd a ha (p1 - 1) (by omega))
      omega
  have eb2 : bb ≠ -1 → (2 * h 1 7 + 1) / 2 ≠ bb := fun hne => by
    rcases q2 with ⟨w, -⟩ | ⟨-, w2, w3, w4⟩
    · exact absurd w hne
    · have := oldne _ (nd b hb (p2 - 1) (by omega))
      omega
  have H1 := put_RI (x := 2 * h 1 7) H0 nx1 (by rw [z1]; exact ha) P1 eb1
  have P2 : PlA (putH (addH0 h) (2 * h 1 7) a ba) (updR R a (insF (R a) p1 (2 * h 1 7))) b bb p2 := by
    refine PlA_of q2 ?_ (updR_o (fun z => hab z.symm)) (fun i hi => ?_)
    · rw [put_11, hup_o (fun z => hab z.2.symm), z11]
    · have o1 := nd b hb i hi
      have o2 := oldne _ o1
      have o3 := oldne _ (Sd_tw o1)
      rw [put_6, hup_o (fun z => by have := z.2; omega), hup_o (fun z => by have := z.2; omega), z6]
      exact (g4 _ o1).2
  have H2 := put_RI (x := 2 * h 1 7 + 1) H1 (by rintro (z | z); exact nx2 z; omega) (by rw [put_k (by decide) (by decide) (by decide) (by decide) (by decide), z1]; exact hb) P2 eb2
  have eR : updR (updR R a (insF (R a) p1 (2 * h 1 7))) b (insF (updR R a (insF (R a) p1 (2 * h 1 7)) b) p2 (2 * h 1 7 + 1)) = addR h R a b p1 p2 := by
    unfold addR
    rw [updR_o (R := R) (r := insF (R a) p1 (2 * h 1 7)) (fun z => hab z.symm)]
  rw [eR] at H2
  have H2 : RI (fun s => (Sd h s ∨ s = 2 * h 1 7) ∨ s = 2 * h 1 7 + 1) (addH h a b ba bb) (addR h R a b p1 p2) := H2
  have tw1 : tw (2 * h 1 7) = 2 * h 1 7 + 1 := tw_e _
  have tw2 : tw (2 * h 1 7 + 1) = 2 * h 1 7 := tw_o _
  have oldst : ∀ s, Sd h s → addH h a b ba bb 6 s = h 6 s ∧ addH h a b ba bb 6 (tw s) = h 6 (tw s) := fun s hs => ⟨f6 s (oldne s hs), f6 _ (oldne _ (Sd_tw hs))⟩
  refine ⟨by rw [f1]; exact g1, by rw [f2]; omega, ?_, ?_, ?_, H2.cong hSd rfl rfl rfl rfl rfl rfl, ?_⟩
  · intro e he1 he2
    rw [f2] at he2
    by_cases w : e = h 1 7
    · rw [w]; exact Or.inr f7
    · rw [f8 e w]; exact g3 e he1 (by omega)
  · intro s hs
    rw [f1]
    rcases (hSd s).mp hs with (w | w) | w
    · rw [(oldst s w).1, (oldst s w).2]; exact g4 s w
    · rw [w, tw1, f4, f5]; exact ⟨ha, hab⟩
    · rw [w, tw2, f4, f5]; exact ⟨hb, fun z => hab z.symm⟩
  · intro s t hs ht e1 e2
    rcases (hSd s).mp hs with (w | w) | w <;> rcases (hSd t).mp ht with (y | y) | y
    · rw [(oldst s w).1, (oldst t y).1] at e1
      rw [(oldst s w).2, (oldst t y).2] at e2
      exact g5 s t w y e1 e2
    · rw [y, (oldst s w).1, f4] at e1
      rw [y, tw1, (oldst s w).2, f5] at e2
      exact absurd e2 (hj s w e1)
    · rw [y, (oldst s w).1, f5] at e1
      rw [y, tw2, (oldst s w).2, f4] at e2
      exact absurd (by rw [tw_tw]; exact e1) (hj (tw s) (Sd_tw w) e2)
    · rw [w, (oldst t y).1, f4] at e1
      rw [w, tw1, (oldst t y).2, f5] at e2
      exact absurd e2.symm (hj t y e1.symm)
    · rw [w, y]
    · rw [w, y, f4, f5] at e1
      exact absurd e1 hab
    · rw [w, (oldst t y).1, f5] at e1
      rw [w, tw2, (oldst t y).2, f4] at e2
      exact absurd (by rw [tw_tw]; exact e1.symm) (hj (tw t) (Sd_tw y) e2.symm)
    · rw [w, y, f4, f5] at e1
      exact absurd e1.symm hab
    · rw [w, y]
  · rw [f3, f2, g7, show (h 1 7 + 1).toNat = (h 1 7).toNat + 1 by omega]
    rw [cnt_succ, show (((h 1 7).toNat : Nat) : Int) = h 1 7 by omega, if_pos f7]
    rw [cnt_congr (p := fun e => h 9 e = 1) (q := fun e => addH h a b ba bb 9 e = 1) (h 1 7).toNat (fun k hk => by show h 9 k = 1 ↔ addH h a b ba bb 9 k = 1; rw [f8 _ (by omega)])]

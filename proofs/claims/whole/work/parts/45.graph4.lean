/-! Graph: contracts of addEdge, dropEdge, areJoined -/
def p_addEdge (a b ba bb : Int) (h : Hp) : Prop := ∃ R p1 p2, AddOk h R a b ba bb p1 p2
def q_addEdge (a b ba bb : Int) (h : Hp) (r : Int) (h' : Hp) : Prop := r = h 1 7 ∧ h' = addH h a b ba bb
theorem GI.nb {h : Hp} {R : Int → Nat → Int} (g : GI h R) {s : Int} (hs : Sd h s) : Sd h (h 7 s) ∧ Sd h (h 8 s) ∧ h 6 (h 7 s) = h 6 s ∧ h 6 (h 8 s) = h 6 s := by
  have hv := (g.2.2.2.1 s hs).1
  have H := g.ring hv
  obtain ⟨i, hi, e⟩ := H.2.2.2.1 s hs rfl
  rw [← e]
  have e6 : h 6 (R (h 6 s) i) = h 6 s := by rw [e]
  rw [e6]
  refine ⟨?_, ?_, ?_, ?_⟩
  · by_cases w : (i : Int) + 1 = h 11 (h 6 s)
    · rw [(H.2.2.2.2.2.2 i w).1]; exact (H.2.2.1 0 (by omega)).1
    · rw [(H.2.2.2.2.2.1 i (by omega)).1]; exact (H.2.2.1 (i + 1) (by omega)).1
  · by_cases w : i = 0
    · have q := (H.2.2.2.2.2.2 (h 11 (h 6 s) - 1).toNat (by omega)).2
      rw [w, q]; exact (H.2.2.1 _ (by omega)).1
    · have q := (H.2.2.2.2.2.1 (i - 1) (by omega)).2
      rw [show i - 1 + 1 = i by omega] at q
      rw [q]; exact (H.2.2.1 _ (by omega)).1
  · by_cases w : (i : Int) + 1 = h 11 (h 6 s)
    · rw [(H.2.2.2.2.2.2 i w).1]; exact (H.2.2.1 0 (by omega)).2
    · rw [(H.2.2.2.2.2.1 i (by omega)).1]; exact (H.2.2.1 (i + 1) (by omega)).2
  · by_cases w : i = 0
    · have q := (H.2.2.2.2.2.2 (h 11 (h 6 s) - 1).toNat (by omega)).2
      rw [w, q]; exact (H.2.2.1 _ (by omega)).2
    · have q := (H.2.2.2.2.2.1 (i - 1) (by omega)).2
      rw [show i - 1 + 1 = i by omega] at q
      rw [q]; exact (H.2.2.1 _ (by omega)).2
/-- a ring that isn't empty: where a new side comes, in range -/
theorem putOk {S : Int → Prop} {h : Hp} {R : Int → Nat → Int} {x v b0 : Int} {p : Nat} (H : RI S h R) (hv : 0 ≤ v ∧ v < h 1 6) (hn : h 1 6 ≤ 30) (hS : ∀ s, S s → 0 ≤ s ∧ s < 200) (hp : PlA h R v b0 p) (hx : 0 ≤ x ∧ x < 200) (hxb : b0 ≠ -1 → x / 2 ≠ b0) (hd : h 11 v ≤ 1000) : p_putSide x v b0 h := by
  have Hv := H v hv.1 hv.2
  have h0 := Hv.1
  have hb0 : b0 = -1 ∨ (0 ≤ b0 ∧ b0 < 100) := by
    rcases hp with ⟨e, -⟩ | ⟨e, q2, q3, q4, -⟩
    · exact Or.inl e
    · have := hS _ (Hv.2.2.1 (p - 1) (by omega)).1
      exact Or.inr (by omega)
  refine ⟨hx, by omega, hb0, by unfold InR; omega, fun c => ⟨fun _ => ?_, ?_⟩⟩
  · rw [Hv.2.2.2.2.1 (by omega)]; exact hS _ (Hv.2.2.1 0 (by omega)).1
  · obtain ⟨w1, w2, w3⟩ := bP_eq (x := x) Hv c hp hxb
    rw [w3]
    refine ⟨hS _ (Hv.2.2.1 (p - 1) (by omega)).1, ?_⟩
    by_cases w : (p : Int) = h 11 v
    · rw [(Hv.2.2.2.2.2.2 (p - 1) (by omega)).1]; exact hS _ (Hv.2.2.1 0 (by omega)).1
    · rw [(Hv.2.2.2.2.2.1 (p - 1) (by omega)).1]; exact hS _ (Hv.2.2.1 _ (by omega)).1
/-- a number of different places below n -/
theorem inj_le : ∀ (n : Nat) (f : Nat → Int) (d : Nat), (∀ i, i < d → 0 ≤ f i ∧ f i < n) → (∀ i j, i < d → j < d → f i = f j → i = j) → d ≤ n := by
  intro n
  induction n with
  | zero =>
    intro f d h1 _
    rcases Nat.eq_zero_or_pos d with q | q
    · omega
    · have := h1 0 q; omega
  | succ n ih =>
    intro f d h1 h2
    -- the place that holds n, if there is one, goes
    by_cases q : ∃ i, i < d ∧ f i = n
    · obtain ⟨i, hi, e⟩ := q
      have := ih (fun k => if k < i then f k else f (k + 1)) (d - 1) (fun k hk => by
        show 0 ≤ (if k < i then f k else f (k + 1)) ∧ (if k < i then f k else f (k + 1)) < n
        split
        · have a := h1 k (by omega); have b : f k ≠ n := fun z => by have := h2 k i (by omega) hi (by rw [z, e]); omega
          omega
        · have a := h1 (k + 1) (by omega); have b : f (k + 1) ≠ n := fun z => by have := h2 (k + 1) i (by omega) hi (by rw [z, e]); omega
          omega) (fun a b ha hb e2 => by
        have e2 : (if a < i then f a else f (a + 1)) = (if b < i then f b else f (b + 1)) := e2
        split at e2 <;> split at e2
        · exact h2 a b (by omega) (by omega) e2
        · have := h2 a (b + 1) (by omega) (by omega) e2; omega
        · have := h2 (a + 1) b (by omega) (by omega) e2; omega
        · have := h2 (a + 1) (b + 1) (by omega) (by omega) e2; omega)
      omega
    · have := ih f d (fun k hk => by
        have a := h1 k hk
        have b : f k ≠ n := fun z => q ⟨k, hk, z⟩
        omega) h2
      omega
/-- degrees are small -/
theorem GI.deg {h : Hp} {R : Int → Nat → Int} (g : GI h R) {v : Int} (hv : 0 ≤ v ∧ v < h 1 6) : 0 ≤ h 11 v ∧ h 11 v ≤ 30 := by
  have H := g.ring hv
  have g1 := g.1
  refine ⟨H.1, ?_⟩
  have := inj_le (h 1 6).toNat (fun i => h 6 (tw (R v i))) (h 11 v).toNat (fun i hi => by
    have a := (H.2.2.1 i (by omega)).1
    have b := (g.2.2.2.1 _ (Sd_tw a)).1
    show 0 ≤ h 6 (tw (R v i)) ∧ h 6 (tw (R v i)) < _
    omega) (fun i j hi hj e => by
    have a := H.2.2.1 i (by omega)
    have b := H.2.2.1 j (by omega)
    exact H.2.1 i j (by omega) (by omega) (g.2.2.2.2.1 _ _ a.1 b.1 (by rw [a.2, b.2]) e))
  omega
theorem ct_addEdge {l : Launch} (a b ba bb : Int) (h : Hp) (hb : p_addEdge a b ba bb h) : Ct l yX2_addEdge cX2_addEdge 6 (some .int) 2 47 0 [vr 1, vi a, vi b, vi ba, vi bb] h [1, 6, 7, 8, 9, 10, 11] (fun r h1 => q_addEdge a b ba bb h r h1) (fun _ => False) := by
  obtain ⟨R, p1, p2, A⟩ := hb
  obtain ⟨g, ha, hb, hab, hj, hm, q1, q2⟩ := id A
  obtain ⟨g1, g2, g3, g4, g5, g6, g7⟩ := id g
  refine w_X2_addEdge _ p_putSide q_putSide h a b ba bb ct_putSide (fun _ _ _ _ _ => ?_)
  unfold V_X2_addEdge
  intro z1 e1
  subst e1
  have c7 := cnt_le (fun e => h 9 e = 1) (h 1 7).toNat
  have oldne : ∀ s, Sd h s → s / 2 ≠ h 1 7 := fun s hs => by have := hs.2.1; have := hs.1; omega
  refine ⟨by omega, fun h3 e3 => ?_⟩
  have k1 : h3 1 7 = h 1 7 := by rw [e3, hup_k (by decide)]
  have k1' : h3 1 8 = h 1 8 := by rw [e3, hup_k (by decide)]
  rw [k1]
  refine ⟨by unfold InR; omega, fun h5 e5 => ?_⟩
  have k2 : h5 1 8 = h 1 8 := by rw [e5, hup_o (fun z => by have := z.2; omega), k1']
  rw [k2]
  refine ⟨by unfold InR; omega, fun h7 e7 => ?_⟩
  have eh7 : h7 = addH0 h := by unfold addH0; rw [e7, e5, e3]
  have z6 : addH0 h 6 = h 6 := by unfold addH0; rw [hup_k (by decide), hup_k (by decide), hup_k (by decide)]
  have z7 : addH0 h 7 = h 7 := by unfold addH0; rw [hup_k (by decide), hup_k (by decide), hup_k (by decide)]
  have z8 : addH0 h 8 = h 8 := by unfold addH0; rw [hup_k (by decide), hup_k (by decide), hup_k (by decide)]
  have z10 : addH0 h 10 = h 10 := by unfold addH0; rw [hup_k (by decide), hup_k (by decide), hup_k (by decide)]
  have z11 : addH0 h 11 = h 11 := by unfold addH0; rw [hup_k (by decide), hup_k (by decide), hup_k (by decide)]
  have zz1 : addH0 h 1 6 = h 1 6 := by unfold addH0 hup; simp
  have H0 : RI (Sd h) (addH0 h) R := g6.cong (fun _ => Iff.rfl) zz1 z6 z7 z8 z10 z11
  have nd : ∀ v, (0 ≤ v ∧ v < h 1 6) → ∀ i : Nat, (i : Int) < h 11 v → Sd h (R v i) := fun v hv i hi => ((g.ring hv).2.2.1 i hi).1
  have P1 : PlA (addH0 h) R a ba p1 := PlA_of q1 (by rw [z11]) rfl (fun i hi => by rw [z6]; exact (g4 _ (nd a ha i hi)).2)
  have nx1 : ¬ Sd h (2 * h 1 7) := fun z => by have := oldne _ z; omega
  have eb1 : ba ≠ -1 → 2 * h 1 7 / 2 ≠ ba := fun hne => by
    rcases q1 with ⟨w, -⟩ | ⟨-, w2, w3, w4⟩
    · exact absurd w hne
    · have := oldne _ (nd a ha (p1 - 1) (by omega))
      omega
  have eb2 : bb ≠ -1 → (2 * h 1 7 + 1) / 2 ≠ bb := fun hne => by
    rcases q2 with ⟨w, -⟩ | ⟨-, w2, w3, w4⟩
    · exact absurd w hne
    · have := oldne _ (nd b hb (p2 - 1) (by omega))
      omega
  have da := g.deg ha
  have db := g.deg hb
  have H1 := put_RI (x := 2 * h 1 7) H0 nx1 (by rw [zz1]; exact ha) P1 eb1
  have P2 : PlA (putH (addH0 h) (2 * h 1 7) a ba) (updR R a (insF (R a) p1 (2 * h 1 7))) b bb p2 := by
    refine PlA_of q2 ?_ (updR_o (fun z => hab z.symm)) (fun i hi => ?_)
    · rw [put_11, hup_o (fun z => hab z.2.symm), z11]
    · have o1 := nd b hb i hi
      have o2 := oldne _ o1
      have o3 := oldne _ (Sd_tw o1)
      rw [put_6, hup_o (fun z => by have := z.2; omega), hup_o (fun z => by have := z.2; omega), z6]
      exact (g4 _ o1).2
  refine ⟨by unfold InR; omega, ?_, fun h10 _ _ g10 => ⟨by unfold InR; omega, by unfold InR; omega, ?_, fun h14 _ _ g14 => ⟨rfl, ?_⟩⟩⟩
  · rw [eh7]
    exact putOk H0 (by rw [zz1]; exact ha) (by rw [zz1]; omega) (fun s hs => Sd_lt g hs) P1 (by omega) eb1 (by rw [z11]; omega)
  · have g10 : h10 = putH h7 (2 * h 1 7) a ba := g10
    rw [g10, eh7]
    refine putOk H1 (by rw [put_k (by decide) (by decide) (by decide) (by decide) (by decide), zz1]; exact hb) (by rw [put_k (by decide) (by decide) (by decide) (by decide) (by decide), zz1]; omega) (fun s hs => ?_) P2 (by omega) eb2 (by rw [put_11, hup_o (fun z => hab z.2.symm), z11]; omega)
    rcases hs with w | w
    · exact Sd_lt g w
    · omega
  · have g10 : h10 = putH h7 (2 * h 1 7) a ba := g10
    have g14 : h14 = putH h10 (2 * h 1 7 + 1) b bb := g14
    rw [g14, g10, eh7]
    rfl

/-! Graph: dropping an edge; are two joined -/
theorem cnt_off {p q : Int → Prop} [DecidablePred p] [DecidablePred q] {e : Int} (he : p e) (hq : ¬ q e) (ho : ∀ k : Int, k ≠ e → (p k ↔ q k)) : ∀ n : Nat, 0 ≤ e → e < n → cnt q n = cnt p n - 1 := by
  intro n
  induction n with
  | zero => intro h1 h2; omega
  | succ n ih =>
    intro h1 h2
    rw [cnt_succ, cnt_succ]
    by_cases w : e = n
    · rw [if_pos (show p n by rw [← w]; exact he), if_neg (show ¬ q n by rw [← w]; exact hq)]
      rw [cnt_congr (p := p) (q := q) n (fun k hk => ho k (by omega))]
      omega
    · rw [ih h1 (by omega)]
      by_cases z : p n
      · rw [if_pos z, if_pos ((ho n (fun y => w y.symm)).mp z)]; omega
      · rw [if_neg z, if_neg (fun y => z ((ho n (fun y => w y.symm)).mpr y))]; omega
def dropH (h : Hp) (e : Int) : Hp := hup (hup (takeH (takeH h (2 * e)) (2 * e + 1)) 9 e 0) 1 8 (h 1 8 - 1)
def DropOk (h : Hp) (R : Int → Nat → Int) (e : Int) (p1 p2 : Nat) : Prop := GI h R ∧ (0 ≤ e ∧ e < h 1 7) ∧ h 9 e = 1 ∧ ((p1 : Int) < h 11 (h 6 (2 * e)) ∧ R (h 6 (2 * e)) p1 = 2 * e) ∧ (p2 : Int) < h 11 (h 6 (2 * e + 1)) ∧ R (h 6 (2 * e + 1)) p2 = 2 * e + 1
def dropR (h : Hp) (R : Int → Nat → Int) (e : Int) (p1 p2 : Nat) : Int → Nat → Int := updR (updR R (h 6 (2 * e)) (delF (R (h 6 (2 * e))) p1)) (h 6 (2 * e + 1)) (delF (R (h 6 (2 * e + 1))) p2)
theorem Sd_e {h : Hp} {e : Int} (he : 0 ≤ e ∧ e < h 1 7) (hh : h 9 e = 1) : Sd h (2 * e) ∧ Sd h (2 * e + 1) := by
  refine ⟨⟨by omega, by omega, ?_⟩, ⟨by omega, by omega, ?_⟩⟩
  · rw [show 2 * e / 2 = e by omega]; exact hh
  · rw [show (2 * e + 1) / 2 = e by omega]; exact hh
def DropF (h h' : Hp) (e : Int) : Prop := h' 1 6 = h 1 6 ∧ h' 1 7 = h 1 7 ∧ h' 1 8 = h 1 8 - 1 ∧ h' 6 = h 6 ∧ h' 9 e = 0 ∧ (∀ k, k ≠ e → h' 9 k = h 9 k) ∧ h' 11 (h 6 (2 * e)) = h 11 (h 6 (2 * e)) - 1 ∧ h' 11 (h 6 (2 * e + 1)) = h 11 (h 6 (2 * e + 1)) - 1 ∧ ∀ v, v ≠ h 6 (2 * e) → v ≠ h 6 (2 * e + 1) → h' 11 v = h 11 v
theorem dropH_F {h : Hp} {e : Int} (hab : h 6 (2 * e) ≠ h 6 (2 * e + 1)) : DropF h (dropH h e) e := by
  have t6 : ∀ g : Hp, ∀ x, takeH g x 6 = g 6 := fun g x => take_k (by decide) (by decide) (by decide) (by decide)
  have t1 : ∀ g : Hp, ∀ x, takeH g x 1 = g 1 := fun g x => take_k (by decide) (by decide) (by decide) (by decide)
  have t9 : ∀ g : Hp, ∀ x, takeH g x 9 = g 9 := fun g x => take_k (by decide) (by decide) (by decide) (by decide)
  unfold dropH
  refine ⟨?_, ?_, ?_, ?_, ?_, ?_, ?_, ?_, ?_⟩
  · rw [hup_o (fun z => by have := z.2; omega), hup_k (by decide), t1, t1]
  · rw [hup_o (fun z => by have := z.2; omega), hup_k (by decide), t1, t1]
  · rw [hup_s]
  · rw [hup_k (by decide), hup_k (by decide), t6, t6]
  · rw [hup_k (by decide), hup_s]
  · intro k hk
    rw [hup_k (by decide), hup_o (fun z => hk z.2), t9, t9]
  · rw [hup_k (by decide), hup_k (by decide), take_11, t6, hup_o (fun z => hab z.2), take_11, hup_s]
  · rw [hup_k (by decide), hup_k (by decide), take_11, t6, hup_s, take_11, hup_o (fun z => hab z.2.symm)]
  · intro v h1 h2
    rw [hup_k (by decide), hup_k (by decide), take_11, t6, hup_o (fun z => h2 z.2), take_11, hup_o (fun z => h1 z.2)]
set_option maxHeartbeats 1000000 in
theorem drop_RI {h : Hp} {R : Int → Nat → Int} {e : Int} {p1 p2 : Nat} (A : DropOk h R e p1 p2) : RI (fun s => Sd h s ∧ s ≠ 2 * e) (takeH h (2 * e)) (updR R (h 6 (2 * e)) (delF (R (h 6 (2 * e))) p1)) ∧
    RI (fun s => (Sd h s ∧ s ≠ 2 * e) ∧ s ≠ 2 * e + 1) (takeH (takeH h (2 * e)) (2 * e + 1)) (dropR h R e p1 p2) := by
  obtain ⟨g, he, hh, q1, q2⟩ := A
  obtain ⟨g1, g2, g3, g4, g5, g6, g7⟩ := id g
  obtain ⟨s1, s2⟩ := Sd_e he hh
  have a1 := (g4 _ s1)
  have a2 := (g4 _ s2)
  rw [tw_e] at a1
  have H1 := take_RI g6 a1.1 q1.1 q1.2
  refine ⟨H1, ?_⟩
  have t6 : takeH h (2 * e) 6 = h 6 := take_k (by decide) (by decide) (by decide) (by decide)
  have t1 : takeH h (2 * e) 1 = h 1 := take_k (by decide) (by decide) (by decide) (by decide)
  have t11 : takeH h (2 * e) 11 (h 6 (2 * e + 1)) = h 11 (h 6 (2 * e + 1)) := by rw [take_11, hup_o (fun z => a1.2 z.2.symm)]
  have H2 := take_RI (x := 2 * e + 1) (p := p2) H1 (by rw [t6, t1]; exact a2.1) (by rw [t6, t11]; exact q2.1) (by rw [t6, updR_o (fun z => a1.2 z.symm)]; exact q2.2)
  rw [t6, updR_o (R := R) (r := delF (R (h 6 (2 * e))) p1) (fun z => a1.2 z.symm)] at H2
  exact H2
set_option maxHeartbeats 1000000 in
theorem GI_drop {h : Hp} {R : Int → Nat → Int} {e : Int} {p1 p2 : Nat} (A : DropOk h R e p1 p2) : GI (dropH h e) (dropR h R e p1 p2) := by
  obtain ⟨-, H2⟩ := drop_RI A
  obtain ⟨g, he, hh, q1, q2⟩ := A
  obtain ⟨g1, g2, g3, g4, g5, g6, g7⟩ := id g
  obtain ⟨s1, s2⟩ := Sd_e he hh
  have a1 := (g4 _ s1)
  rw [tw_e] at a1
  obtain ⟨f1, f2, f3, f4, f5, f6, f7, f8, f9⟩ := dropH_F (h := h) (e := e) a1.2
  have hSd : ∀ s, Sd (dropH h e) s ↔ (Sd h s ∧ s ≠ 2 * e) ∧ s ≠ 2 * e + 1 := by
    intro s
    unfold Sd
    rw [f2]
    by_cases w : s / 2 = e
    · rw [w, f5]
      constructor
      · rintro ⟨-, -, z⟩; omega
      · rintro ⟨⟨⟨z1, z2, z3⟩, z4⟩, z5⟩; omega
    · rw [f6 _ w]
      exact ⟨fun z => ⟨⟨z, by omega⟩, by omega⟩, fun z => z.1.1⟩
  have old : ∀ s, Sd (dropH h e) s → Sd h s := fun s hs => ((hSd s).mp hs).1.1
  refine ⟨by rw [f1]; exact g1, by rw [f2]; exact g2, ?_, ?_, ?_, ?_, ?_⟩
  · intro k h1 h2
    rw [f2] at h2
    by_cases w : k = e
    · rw [w]; exact Or.inl f5
    · rw [f6 k w]; exact g3 k h1 h2
  · intro s hs
    rw [f4, f1]
    exact g4 s (old s hs)
  · intro s t hs ht e1 e2
    rw [f4] at e1 e2
    exact g5 s t (old s hs) (old t ht) e1 e2
  · refine H2.cong hSd ?_ ?_ ?_ ?_ ?_ ?_
    · rw [f1, take_k (by decide) (by decide) (by decide) (by decide), take_k (by decide) (by decide) (by decide) (by decide)]
    · rw [f4, take_k (by decide) (by decide) (by decide) (by decide), take_k (by decide) (by decide) (by decide) (by decide)]
    · unfold dropH; rw [hup_k (by decide), hup_k (by decide)]
    · unfold dropH; rw [hup_k (by decide), hup_k (by decide)]
    · unfold dropH; rw [hup_k (by decide), hup_k (by decide)]
    · unfold dropH; rw [hup_k (by decide), hup_k (by decide)]
  · rw [f3, f2, g7]
    exact (cnt_off (p := fun k => h 9 k = 1) (q := fun k => dropH h e 9 k = 1) (e := e) hh (by show ¬ dropH h e 9 e = 1; rw [f5]; omega) (fun k hk => by show h 9 k = 1 ↔ dropH h e 9 k = 1; rw [f6 k hk]) (h 1 7).toNat he.1 (by omega)).symm
def p_dropEdge (e : Int) (h : Hp) : Prop := ∃ R, GI h R ∧ (0 ≤ e ∧ e < h 1 7) ∧ h 9 e = 1
def q_dropEdge (e : Int) (h h' : Hp) : Prop := h' = dropH h e
theorem drop_ex {e : Int} {h : Hp} {R : Int → Nat → Int} (g : GI h R) (he : 0 ≤ e ∧ e < h 1 7) (hh : h 9 e = 1) : ∃ p1 p2, DropOk h R e p1 p2 := by
  obtain ⟨s1, s2⟩ := Sd_e he hh
  obtain ⟨p1, b1, c1⟩ := (g.ring (g.2.2.2.1 _ s1).1).2.2.2.1 _ s1 rfl
  obtain ⟨p2, b2, c2⟩ := (g.ring (g.2.2.2.1 _ s2).1).2.2.2.1 _ s2 rfl
  exact ⟨p1, p2, g, he, hh, ⟨b1, c1⟩, b2, c2⟩
theorem takeOk {S : Int → Prop} {h : Hp} {R : Int → Nat → Int} {x : Int} (H : RI S h R) (hv : 0 ≤ h 6 x ∧ h 6 x < h 1 6) (hn : h 1 6 ≤ 30) (hS : ∀ s, S s → 0 ≤ s ∧ s < 200) (hx : S x) (hd : h 11 (h 6 x) ≤ 1000) : p_takeSide x h := by
  have Hv := H _ hv.1 hv.2
  have h0 := Hv.1
  obtain ⟨i, hi, e⟩ := Hv.2.2.2.1 x hx rfl
  refine ⟨hS x hx, by omega, by unfold InR; omega, fun c => ⟨?_, ?_⟩⟩
  · by_cases w : i = 0
    · have q := (Hv.2.2.2.2.2.2 (h 11 (h 6 x) - 1).toNat (by omega)).2
      rw [w] at e
      rw [e] at q
      rw [q]; exact hS _ (Hv.2.2.1 _ (by omega)).1
    · have q := (Hv.2.2.2.2.2.1 (i - 1) (by omega)).2
      rw [show i - 1 + 1 = i by omega, e] at q
      rw [q]; exact hS _ (Hv.2.2.1 _ (by omega)).1
  · by_cases w : (i : Int) + 1 = h 11 (h 6 x)
    · have q := (Hv.2.2.2.2.2.2 i w).1
      rw [e] at q
      rw [q]; exact hS _ (Hv.2.2.1 _ (by omega)).1
    · have q := (Hv.2.2.2.2.2.1 i (by omega)).1
      rw [e] at q
      rw [q]; exact hS _ (Hv.2.2.1 _ (by omega)).1
theorem ct_dropEdge {l : Launch} (e : Int) (h : Hp) (hb : p_dropEdge e h) : Ct l yX2_dropEdge cX2_dropEdge 2 none 2 44 0 [vr 1, vi e] h [1, 7, 8, 9, 10, 11] (fun _ h1 => q_dropEdge e h h1) (fun _ => False) := by
  obtain ⟨R, g, he, hh⟩ := hb
  obtain ⟨p1, p2, A⟩ := drop_ex g he hh
  obtain ⟨H1, H2⟩ := drop_RI A
  obtain ⟨g1, g2, g3, g4, g5, g6, g7⟩ := id g
  obtain ⟨s1, s2⟩ := Sd_e he hh
  have a1 := (g4 _ s1)
  have a2 := (g4 _ s2)
  rw [tw_e] at a1
  have t6 : takeH h (2 * e) 6 = h 6 := take_k (by decide) (by decide) (by decide) (by decide)
  have t1 : ∀ g : Hp, ∀ x, takeH g x 1 = g 1 := fun g x => take_k (by decide) (by decide) (by decide) (by decide)
  have d1 := g.deg a1.1
  have d2 := g.deg a2.1
  have c7 := cnt_le (fun e => h 9 e = 1) (h 1 7).toNat
  refine w_X2_dropEdge _ p_takeSide q_takeSide h e ct_takeSide (fun _ _ => ?_)
  unfold V_X2_dropEdge
  refine ⟨by unfold InR; omega, takeOk g6 a1.1 g1.2 (fun s hs => Sd_lt g hs) s1 (by omega), fun h3 _ _ e3 => ?_⟩
  have e3 : h3 = takeH h (2 * e) := e3
  subst e3
  refine ⟨by unfold InR; omega, by unfold InR; omega, takeOk H1 (by rw [t6, t1]; exact a2.1) (by rw [t1]; exact g1.2) (fun s hs => Sd_lt g hs.1) ⟨s2, by omega⟩ (by rw [t6, take_11, hup_o (fun z => a1.2 z.2.symm)]; omega), fun h7 _ _ e7 => ⟨by omega, fun h9 e9 => ?_⟩⟩
  have e7 : h7 = takeH (takeH h (2 * e)) (2 * e + 1) := e7
  have k8 : h9 1 8 = h 1 8 := by rw [e9, hup_k (by decide), e7, t1, t1]
  rw [k8]
  refine ⟨by unfold InR; omega, fun h11 e11 => ?_⟩
  show h11 = dropH h e
  unfold dropH
  rw [e11, e9, e7]
/-- are two vertices joined -/
def Jn (h : Hp) (a b : Int) : Prop := ∃ s, Sd h s ∧ h 6 s = a ∧ h 6 (tw s) = b
def p_areJoined (a _ : Int) (h : Hp) : Prop := ∃ R, GI h R ∧ 0 ≤ a ∧ a < h 1 6
def q_areJoined (a b : Int) (h : Hp) (r : Int) : Prop := (r = 1 ∧ Jn h a b) ∨ (r = 0 ∧ ¬ Jn h a b)
theorem ct_areJoined {l : Launch} (a b : Int) (h : Hp) (hb : p_areJoined a b h) : Ct l yX2_areJoined cX2_areJoined 5 (some .boolean) 1 21 0 [vr 1, vi a, vi b] h [] (fun r _ => q_areJoined a b h r) (fun _ => False) := by
  obtain ⟨R, g, ha⟩ := hb
  have H := g.ring ha
  have hd := g.deg ha
  have g1 := g.1
  refine w_X2_areJoined _ p_target q_target (fun n g' x1 x2 x3 x4 => g' = h ∧ x1 = a ∧ x2 = b ∧ ∃ j : Nat, x4 = j ∧ (j : Int) ≤ h 11 a ∧ ((j : Int) < h 11 a → x3 = R a j) ∧ (∀ i : Nat, i < j → h 6 (tw (R a i)) ≠ b) ∧ n = 30 - j) h a b ct_target ?_ (fun _ _ _ => ?_)
  · rintro n g' x1 x2 x3 x4 - - - - - - ⟨rfl, rfl, rfl, j, rfl, hj, hx3, hno, hn⟩
    unfold V_X2_areJoined_10
    refine ⟨by omega, fun c => Or.inr ⟨rfl, ?_⟩, fun c => ?_⟩
    · rintro ⟨s, z1, z2, z3⟩
      obtain ⟨i, hi, e⟩ := H.2.2.2.1 s z1 z2
      rw [← e] at z3
      exact hno i (by omega) z3
    · have hx3 := hx3 (by omega)
      have hs := H.2.2.1 j (by omega)
      have hlt := Sd_lt g hs.1
      refine ⟨by rw [hx3]; exact hlt, fun r hr q => ?_⟩
      have q : r = g' 6 (tw x3) := q
      refine ⟨fun c1 => ⟨by rw [hx3]; exact hlt, fun z7 e7 => ⟨by unfold InR; omega, fun z8 e8 => ⟨30 - (j + 1), by omega, rfl, rfl, rfl, j + 1, by omega, by omega, fun w => ?_, fun i hi => ?_, rfl⟩⟩⟩, fun c1 => Or.inl ⟨rfl, R x1 j, hs.1, hs.2, by rw [← hx3, ← q]; exact c1⟩⟩
      · rw [e7, hx3]
        exact (H.2.2.2.2.2.1 j (by omega)).1
      · by_cases w : i = j
        · rw [w, ← hx3, ← q]; exact c1
        · exact hno i (by omega)
  · unfold V_X2_areJoined
    refine ⟨by omega, fun z1 e1 z2 e2 => ⟨30, rfl, rfl, rfl, 0, e2, by omega, fun w => ?_, fun i hi => by omega, rfl⟩⟩
    rw [e1]
    exact H.2.2.2.2.1 w

/-! Tree: what its methods do, as pictures -/
def sk (h : Hp) (u : Int) (k : Nat) : Int := itF (h 7) k (h 10 u)
theorem sk_R {h : Hp} {R : Int → Nat → Int} (G : GI h R) {v : Int} (hv : vOK h v) : ∀ k : Nat, (k : Int) < h 11 v → sk h v k = R v k := by
  have H := G.ring hv
  intro k
  induction k with
  | zero => intro hk; exact H.2.2.2.2.1 (by omega)
  | succ k ih =>
    intro hk
    show h 7 (sk h v k) = _
    rw [ih (by omega)]
    exact (H.2.2.2.2.2.1 k (by omega)).1
theorem sk_S {h : Hp} {R : Int → Nat → Int} (G : GI h R) {v : Int} (hv : vOK h v) {k : Nat} (hk : (k : Int) < h 11 v) : Sd h (sk h v k) ∧ h 6 (sk h v k) = v := by
  rw [sk_R G hv k hk]
  exact (G.ring hv).2.2.1 k hk
def reachH (h : Hp) (v p e d : Int) : Hp := hup (hup (hup (hup (hup (hup h 15 v p) 16 v e) 17 v d) 18 v (h 3 7)) 19 (h 3 6) v) 3 6 (h 3 6 + 1)
def nbH (u : Int) : Nat → Hp → Hp
  | 0, h => h
  | k + 1, h => if nbH u k h 18 (h 6 (tw (sk h u k))) = -1 then reachH (nbH u k h) (h 6 (tw (sk h u k))) u (sk h u k / 2) (nbH u k h 17 u + 1) else nbH u k h
def growL : Nat → Nat → Hp → Hp
  | 0, _, h => h
  | f + 1, hd, h => if (hd : Int) < h 3 6 then growL f (hd + 1) (nbH (h 19 hd) (h 11 (h 19 hd)).toNat h) else h
def growH (h : Hp) (root : Int) : Hp := growL 31 0 (reachH (hup h 3 6 0) root (-1) (-1) 0)
def survL : Nat → Hp → Hp
  | 0, h => h
  | k + 1, h => if survL k h 18 k = -1 then hup (growH (survL k h) k) 3 7 (growH (survL k h) k 3 7 + 1) else survL k h
def initT : Nat → Hp → Hp
  | 0, h => h
  | k + 1, h => hup (initT k h) 18 k (-1)
def survH (h : Hp) : Hp := survL (h 1 6).toNat (hup (initT (h 1 6).toNat h) 3 7 0)
-- which cells stay
theorem reach_k {h : Hp} {v p e d : Int} {k : Nat} (h3 : k ≠ 3) (h15 : k ≠ 15) (h16 : k ≠ 16) (h17 : k ≠ 17) (h18 : k ≠ 18) (h19 : k ≠ 19) : reachH h v p e d k = h k := by
  unfold reachH
  rw [hup_k h3, hup_k h19, hup_k h18, hup_k h17, hup_k h16, hup_k h15]
theorem reach_37 {h : Hp} {v p e d : Int} : reachH h v p e d 3 7 = h 3 7 := by
  unfold reachH
  rw [hup_o (fun z => by have := z.2; omega), hup_k (by decide), hup_k (by decide), hup_k (by decide), hup_k (by decide), hup_k (by decide)]
theorem reach_36 {h : Hp} {v p e d : Int} : reachH h v p e d 3 6 = h 3 6 + 1 := by unfold reachH; rw [hup_s]
theorem reach_15 {h : Hp} {v p e d : Int} : reachH h v p e d 15 = hup h 15 v p 15 := by
  unfold reachH
  rw [hup_k (by decide), hup_k (by decide), hup_k (by decide), hup_k (by decide), hup_k (by decide)]
theorem reach_16 {h : Hp} {v p e d : Int} : reachH h v p e d 16 = hup h 16 v e 16 := by
  unfold reachH
  rw [hup_k (by decide), hup_k (by decide), hup_k (by decide), hup_k (by decide)]
  funext b
  unfold hup
  simp
theorem reach_17 {h : Hp} {v p e d : Int} : reachH h v p e d 17 = hup h 17 v d 17 := by
  unfold reachH
  rw [hup_k (by decide), hup_k (by decide), hup_k (by decide)]
  funext b
  unfold hup
  simp
theorem reach_18 {h : Hp} {v p e d : Int} : reachH h v p e d 18 = hup h 18 v (h 3 7) 18 := by
  unfold reachH
  rw [hup_k (by decide), hup_k (by decide)]
  funext b
  unfold hup
  simp
theorem reach_19 {h : Hp} {v p e d : Int} : reachH h v p e d 19 = hup h 19 (h 3 6) v 19 := by
  unfold reachH
  rw [hup_k (by decide)]
  funext b
  unfold hup
  simp
theorem Fr_reach {h : Hp} {v p e d : Int} : Fr [3, 15, 16, 17, 18, 19] h (reachH h v p e d) := by
  intro k hk
  simp only [List.mem_cons, List.not_mem_nil, or_false, not_or] at hk
  exact reach_k hk.1 hk.2.1 hk.2.2.1 hk.2.2.2.1 hk.2.2.2.2.1 hk.2.2.2.2.2
theorem Fr_nb {u : Int} : ∀ (k : Nat) {h : Hp}, Fr [3, 15, 16, 17, 18, 19] h (nbH u k h) := by
  intro k
  induction k with
  | zero => intro h; exact Fr.rf
  | succ k ih =>
    intro h
    unfold nbH
    split
    · exact (ih (h := h)).trans Fr_reach (fun _ z => z)
    · exact ih
theorem nb_37 {u : Int} : ∀ (k : Nat) {h : Hp}, nbH u k h 3 7 = h 3 7 := by
  intro k
  induction k with
  | zero => intro h; rfl
  | succ k ih =>
    intro h
    unfold nbH
    split
    · rw [reach_37]; exact ih
    · exact ih
theorem Fr_grow : ∀ (f hd : Nat) {h : Hp}, Fr [3, 15, 16, 17, 18, 19] h (growL f hd h) := by
  intro f
  induction f with
  | zero => intro hd h; exact Fr.rf
  | succ f ih =>
    intro hd h
    unfold growL
    split
    · exact (Fr_nb (h := h) _).trans (ih (hd + 1)) (fun _ z => z)
    · exact Fr.rf
theorem grow_37 : ∀ (f hd : Nat) {h : Hp}, growL f hd h 3 7 = h 3 7 := by
  intro f
  induction f with
  | zero => intro hd h; rfl
  | succ f ih =>
    intro hd h
    unfold growL
    split
    · rw [ih, nb_37]
    · rfl
theorem Gs.tr {a b c : Hp} (x : Gs a b) (y : Gs b c) : Gs a c := by
  obtain ⟨x1, x2, x3, x4, x5, x6, x7⟩ := x
  obtain ⟨y1, y2, y3, y4, y5, y6, y7⟩ := y
  exact ⟨y1.trans x1, y2.trans x2, y3.trans x3, y4.trans x4, y5.trans x5, y6.trans x6, y7.trans x7⟩
theorem Gs_GI {h h' : Hp} {R : Int → Nat → Int} (g : Gs h h') (G : GI h R) : GI h' R := GI_cong G g.1 g.2.1 g.2.2.1 g.2.2.2.1 g.2.2.2.2.1 g.2.2.2.2.2.1 g.2.2.2.2.2.2
theorem Gs.T {h h' : Hp} (f : Fr [3, 15, 16, 17, 18, 19] h h') : Gs h h' := Gs.of f (by decide)
theorem Gs_sk {h h' : Hp} (g : Gs h h') (u : Int) (k : Nat) : sk h' u k = sk h u k := by
  unfold sk
  rw [g.2.2.1, g.2.2.2.2.2.1]
/-- the queue while a part grows -/
def TI (h : Hp) : Prop := (0 ≤ h 3 6 ∧ 0 ≤ h 3 7) ∧ (∀ i : Nat, (i : Int) < h 3 6 → vOK h (h 19 i) ∧ h 18 (h 19 i) = h 3 7 ∧ 0 ≤ h 17 (h 19 i) ∧ h 17 (h 19 i) ≤ i) ∧ ∀ i j : Nat, (i : Int) < h 3 6 → (j : Int) < h 3 6 → h 19 i = h 19 j → i = j
theorem TI_lt {h : Hp} {R : Int → Nat → Int} (G : GI h R) (t : TI h) {w : Int} (hw : vOK h w) (hn : h 18 w = -1) : h 3 6 < 30 := by
  obtain ⟨t1, t2, t3⟩ := t
  have g1 := G.1
  have := inj_le (h 1 6).toNat (fun i => if i < (h 3 6).toNat then h 19 i else w) ((h 3 6).toNat + 1) (fun i hi => by
    show 0 ≤ (if i < (h 3 6).toNat then h 19 i else w) ∧ (if i < (h 3 6).toNat then h 19 i else w) < _
    split
    · have := (t2 i (by omega)).1
      unfold vOK at this
      omega
    · unfold vOK at hw
      omega) (fun i j hi hj e => by
    have e : (if i < (h 3 6).toNat then h 19 i else w) = (if j < (h 3 6).toNat then h 19 j else w) := e
    split at e <;> split at e
    · exact t3 i j (by omega) (by omega) e
    · have := (t2 i (by omega)).2.1
      rw [e, hn] at this
      omega
    · have := (t2 j (by omega)).2.1
      rw [← e, hn] at this
      omega
    · omega)
  omega
theorem TI_reach {h : Hp} {w p e d : Int} (t : TI h) (hw : vOK h w) (hn : h 18 w = -1) (hd : 0 ≤ d ∧ d ≤ h 3 6) : TI (reachH h w p e d) := by
  obtain ⟨t1, t2, t3⟩ := t
  have e1 : reachH h w p e d 1 = h 1 := reach_k (by decide) (by decide) (by decide) (by decide) (by decide) (by decide)
  have ne : ∀ i : Nat, (i : Int) < h 3 6 → h 19 i ≠ w := fun i hi z => by
    have := (t2 i hi).2.1
    rw [z, hn] at this
    omega
  unfold TI vOK
  rw [reach_36, reach_37, reach_18, reach_17, reach_19, e1]
  refine ⟨by omega, fun i hi => ?_, fun i j hi hj ee => ?_⟩
  · by_cases w1 : (i : Int) = h 3 6
    · rw [w1, hup_s, hup_s, hup_s]
      exact ⟨hw, rfl, hd.1, hd.2⟩
    · have a := t2 i (by omega)
      rw [hup_o (fun z => w1 z.2), hup_o (fun z => ne i (by omega) z.2), hup_o (fun z => ne i (by omega) z.2)]
      exact a
  · by_cases w1 : (i : Int) = h 3 6 <;> by_cases w2 : (j : Int) = h 3 6
    · omega
    · rw [w1, hup_s, hup_o (fun z => w2 z.2)] at ee
      exact absurd ee.symm (ne j (by omega))
    · rw [w2, hup_s, hup_o (fun z => w1 z.2)] at ee
      exact absurd ee (ne i (by omega))
    · rw [hup_o (fun z => w1 z.2), hup_o (fun z => w2 z.2)] at ee
      exact t3 i j (by omega) (by omega) ee
/-- the queue only grows, what stands in it stays -/
def QG (h h' : Hp) : Prop := h 3 6 ≤ h' 3 6 ∧ (∀ i : Nat, (i : Int) < h 3 6 → h' 19 i = h 19 i) ∧ ∀ v, h 18 v ≠ -1 → h' 17 v = h 17 v ∧ h' 18 v = h 18 v ∧ h' 15 v = h 15 v ∧ h' 16 v = h 16 v
theorem QG.rf {h : Hp} : QG h h := ⟨Int.le_refl _, fun _ _ => rfl, fun _ _ => ⟨rfl, rfl, rfl, rfl⟩⟩
theorem QG.tr {a b c : Hp} (x : QG a b) (y : QG b c) : QG a c := by
  refine ⟨Int.le_trans x.1 y.1, fun i hi => (y.2.1 i (by have := x.1; omega)).trans (x.2.1 i hi), fun v hv => ?_⟩
  have a := x.2.2 v hv
  have b := y.2.2 v (by rw [a.2.1]; exact hv)
  exact ⟨b.1.trans a.1, b.2.1.trans a.2.1, b.2.2.1.trans a.2.2.1, b.2.2.2.trans a.2.2.2⟩
theorem QG_reach {h : Hp} {w p e d : Int} (hn : h 18 w = -1) : QG h (reachH h w p e d) := by
  unfold QG
  rw [reach_36, reach_19, reach_17, reach_18, reach_15, reach_16]
  refine ⟨by omega, fun i hi => by rw [hup_o (fun z => by have := z.2; omega)], fun v hv => ?_⟩
  have hne : v ≠ w := fun z => hv (by rw [z]; exact hn)
  rw [hup_o (fun z => hne z.2), hup_o (fun z => hne z.2), hup_o (fun z => hne z.2), hup_o (fun z => hne z.2)]
  exact ⟨rfl, rfl, rfl, rfl⟩
theorem nb_ok {h : Hp} {R : Int → Nat → Int} (G : GI h R) (t : TI h) {i : Nat} (hi : (i : Int) < h 3 6) : ∀ k : Nat, (k : Int) ≤ h 11 (h 19 i) → TI (nbH (h 19 i) k h) ∧ QG h (nbH (h 19 i) k h) := by
  have hu := t.2.1 i hi
  intro k
  induction k with
  | zero => intro _; exact ⟨t, QG.rf⟩
  | succ k ih =>
    intro hk
    obtain ⟨a, b⟩ := ih (by omega)
    have gs : Gs h (nbH (h 19 i) k h) := Gs.T (Fr_nb k)
    unfold nbH
    split
    · next hn =>
      have hs := sk_S G hu.1 (k := k) (by omega)
      have hw := (G.2.2.2.1 _ (Sd_tw hs.1)).1
      have hlev : nbH (h 19 i) k h 17 (h 19 i) = h 17 (h 19 i) := (b.2.2 _ (by rw [hu.2.1]; have := t.1.2; omega)).1
      exact ⟨TI_reach a (by unfold vOK; rw [gs.1]; exact hw) hn (by rw [hlev]; have := b.1; omega), b.tr (QG_reach hn)⟩
    · exact ⟨a, b⟩

/-! PURE WORDS: the other side of an edge, sides that are there, rings, and the contracts of Graph's small methods -/
def tw (s : Int) : Int := if s % 2 = 0 then s + 1 else s - 1
theorem tw_in {s : Int} {n : Int} (h : 0 ≤ s ∧ s < 2 * n) : 0 ≤ tw s ∧ tw s < 2 * n := by
  unfold tw
  split <;> omega
theorem tw_in2 {s : Int} (h : 0 ≤ s ∧ s < 200) : 0 ≤ tw s ∧ tw s < 200 := by
  unfold tw
  split <;> omega
theorem tw_tw (s : Int) : tw (tw s) = s := by
  unfold tw
  split <;> split <;> omega
theorem tw_div (s : Int) : tw s / 2 = s / 2 := by
  unfold tw
  split <;> omega
theorem tw_ne (s : Int) : tw s ≠ s := by
  unfold tw
  split <;> omega
theorem tw_e (e : Int) : tw (2 * e) = 2 * e + 1 := by
  unfold tw
  split <;> omega
theorem tw_o (e : Int) : tw (2 * e + 1) = 2 * e := by
  unfold tw
  split <;> omega
theorem tw_inj {s t : Int} (h : tw s = tw t) : s = t := by rw [← tw_tw s, h, tw_tw]
theorem jx1_d : ∀ s : Fin 200, jxor ((s : Nat) : Int) 1 = tw ((s : Nat) : Int) := by decide +kernel
theorem jx1 {s : Int} (h : 0 ≤ s ∧ s < 200) : jxor s 1 = tw s := by
  have h1 := jx1_d ⟨s.toNat, by omega⟩
  have h2 : ((s.toNat : Nat) : Int) = s := by omega
  simp only [h2] at h1
  exact h1
/-- how many of 0 .. n-1 have p -/
def cnt (p : Int → Prop) [DecidablePred p] : Nat → Int
  | 0 => 0
  | k + 1 => cnt p k + (if p k then 1 else 0)
theorem cnt_le (p : Int → Prop) [DecidablePred p] : ∀ n : Nat, 0 ≤ cnt p n ∧ cnt p n ≤ n := by
  intro n
  induction n with
  | zero => exact ⟨Int.le_refl _, Int.le_refl _⟩
  | succ n ih =>
    unfold cnt
    split <;> omega
theorem cnt_congr {p q : Int → Prop} [DecidablePred p] [DecidablePred q] : ∀ n : Nat, (∀ k : Nat, k < n → (p k ↔ q k)) → cnt p n = cnt q n := by
  intro n
  induction n with
  | zero => intro _; rfl
  | succ n ih =>
    intro h
    unfold cnt
    rw [ih (fun k hk => h k (by omega))]
    have h1 := h n (by omega)
    by_cases hp : p n
    · rw [if_pos hp, if_pos (h1.mp hp)]
    · rw [if_neg hp, if_neg (fun z => hp (h1.mpr z))]
-- Graph.target
def p_target (b : Int) (_ : Hp) : Prop := 0 ≤ b ∧ b < 200
def q_target (b : Int) (h : Hp) (r : Int) : Prop := r = h 6 (tw b)
theorem ct_target {l : Launch} (b : Int) (h : Hp) (hb : p_target b h) : Ct l yX2_target cX2_target 2 (some .int) 0 0 0 [vr 1, vi b] h [] (fun r _ => q_target b h r) (fun _ => False) := by
  refine w_X2_target _ h b (fun _ _ => ?_)
  unfold V_X2_target
  rw [jx1 hb]
  exact ⟨tw_in2 hb, rfl⟩
-- Graph.sideBehind
def p_sideBehind (b : Int) (_ : Hp) : Prop := 0 ≤ b ∧ b < 200
def q_sideBehind (b : Int) (h : Hp) (r : Int) : Prop := r = h 7 (tw b)
theorem ct_sideBehind {l : Launch} (b : Int) (h : Hp) (hb : p_sideBehind b h) : Ct l yX2_sideBehind cX2_sideBehind 2 (some .int) 0 0 0 [vr 1, vi b] h [] (fun r _ => q_sideBehind b h r) (fun _ => False) := by
  refine w_X2_sideBehind _ h b (fun _ _ => ?_)
  unfold V_X2_sideBehind
  rw [jx1 hb]
  exact ⟨tw_in2 hb, rfl⟩
-- Graph.sideFrom
def p_sideFrom (_ e : Int) (_ : Hp) : Prop := 0 ≤ e ∧ e < 100
def sdF (h : Hp) (v e : Int) : Int := if h 6 (2 * e) = v then 2 * e else 2 * e + 1
def q_sideFrom (v e : Int) (h : Hp) (r : Int) : Prop := r = sdF h v e
theorem ct_sideFrom {l : Launch} (v e : Int) (h : Hp) (hb : p_sideFrom v e h) : Ct l yX2_sideFrom cX2_sideFrom 3 (some .int) 0 0 0 [vr 1, vi v, vi e] h [] (fun r _ => q_sideFrom v e h r) (fun _ => False) := by
  unfold p_sideFrom at hb
  refine w_X2_sideFrom _ h v e (fun _ _ _ => ?_)
  unfold V_X2_sideFrom V_X2_sideFrom_23 q_sideFrom sdF InR
  refine ⟨by omega, by omega, fun c => ⟨by omega, by omega, ?_⟩, fun c => ⟨by omega, ?_⟩⟩
  · rw [if_neg c]
  · rw [if_pos c]
-- Graph.mayFollow
def p_mayFollow (_ e : Int) (_ : Hp) : Prop := e = -1 ∨ (0 ≤ e ∧ e < 100)
def mayF (h : Hp) (v e : Int) : Prop := e = -1 ∨ h 6 (2 * e) = v ∨ h 6 (2 * e + 1) = v
def q_mayFollow (v e : Int) (h : Hp) (r : Int) : Prop := (r = 1 ∧ mayF h v e) ∨ (r = 0 ∧ ¬ mayF h v e)
theorem ct_mayFollow {l : Launch} (v e : Int) (h : Hp) (hb : p_mayFollow v e h) : Ct l yX2_mayFollow cX2_mayFollow 3 (some .boolean) 0 0 0 [vr 1, vi v, vi e] h [] (fun r _ => q_mayFollow v e h r) (fun _ => False) := by
  unfold p_mayFollow at hb
  refine w_X2_mayFollow _ h v e (fun _ _ _ => ?_)
  unfold V_X2_mayFollow V_X2_mayFollow_31 V_X2_mayFollow_36 q_mayFollow mayF InR
  refine ⟨fun c => ⟨Or.inr rfl, Or.inl ⟨rfl, Or.inl c⟩⟩, fun c => ⟨by omega, by omega, fun c1 => ⟨Or.inr rfl, Or.inl ⟨rfl, Or.inr (Or.inl c1)⟩⟩, fun c1 => ⟨by omega, by omega, by omega, fun c2 => ⟨Or.inl rfl, Or.inr ⟨rfl, ?_⟩⟩, fun c2 => ⟨Or.inr rfl, Or.inl ⟨rfl, Or.inr (Or.inr c2)⟩⟩⟩⟩⟩
  rintro (z | z | z)
  · exact c z
  · exact c1 z
  · exact c2 z
-- Graph.link
def p_link (a b : Int) (_ : Hp) : Prop := (0 ≤ a ∧ a < 200) ∧ 0 ≤ b ∧ b < 200
def q_link (a b : Int) (h h' : Hp) : Prop := h' = hup (hup h 7 a b) 8 b a
theorem ct_link {l : Launch} (a b : Int) (h : Hp) (hb : p_link a b h) : Ct l yX2_link cX2_link 3 none 0 0 0 [vr 1, vi a, vi b] h [7, 8] (fun _ h1 => q_link a b h h1) (fun _ => False) := by
  refine w_X2_link _ h a b (fun _ _ _ => ?_)
  unfold V_X2_link q_link
  exact ⟨hb.1, fun h2 e2 => ⟨hb.2, fun h4 e4 => by rw [e4, e2]⟩⟩
-- Graph.dropAll
def q_dropAll (h h' : Hp) : Prop := h' = hup (hup (hup h 1 6 0) 1 7 0) 1 8 0
theorem ct_dropAll {l : Launch} (h : Hp) : Ct l yX2_dropAll cX2_dropAll 1 none 0 0 0 [vr 1] h [1] (fun _ h1 => q_dropAll h h1) (fun _ => False) := by
  refine w_X2_dropAll _ h (fun _ => ?_)
  unfold V_X2_dropAll q_dropAll
  exact fun h1 e1 h2 e2 h3 e3 => by rw [e3, e2, e1]
-- Graph.addVertex
def p_addVertex (h : Hp) : Prop := 0 ≤ h 1 6 ∧ h 1 6 < 30
def q_addVertex (h : Hp) (r : Int) (h' : Hp) : Prop := r = h 1 6 ∧ h' = hup (hup (hup h 10 (h 1 6) (-1)) 11 (h 1 6) 0) 1 6 (h 1 6 + 1)
theorem ct_addVertex {l : Launch} (h : Hp) (hb : p_addVertex h) : Ct l yX2_addVertex cX2_addVertex 2 (some .int) 0 0 0 [vr 1] h [1, 10, 11] (fun r h1 => q_addVertex h r h1) (fun _ => False) := by
  unfold p_addVertex at hb
  refine w_X2_addVertex _ h (fun _ => ?_)
  unfold V_X2_addVertex q_addVertex InR
  intro z1 e1
  refine ⟨by omega, fun h3 e3 => ⟨by omega, fun h5 e5 => ?_⟩⟩
  have g : h5 1 6 = h 1 6 := by rw [e5, hup_k (by decide), e3, hup_k (by decide)]
  rw [g]
  exact ⟨by omega, fun h7 e7 => ⟨e1, by rw [e7, e5, e3, e1]⟩⟩
-- Graph.lonelyVertices
def p_lonely (h : Hp) : Prop := 0 ≤ h 1 6 ∧ h 1 6 ≤ 30
def q_lonely (h : Hp) (r : Int) : Prop := r = cnt (fun v => h 11 v = 0) (h 1 6).toNat
theorem ct_lonely {l : Launch} (h : Hp) (hb : p_lonely h) : Ct l yX2_lonelyVertices cX2_lonelyVertices 3 (some .int) 0 0 0 [vr 1] h [] (fun r _ => q_lonely h r) (fun _ => False) := by
  unfold p_lonely at hb
  refine w_X2_lonelyVertices _ (fun n g x1 x2 => g = h ∧ ∃ j : Nat, x2 = j ∧ (j : Int) ≤ h 1 6 ∧ x1 = cnt (fun v => h 11 v = 0) j ∧ n = 30 - j) h ?_ (fun _ => ?_)
  · rintro n g x1 x2 - - - - ⟨rfl, j, rfl, hj, hx, hn⟩
    have hc := cnt_le (fun v => g 11 v = 0) j
    unfold V_X2_lonelyVertices_4 V_X2_lonelyVertices_24 q_lonely InR
    refine ⟨fun c => ?_, fun c => ⟨by omega, fun c1 => ⟨by omega, fun z ez => ⟨30 - (j + 1), by omega, rfl, j + 1, by omega, by omega, ?_, rfl⟩⟩, fun c1 => ⟨by omega, fun z ez => ⟨by omega, fun z2 ez2 => ⟨30 - (j + 1), by omega, rfl, j + 1, by omega, by omega, ?_, rfl⟩⟩⟩⟩⟩
    · rw [hx]
      congr 1
      omega
    · unfold cnt
      rw [if_neg c1, hx]
      omega
    · unfold cnt
      rw [if_pos c1, ez, hx]
  · unfold V_X2_lonelyVertices
    intro z1 e1 z2 e2
    exact ⟨30, rfl, 0, e2, by omega, e1, rfl⟩

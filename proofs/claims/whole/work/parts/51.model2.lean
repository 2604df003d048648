/-! The reference: insert, take, forget -/
def row (h : Hp) (v : Int) : Nat → Int := fun k => h 34 (30 * v + k)
/-- the place at which insert puts -/
def Pm (h : Hp) (v b : Int) (p : Nat) : Prop := (b = -1 ∧ (p : Int) = h 35 v) ∨ (b ≠ -1 ∧ 1 ≤ p ∧ (p : Int) ≤ h 35 v ∧ row h v (p - 1) = b ∧ ∀ k : Nat, k < p - 1 → row h v k ≠ b)
def p_insert (v _ b : Int) (h : Hp) : Prop := (0 ≤ v ∧ v < 30) ∧ (0 ≤ h 35 v ∧ h 35 v ≤ 29) ∧ ∃ p, Pm h v b p
def q_insert (v e b : Int) (h h' : Hp) : Prop := ∀ p, Pm h v b p → h' 35 v = h 35 v + 1 ∧ (∀ u, u ≠ v → h' 35 u = h 35 u) ∧ (∀ k : Nat, (k : Int) ≤ h 35 v → row h' v k = insF (row h v) p e k) ∧ ∀ j, j < 30 * v ∨ 30 * v + h 35 v < j → h' 34 j = h 34 j
theorem Pm_fun {h : Hp} {v b : Int} {p q : Nat} (a : Pm h v b p) (c : Pm h v b q) : p = q := by
  rcases a with ⟨a1, a2⟩ | ⟨a1, a2, a3, a4, a5⟩ <;> rcases c with ⟨c1, c2⟩ | ⟨c1, c2, c3, c4, c5⟩
  · omega
  · exact absurd a1 c1
  · exact absurd c1 a1
  · rcases Nat.lt_trichotomy p q with w | w | w
    · exact absurd a4 (c5 (p - 1) (by omega))
    · exact w
    · exact absurd c4 (a5 (q - 1) (by omega))
set_option maxHeartbeats 1000000 in
theorem ct_insert {l : Launch} (v e b : Int) (h : Hp) (hb : p_insert v e b h) : Ct l yX6_insert cX6_insert 6 none 1 23 0 [vr 30, vi v, vi e, vi b] h [34, 35] (fun _ h1 => q_insert v e b h h1) (fun _ => False) := by
  obtain ⟨h1, h2, p, hp⟩ := hb
  have hpd : (p : Int) ≤ h 35 v := by rcases hp with ⟨-, w⟩ | ⟨-, -, w, -⟩ <;> omega
  have I0 : ∀ at_, at_ = (p : Int) → V_X6_insert_22 (fun _ h1 => q_insert v e b h h1) p_placeOf q_placeOf (fun n g x1 x2 x4 x5 => x1 = v ∧ x2 = e ∧ x4 = p ∧ ∃ k : Nat, x5 = k ∧ p ≤ k ∧ (k : Int) ≤ h 35 v ∧ g 35 = h 35 ∧ (∀ j : Nat, k < j → (j : Int) ≤ h 35 v → row g v j = row h v (j - 1)) ∧ (∀ j : Nat, j ≤ k → row g v j = row h v j) ∧ (∀ j, j < 30 * v ∨ 30 * v + h 35 v < j → g 34 j = h 34 j) ∧ n = k) h v e at_ := by
    intro at_ ha
    unfold V_X6_insert_22
    intro z ez
    refine ⟨h1, fun z2 ez2 => ⟨(h 35 v).toNat, rfl, rfl, by rw [ez]; exact ha, (h 35 v).toNat, by omega, by omega, by omega, rfl, fun j _ _ => by omega, fun j _ => rfl, fun j _ => rfl, rfl⟩⟩
  refine w_X6_insert _ p_placeOf q_placeOf (fun n g x1 x2 x4 x5 => x1 = v ∧ x2 = e ∧ x4 = p ∧ ∃ k : Nat, x5 = k ∧ p ≤ k ∧ (k : Int) ≤ h 35 v ∧ g 35 = h 35 ∧ (∀ j : Nat, k < j → (j : Int) ≤ h 35 v → row g v j = row h v (j - 1)) ∧ (∀ j : Nat, j ≤ k → row g v j = row h v j) ∧ (∀ j, j < 30 * v ∨ 30 * v + h 35 v < j → g 34 j = h 34 j) ∧ n = k) h v e b ct_placeOf ?_ (fun _ _ _ _ => ?_)
  · rintro n g x1 x2 x4 x5 - - - - - - ⟨rfl, rfl, rfl, k, rfl, i1, i2, i3, i4, i5, i6, i7⟩
    unfold V_X6_insert_32 InR
    refine ⟨fun c => ⟨by omega, by omega, by omega, fun g5 e5 => ⟨h1, ?_⟩⟩, fun c => ⟨by omega, by omega, by omega, by omega, by omega, by omega, by omega, fun g17 e17 => ⟨by omega, fun z ez => ⟨k - 1, by omega, rfl, rfl, rfl, k - 1, by omega, by omega, by omega, ?_, fun j q1 q2 => ?_, fun j q1 => ?_, fun j q1 => ?_, rfl⟩⟩⟩⟩
    · have k5 : g5 35 = h 35 := by rw [e5, hup_k (by decide), i3]
      rw [k5]
      refine ⟨by omega, h1, fun g9 e9 q hq => ?_⟩
      have hpq := Pm_fun hq hp
      subst hpq
      have hk : k = q := by omega
      subst hk
      refine ⟨by rw [e9, hup_s], fun u hu => by rw [e9, hup_o (fun z => hu z.2), k5], fun j hj => ?_, fun j hj => ?_⟩
      · show g9 34 (30 * x1 + j) = _
        rw [e9, hup_k (by decide), e5]
        rcases Nat.lt_trichotomy j k with w | w | w
        · rw [insF_lt w, hup_o (fun z => by have := z.2; omega)]
          exact i5 j (by omega)
        · rw [w, insF_eq, hup_s]
        · rw [insF_gt w, hup_o (fun z => by have := z.2; omega)]
          exact i4 j w (by omega)
      · rw [e9, hup_k (by decide), e5, hup_o (fun z => by have := z.2; omega)]
        exact i6 j hj
    · rw [e17, hup_k (by decide)]; exact i3
    · show g17 34 (30 * x1 + j) = _
      rw [e17]
      by_cases w : j = k
      · rw [w, hup_s]
        have := i5 (k - 1) (by omega)
        unfold row at this ⊢
        rw [← this]
        congr 1
        omega
      · rw [hup_o (fun z => by have := z.2; omega)]
        exact i4 j (by omega) q2
    · show g17 34 (30 * x1 + j) = _
      rw [e17, hup_o (fun z => by have := z.2; omega)]
      exact i5 j (by omega)
    · rw [e17, hup_o (fun z => by have := z.2; omega)]
      exact i6 j q1
  · unfold V_X6_insert
    rcases hp with ⟨w1, w2⟩ | ⟨w1, w2, w3, w4, w5⟩
    · exact ⟨fun c => absurd w1 c, fun c => ⟨h1, I0 _ w2.symm⟩⟩
    · refine ⟨fun c => ⟨⟨h1, by omega⟩, fun r hr q => ?_⟩, fun c => absurd c w1⟩
      have hrp : r + 1 = p := by
        rcases q with ⟨q1, q2⟩ | ⟨k, q1, q2, q3, q4⟩
        · exact absurd w4 (q2 (p - 1) (by omega))
        · rcases Nat.lt_trichotomy k (p - 1) with y | y | y
          · exact absurd q3 (w5 k y)
          · omega
          · exact absurd w4 (q4 (p - 1) y)
      exact ⟨by unfold InR; omega, I0 _ hrp⟩
-- take
def p_take (v e : Int) (h : Hp) : Prop := (0 ≤ v ∧ v < 30) ∧ (0 ≤ h 35 v ∧ h 35 v ≤ 29) ∧ ∃ p : Nat, (p : Int) < h 35 v ∧ row h v p = e ∧ ∀ k : Nat, (k : Int) < h 35 v → row h v k = e → k = p
def q_take (v e : Int) (h h' : Hp) : Prop := ∀ p : Nat, (p : Int) < h 35 v → row h v p = e → (∀ k : Nat, (k : Int) < h 35 v → row h v k = e → k = p) → h' 35 v = h 35 v - 1 ∧ (∀ u, u ≠ v → h' 35 u = h 35 u) ∧ (∀ k : Nat, (k : Int) < h 35 v - 1 → row h' v k = delF (row h v) p k) ∧ ∀ j, j < 30 * v ∨ 30 * v + h 35 v ≤ j → h' 34 j = h 34 j
set_option maxHeartbeats 1000000 in
theorem ct_take {l : Launch} (v e : Int) (h : Hp) (hb : p_take v e h) : Ct l yX6_take cX6_take 4 none 1 23 0 [vr 30, vi v, vi e] h [34, 35] (fun _ h1 => q_take v e h h1) (fun _ => False) := by
  obtain ⟨h1, h2, p, hp1, hp2, hp3⟩ := hb
  refine w_X6_take _ p_placeOf q_placeOf (fun n g x1 x3 => x1 = v ∧ ∃ k : Nat, x3 = k ∧ p ≤ k ∧ (k : Int) ≤ h 35 v - 1 ∧ g 35 = hup h 35 v (h 35 v - 1) 35 ∧ (∀ j : Nat, j < k → row g v j = delF (row h v) p j) ∧ (∀ j : Nat, k ≤ j → (j : Int) < h 35 v → row g v j = row h v j) ∧ (∀ j, j < 30 * v ∨ 30 * v + h 35 v ≤ j → g 34 j = h 34 j) ∧ n = 30 - k) h v e ct_placeOf ?_ (fun _ _ _ => ?_)
  · rintro n g x1 x3 - - - - ⟨rfl, k, rfl, i1, i2, i3, i4, i5, i6, i7⟩
    have k35 : g 35 x1 = h 35 x1 - 1 := by rw [i3, hup_s]
    unfold V_X6_take_35 InR
    rw [k35]
    refine ⟨h1, fun c q z1 z2 z3 => ?_, fun c => ⟨by omega, by omega, by omega, by omega, by omega, by omega, by omega, fun g10 e10 => ⟨by omega, fun z ez => ⟨30 - (k + 1), by omega, rfl, k + 1, by omega, by omega, by omega, ?_, fun j q1 => ?_, fun j q1 q2 => ?_, fun j q1 => ?_, rfl⟩⟩⟩⟩
    · have hpq := hp3 q z1 z2
      subst hpq
      exact ⟨k35, fun u hu => by rw [i3, hup_o (fun z => hu z.2)], fun j hj => i4 j (by omega), i6⟩
    · rw [e10, hup_k (by decide)]; exact i3
    · show g10 34 (30 * x1 + j) = _
      rw [e10]
      by_cases w : j = k
      · rw [w, hup_s, delF_ge i1]
        have := i5 (k + 1) (by omega) (by omega)
        unfold row at this ⊢
        rw [← this]
        congr 1
        omega
      · rw [hup_o (fun z => by have := z.2; omega)]
        exact i4 j (by omega)
    · show g10 34 (30 * x1 + j) = _
      rw [e10, hup_o (fun z => by have := z.2; omega)]
      exact i5 j (by omega) q2
    · rw [e10, hup_o (fun z => by have := z.2; omega)]
      exact i6 j q1
  · unfold V_X6_take V_X6_take_34
    refine ⟨h1, by unfold InR; omega, h1, fun g e1 => ?_⟩
    have k35 : g 35 v = h 35 v - 1 := by rw [e1, hup_s]
    have k34 : g 34 = h 34 := by rw [e1, hup_k (by decide)]
    have hpl : p_placeOf v e g := ⟨h1, by rw [k35]; omega, by rw [k35]; omega⟩
    have fin : ∀ k : Nat, (k : Int) = h 35 v - 1 ∧ p = k ∨ p = k ∧ (k : Int) < h 35 v - 1 → ∃ n', (fun n g x1 x3 => x1 = v ∧ ∃ k : Nat, x3 = (k : Int) ∧ p ≤ k ∧ (k : Int) ≤ h 35 v - 1 ∧ g 35 = hup h 35 v (h 35 v - 1) 35 ∧ (∀ j : Nat, j < k → row g v j = delF (row h v) p j) ∧ (∀ j : Nat, k ≤ j → (j : Int) < h 35 v → row g v j = row h v j) ∧ (∀ j, j < 30 * v ∨ 30 * v + h 35 v ≤ j → g 34 j = h 34 j) ∧ n = 30 - k) n' g v (k : Int) := by
      intro k hk
      refine ⟨30 - k, rfl, k, rfl, by omega, by omega, by rw [e1], fun j hj => ?_, fun j _ _ => ?_, fun j _ => by rw [k34], rfl⟩
      · rw [delF_lt (by omega)]
        unfold row
        rw [k34]
      · unfold row
        rw [k34]
    refine ⟨hpl, fun r hr q => ⟨fun c => ⟨h1, fun z ez => ?_⟩, fun c => ⟨hpl, fun r2 hr2 q2 z ez => ?_⟩⟩⟩
    · -- not found in the shorter row: it was the last
      have hlast : (p : Int) = h 35 v - 1 := by
        rcases q with ⟨q1, q2⟩ | ⟨k, q1, q2, -⟩
        · rcases Classical.em ((p : Int) < h 35 v - 1) with w | w
          · exact absurd (show g 34 (30 * v + p) = e by rw [k34]; exact hp2) (q2 p (by rw [k35]; exact w))
          · omega
        · omega
      have e3 : z = (p : Int) := by rw [ez, k35, hlast]
      rw [e3]
      exact fin p (Or.inl ⟨hlast, rfl⟩)
    · rcases q2 with ⟨q1, q3⟩ | ⟨k, q1, q3, q4, -⟩
      · rcases q with ⟨w1, -⟩ | ⟨k, w1, w2, w3, -⟩
        · omega
        · exact absurd w3 (q3 k w2)
      · rw [k35] at q3
        rw [k34] at q4
        have hkp : k = p := hp3 k (by omega) q4
        rw [ez, q1, hkp]
        exact fin p (Or.inr ⟨rfl, by omega⟩)
-- forget
def q_mforget (h h' : Hp) : Prop := (∀ v, 0 ≤ v → v < 30 → h' 36 v = 0) ∧ h' 30 10 = 0 ∧ ∀ j, j ≠ 10 → h' 30 j = h 30 j
theorem ct_mforget {l : Launch} (h : Hp) : Ct l yX6_forget cX6_forget 2 none 0 0 0 [vr 30] h [30, 36] (fun _ h1 => q_mforget h h1) (fun _ => False) := by
  refine w_X6_forget _ (fun n g x1 => ∃ k : Nat, x1 = k ∧ k ≤ 30 ∧ g 30 = hup h 30 10 0 30 ∧ (∀ v : Int, 0 ≤ v → v < k → g 36 v = 0) ∧ n = 30 - k) h ?_ (fun _ => ?_)
  · rintro n g x1 - - - ⟨k, rfl, i1, i2, i3, i4⟩
    unfold V_X6_forget_7 InR
    refine ⟨fun c => ⟨fun v q1 q2 => i3 v q1 (by omega), by rw [i2, hup_s], fun j hj => by rw [i2, hup_o (fun z => hj z.2)]⟩, fun c => ⟨by omega, fun g3 e3 => ⟨by omega, fun z ez => ⟨30 - (k + 1), by omega, k + 1, by omega, by omega, by rw [e3, hup_k (by decide)]; exact i2, fun v q1 q2 => ?_, rfl⟩⟩⟩⟩
    rw [e3]
    by_cases w : v = k
    · rw [w, hup_s]
    · rw [hup_o (fun z => w z.2)]
      exact i3 v q1 (by omega)
  · unfold V_X6_forget
    exact fun h6 e6 z ez => ⟨30, 0, ez, by omega, by rw [e6], fun v q1 q2 => by omega, rfl⟩

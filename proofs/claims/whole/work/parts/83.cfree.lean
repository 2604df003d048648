/-! Colouring: bits, the free colour, the five round a vertex -/
theorem bit_d : ∀ (b : Fin 64) (c x : Fin 6), (0 ≤ jor ((b : Nat) : Int) (jshl 1 ((c : Nat) : Int)) ∧ jor ((b : Nat) : Int) (jshl 1 ((c : Nat) : Int)) < 64) ∧ (jand (jor ((b : Nat) : Int) (jshl 1 ((c : Nat) : Int))) (jshl 1 ((x : Nat) : Int)) = 0 ↔ jand ((b : Nat) : Int) (jshl 1 ((x : Nat) : Int)) = 0 ∧ x ≠ c) := by decide +kernel
theorem bit_or {b c : Int} (hb : 0 ≤ b ∧ b < 64) (hc : 0 ≤ c ∧ c ≤ 5) : (0 ≤ jor b (jshl 1 c) ∧ jor b (jshl 1 c) < 64) ∧ ∀ x : Int, 0 ≤ x → x ≤ 5 → (jand (jor b (jshl 1 c)) (jshl 1 x) = 0 ↔ jand b (jshl 1 x) = 0 ∧ x ≠ c) := by
  obtain ⟨b, rfl⟩ : ∃ n : Nat, b = n := ⟨b.toNat, by omega⟩
  obtain ⟨c, rfl⟩ : ∃ n : Nat, c = n := ⟨c.toNat, by omega⟩
  refine ⟨(bit_d ⟨b, by omega⟩ ⟨c, by omega⟩ ⟨0, by decide⟩).1, fun x h1 h2 => ?_⟩
  obtain ⟨x, rfl⟩ : ∃ n : Nat, x = n := ⟨x.toNat, by omega⟩
  have := (bit_d ⟨b, by omega⟩ ⟨c, by omega⟩ ⟨x, by omega⟩).2
  refine this.trans (and_congr Iff.rfl (not_congr ?_))
  rw [Fin.mk.injEq]
  omega
theorem bit_0 : ∀ x : Fin 6, jand 0 (jshl 1 ((x : Nat) : Int)) = 0 := by decide +kernel
theorem bit_z {x : Int} (h1 : 0 ≤ x) (h2 : x ≤ 5) : jand 0 (jshl 1 x) = 0 := by
  obtain ⟨x, rfl⟩ : ∃ n : Nat, x = n := ⟨x.toNat, by omega⟩
  exact bit_0 ⟨x, by omega⟩
/-- a colour is used round v -/
def Us (g : Hp) (c : Int → Int) (v x : Int) : Prop := ∃ k : Nat, (k : Int) < g 11 v ∧ c (nbr g v k) = x
def Fre (g : Hp) (c : Int → Int) (v r : Int) : Prop := (1 ≤ r ∧ r ≤ 5) ∧ ¬ Us g c v r ∧ ∀ x, 1 ≤ x → x < r → Us g c v x
def Nof (g : Hp) (c : Int → Int) (v : Int) : Prop := ∀ x, 1 ≤ x → x ≤ 5 → Us g c v x
theorem Us_gs {h h' : Hp} (g : Gs h h') (c : Int → Int) (v x : Int) : Us h' c v x ↔ Us h c v x := by
  unfold Us
  rw [g.2.2.2.2.2.2]
  exact exists_congr (fun k => and_congr Iff.rfl (by rw [nbr_gs g]))
/-- all colours are 0 to 5 -/
def CR (c : Int → Int) : Prop := ∀ v, 0 ≤ c v ∧ c v ≤ 5
def p_lfc (v : Int) (h : Hp) : Prop := (∃ R, GI h R) ∧ vOK h v ∧ CR (nc h 20)
def q_lfc (v : Int) (h : Hp) (r : Int) : Prop := Fre h (nc h 20) v r ∨ (r = -1 ∧ Nof h (nc h 20) v)
set_option maxHeartbeats 1000000 in
theorem ct_lfc {l : Launch} (v : Int) (h : Hp) (hb : p_lfc v h) : Ct l yX0_leastFreeColour cX0_leastFreeColour 5 (some .int) 1 21 0 [vr 4, vi v] h [] (fun r _ => q_lfc v h r) (fun _ => False) := by
  obtain ⟨⟨R, G⟩, hv, cr⟩ := hb
  have hd := G.deg hv
  have g1 := G.1
  have hv' := hv
  unfold vOK at hv'
  refine w_X0_leastFreeColour _ p_target q_target
    (fun n g x1 x2 x3 x4 => g = h ∧ x1 = v ∧ ∃ k : Nat, x4 = k ∧ (k : Int) ≤ h 11 v ∧ ((k : Int) < h 11 v → x3 = sk h v k) ∧ (0 ≤ x2 ∧ x2 < 64) ∧ (∀ x : Int, 0 ≤ x → x ≤ 5 → (jand x2 (jshl 1 x) = 0 ↔ ∀ i : Nat, i < k → nc h 20 (nbr h v i) ≠ x)) ∧ n = 30 - k)
    (fun n g x2 x4 => g = h ∧ (1 ≤ x4 ∧ x4 ≤ 6) ∧ (∀ x : Int, 0 ≤ x → x ≤ 5 → (jand x2 (jshl 1 x) = 0 ↔ ¬ Us h (nc h 20) v x)) ∧ (∀ x, 1 ≤ x → x < x4 → Us h (nc h 20) v x) ∧ n = (6 - x4).toNat) h v ct_target ?_ ?_ (fun _ _ => ?_)
  · rintro n g x1 x2 x3 x4 - F - - - - ⟨rfl, rfl, k, rfl, i1, i2, i3, i4, i5⟩
    unfold V_X0_leastFreeColour_15
    refine ⟨by omega, fun c z7 e7 => ⟨5, rfl, by omega, fun x h1 h2 => (i4 x h1 h2).trans ?_, fun x h1 h2 => by omega, by omega⟩, fun c => ?_⟩
    · unfold Us
      refine ⟨fun z ⟨i, hi, e⟩ => z i (by omega) e, fun z i hi e => z ⟨i, by omega, e⟩⟩
    · have hk : (k : Int) < g 11 x1 := by omega
      have i2 := i2 hk
      subst i2
      have hs := sk_S G hv hk
      have hw : vOK g (nbr g x1 k) := nbr_v G hv hk
      refine ⟨Sd_lt G hs.1, fun r _ q => ?_⟩
      have q : r = nbr g x1 k := q
      subst q
      have hw' := hw
      unfold vOK at hw'
      have hc := cr (nbr g x1 k)
      have ec : g 20 (nbr g x1 k) = nc g 20 (nbr g x1 k) := (nc_v hw).symm
      rw [ec]
      obtain ⟨b1, b2⟩ := bit_or i3 hc
      refine ⟨by omega, fun z11 e11 => ⟨Sd_lt G hs.1, fun z ez => ⟨by unfold InR; omega, fun z3 e3 => ⟨30 - (k + 1), by omega, rfl, rfl, k + 1, by omega, by omega, fun _ => ez, by rw [e11]; exact b1, fun x h1 h2 => ?_, rfl⟩⟩⟩⟩
      rw [e11, b2 x h1 h2, i4 x h1 h2]
      refine ⟨fun z i hi => ?_, fun z => ⟨fun i hi => z i (by omega), fun e => z k (by omega) e.symm⟩⟩
      by_cases w : i = k
      · rw [w]; exact fun e => z.2 e.symm
      · exact z.1 i (by omega)
  · rintro n g x2 x4 - F - - ⟨rfl, i1, i2, i3, i4⟩
    unfold V_X0_leastFreeColour_66
    refine ⟨fun c => Or.inr ⟨rfl, fun x h1 h2 => i3 x h1 (by omega)⟩, fun c => ⟨fun c1 => ⟨by unfold InR; omega, fun z ez => ⟨n - 1, by omega, rfl, by omega, i2, fun x h1 h2 => ?_, by omega⟩⟩, fun c1 => Or.inl ⟨by omega, (i2 x4 (by omega) (by omega)).mp c1, i3⟩⟩⟩
    by_cases w : x = x4
    · rw [w]
      exact Classical.byContradiction (fun q => c1 ((i2 x4 (by omega) (by omega)).mpr q))
    · exact i3 x h1 (by omega)
  · unfold V_X0_leastFreeColour
    exact fun z0 e0 => ⟨by omega, fun z1 e1 z2 e2 => ⟨30, rfl, rfl, 0, e2, by omega, fun _ => e1, by omega, fun x h1 h2 => by rw [e0]; exact ⟨fun _ i hi => absurd hi (Nat.not_lt_zero _), fun _ => bit_z h1 h2⟩, rfl⟩⟩
/-- the coloured neighbours in their order -/
def nbl (g : Hp) (c : Int → Int) (v : Int) : Nat → List Int
  | 0 => []
  | k + 1 => if c (nbr g v k) = 0 then nbl g c v k else nbl g c v k ++ [nbr g v k]
def NB (g : Hp) (c : Int → Int) (v : Int) : List Int := nbl g c v (g 11 v).toNat
theorem nbl_gs {h h' : Hp} (g : Gs h h') {c : Int → Int} {v : Int} : ∀ k : Nat, nbl h' c v k = nbl h c v k := by
  intro k
  induction k with
  | zero => rfl
  | succ k ih =>
    unfold nbl
    rw [ih, nbr_gs g]
theorem NB_gs {h h' : Hp} (g : Gs h h') {c : Int → Int} {v : Int} : NB h' c v = NB h c v := by
  unfold NB
  rw [nbl_gs g, g.2.2.2.2.2.2]
theorem nbl_mem {h : Hp} {c : Int → Int} {v w : Int} : ∀ k : Nat, w ∈ nbl h c v k ↔ ∃ i : Nat, i < k ∧ nbr h v i = w ∧ c w ≠ 0 := by
  intro k
  induction k with
  | zero => exact ⟨fun z => absurd z List.not_mem_nil, fun ⟨i, hi, _⟩ => absurd hi (Nat.not_lt_zero _)⟩
  | succ k ih =>
    unfold nbl
    split
    · next e =>
      rw [ih]
      refine ⟨fun ⟨i, h1, h2⟩ => ⟨i, by omega, h2⟩, fun ⟨i, h1, h2, h3⟩ => ⟨i, ?_, h2, h3⟩⟩
      rcases Nat.lt_or_ge i k with z | z
      · exact z
      · have : i = k := by omega
        subst this
        rw [h2] at e
        exact absurd e h3
    · next e =>
      rw [List.mem_append, ih, List.mem_singleton]
      refine ⟨fun z => ?_, fun ⟨i, h1, h2, h3⟩ => ?_⟩
      · rcases z with ⟨i, h1, h2⟩ | z
        · exact ⟨i, by omega, h2⟩
        · exact ⟨k, by omega, z.symm, by rw [z]; exact e⟩
      · rcases Nat.lt_or_ge i k with z | z
        · exact Or.inl ⟨i, z, h2, h3⟩
        · have : i = k := by omega
          subst this
          exact Or.inr h2.symm
theorem NB_v {h : Hp} {R : Int → Nat → Int} (G : GI h R) {c : Int → Int} {v : Int} (hv : vOK h v) {w : Int} (hw : w ∈ NB h c v) : vOK h w ∧ c w ≠ 0 := by
  obtain ⟨i, h1, h2, h3⟩ := (nbl_mem _).mp hw
  exact ⟨by rw [← h2]; exact nbr_v G hv (by omega), h3⟩
theorem NB_five {h : Hp} {c : Int → Int} {v : Int} (n : Nof h c v) : 5 ≤ (NB h c v).length := by
  have ex : ∀ x : Nat, ∃ i : Nat, x < 5 → ∃ w, (NB h c v)[i]? = some w ∧ c w = x + 1 := by
    intro x
    by_cases hx : x < 5
    · obtain ⟨k, hk, e⟩ := n (x + 1) (by omega) (by omega)
      have : nbr h v k ∈ NB h c v := (nbl_mem _).mpr ⟨k, by omega, rfl, by omega⟩
      obtain ⟨i, hi⟩ := List.mem_iff_getElem?.mp this
      exact ⟨i, fun _ => ⟨_, hi, e⟩⟩
    · exact ⟨0, fun z => absurd z hx⟩
  have := inj_le (NB h c v).length (fun x => ((Classical.choose (ex x) : Nat) : Int)) 5 (fun x hx => by
    obtain ⟨w, e, -⟩ := Classical.choose_spec (ex x) hx
    have := (List.getElem?_eq_some_iff.mp e).1
    show (0 : Int) ≤ ((Classical.choose (ex x) : Nat) : Int) ∧ ((Classical.choose (ex x) : Nat) : Int) < _
    omega) (fun x y hx hy e => by
    obtain ⟨w, e1, e2⟩ := Classical.choose_spec (ex x) hx
    obtain ⟨w', e1', e2'⟩ := Classical.choose_spec (ex y) hy
    have e : ((Classical.choose (ex x) : Nat) : Int) = ((Classical.choose (ex y) : Nat) : Int) := e
    have e' : Classical.choose (ex x) = Classical.choose (ex y) := by omega
    rw [e', e1'] at e1
    rw [← Option.some.inj e1] at e2
    omega)
  omega
def p_listFive (v : Int) (h : Hp) : Prop := (∃ R, GI h R) ∧ vOK h v
def q_listFive (v : Int) (h h' : Hp) : Prop := ∀ i : Nat, i < 5 → i < (NB h (nc h 20) v).length → (NB h (nc h 20) v)[i]? = some (h' 23 i)
set_option maxHeartbeats 1000000 in
theorem ct_listFive {l : Launch} (v : Int) (h : Hp) (hb : p_listFive v h) : Ct l yX0_listFiveRound cX0_listFiveRound 6 none 1 21 0 [vr 4, vi v] h [23] (fun _ h1 => q_listFive v h h1) (fun _ => False) := by
  obtain ⟨⟨R, G⟩, hv⟩ := hb
  have hd := G.deg hv
  have g1 := G.1
  have hv' := hv
  unfold vOK at hv'
  refine w_X0_listFiveRound _ p_target q_target
    (fun n g x1 x2 x3 x4 => x1 = v ∧ ∃ k : Nat, x4 = k ∧ (k : Int) ≤ h 11 v ∧ ((k : Int) < h 11 v → x3 = sk h v k) ∧ (0 ≤ x2 ∧ x2 ≤ 5) ∧ (x2 < 5 → x2 = (nbl h (nc h 20) v k).length) ∧ (x2 = 5 → 5 ≤ (nbl h (nc h 20) v k).length) ∧ (∀ i : Nat, i < 5 → i < (nbl h (nc h 20) v k).length → (nbl h (nc h 20) v k)[i]? = some (g 23 i)) ∧ n = 30 - k) h v ct_target ?_ (fun _ _ => ?_)
  · rintro n g x1 x2 x3 x4 - F - - - - ⟨rfl, k, rfl, i1, i2, i3, i4, i5, i6, i7⟩
    have gs : Gs h g := Gs.of F (by decide)
    unfold V_X0_listFiveRound_15 V_X0_listFiveRound_65
    rw [gs.2.2.2.2.2.2]
    refine ⟨by omega, fun c => ?_, fun c => ?_⟩
    · show q_listFive x1 h g
      unfold q_listFive NB
      rw [show (h 11 x1).toNat = k by omega]
      exact i6
    · have hk : (k : Int) < h 11 x1 := by omega
      have i2 := i2 hk
      subst i2
      have hs := sk_S G hv hk
      have hw : vOK h (nbr h x1 k) := nbr_v G hv hk
      refine ⟨Sd_lt G hs.1, fun r _ q z9 e9 => ?_⟩
      have q : r = g 6 (tw (sk h x1 k)) := q
      have e9 : z9 = nbr h x1 k := by rw [e9, q, gs.2.1]; rfl
      subst e9
      have hw' := hw
      unfold vOK at hw'
      have ec : g 20 (nbr h x1 k) = nc h 20 (nbr h x1 k) := by rw [F 20 (by decide), nc_v hw]
      rw [ec, gs.2.2.1]
      have hl : nc h 20 (nbr h x1 k) ≠ 0 → (nbl h (nc h 20) x1 (k + 1)) = nbl h (nc h 20) x1 k ++ [nbr h x1 k] := fun z => if_neg z
      have ll : (nbl h (nc h 20) x1 k ++ [nbr h x1 k]).length = (nbl h (nc h 20) x1 k).length + 1 := by rw [List.length_append]; rfl
      refine ⟨by omega, fun c1 => ⟨Sd_lt G hs.1, fun z ez => ⟨by unfold InR; omega, fun z3 e3 => ⟨30 - (k + 1), by omega, rfl, k + 1, by omega, by omega, fun _ => ez, i3, ?_, ?_, ?_, rfl⟩⟩⟩, fun c1 => ⟨fun c2 => ⟨Sd_lt G hs.1, fun z ez => ⟨by unfold InR; omega, fun z3 e3 => ⟨30 - (k + 1), by omega, rfl, k + 1, by omega, by omega, fun _ => ez, i3, ?_, ?_, ?_, rfl⟩⟩⟩, fun c2 => ⟨by omega, fun h14 e14 => ⟨by unfold InR; omega, fun z15 e15 => ⟨Sd_lt G hs.1, fun z ez => ⟨by unfold InR; omega, fun z3 e3 => ⟨30 - (k + 1), by omega, rfl, k + 1, by omega, by omega, fun _ => by rw [ez, e14, hup_k (by decide), F 7 (by decide)]; rfl, by omega, ?_, ?_, ?_, rfl⟩⟩⟩⟩⟩⟩⟩
      · rw [show nbl h (nc h 20) x1 (k + 1) = nbl h (nc h 20) x1 k from if_pos c1]; exact i4
      · rw [show nbl h (nc h 20) x1 (k + 1) = nbl h (nc h 20) x1 k from if_pos c1]; exact i5
      · rw [show nbl h (nc h 20) x1 (k + 1) = nbl h (nc h 20) x1 k from if_pos c1]; exact i6
      · intro z; omega
      · intro z; rw [hl c1, ll]; have := i5 z; omega
      · intro i h1 h2
        have l5 := i5 (by omega)
        rw [hl c1, List.getElem?_append_left (by omega)]
        exact i6 i h1 (by omega)
      · intro z; rw [hl c1, ll]; have := i4 (by omega); omega
      · intro z; rw [hl c1, ll]; have := i4 (by omega); omega
      · intro i h1 h2
        have l4 := i4 (by omega)
        rw [hl c1, ll] at h2
        rw [hl c1, e14]
        by_cases w : i = (nbl h (nc h 20) x1 k).length
        · subst w
          rw [l4, hup_s, List.getElem?_append_right (Nat.le_refl _), Nat.sub_self]
          rfl
        · rw [hup_o (fun y => w (by have := y.2; omega)), List.getElem?_append_left (by omega)]
          exact i6 i h1 (by omega)
  · unfold V_X0_listFiveRound
    exact fun z0 e0 => ⟨by omega, fun z1 e1 z2 e2 => ⟨30, rfl, 0, e2, by omega, fun _ => e1, by omega, fun _ => e0, fun z => by omega, fun i h1 h2 => absurd h2 (Nat.not_lt_zero _), rfl⟩⟩

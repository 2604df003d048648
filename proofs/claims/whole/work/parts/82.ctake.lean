/-! Colouring: forget, the order of taking -/
def p_forget (h : Hp) : Prop := ∃ R, GI h R
def q_forget (h h' : Hp) : Prop := (∀ v, nc h' 20 v = 0) ∧ h' 4 8 = 0 ∧ ∀ j, j ≠ 8 → h' 4 j = h 4 j
theorem ct_forget {l : Launch} (h : Hp) (hb : p_forget h) : Ct l yX0_forget cX0_forget 2 none 0 0 0 [vr 4] h [4, 20] (fun _ h1 => q_forget h h1) (fun _ => False) := by
  obtain ⟨R, G⟩ := hb
  have g1 := G.1
  refine w_X0_forget _ (fun n g x1 => ∃ k : Nat, x1 = k ∧ (k : Int) ≤ h 1 6 ∧ (∀ w : Int, 0 ≤ w → w < k → g 20 w = 0) ∧ g 4 = h 4 ∧ n = 30 - k) h ?_ (fun _ => ?_)
  · rintro n g x1 - F - ⟨k, rfl, i1, i2, i3, i4⟩
    unfold V_X0_forget_2
    rw [F 1 (by decide)]
    refine ⟨fun c h2 e2 => ⟨fun v => ?_, by rw [e2, hup_s], fun j hj => by rw [e2, hup_o (fun z => hj z.2), i3]⟩, fun c => ⟨by omega, fun h4 e4 => ⟨by unfold InR; omega, fun z ez => ⟨30 - (k + 1), by omega, k + 1, by omega, by omega, fun w w1 w2 => ?_, by rw [e4, hup_k (by decide)]; exact i3, rfl⟩⟩⟩⟩
    · unfold nc
      rw [e2, hup_k (by decide), hup_k (by decide), F 1 (by decide)]
      by_cases w : 0 ≤ v ∧ v < h 1 6
      · rw [if_pos w, i2 v w.1 (by omega)]
      · rw [if_neg w]
    · rw [e4]
      by_cases z : w = k
      · rw [z, hup_s]
      · rw [hup_o (fun q => z q.2)]
        exact i2 w w1 (by omega)
  · unfold V_X0_forget
    exact fun z ez => ⟨30, 0, ez, by omega, fun w w1 w2 => by omega, rfl, rfl⟩
/-- how many neighbours of v are not yet in T -/
def lef (T : List Int) (g : Hp) (v : Int) : Int := cnt (fun k => nbr g v k.toNat ∉ T) (g 11 v).toNat
theorem lef_gs {h h' : Hp} (g : Gs h h') (T : List Int) (v : Int) : lef T h' v = lef T h v := by
  unfold lef
  rw [g.2.2.2.2.2.2]
  exact cnt_congr _ (fun k _ => by rw [nbr_gs g])
def Can (T : List Int) (g : Hp) (v : Int) : Prop := vOK g v ∧ v ∉ T ∧ lef T g v ≤ 5
def Nx (T : List Int) (g : Hp) (v : Int) : Prop := Can T g v ∧ ∀ u, u < v → ¬ Can T g u
theorem Nx_uniq {T : List Int} {g : Hp} {v w : Int} (a : Nx T g v) (b : Nx T g w) : v = w := by
  rcases Int.lt_trichotomy v w with c | c | c
  · exact absurd a.1 (b.2 v c)
  · exact c
  · exact absurd b.1 (a.2 w c)
/-- whatever is taken, one of the rest has at most five neighbours there -/
def EU (g : Hp) : Prop := ∀ T : List Int, (∃ u, vOK g u ∧ u ∉ T) → ∃ v, Can T g v
theorem Can_gs {h h' : Hp} (g : Gs h h') (T : List Int) (v : Int) : Can T h' v ↔ Can T h v := by
  unfold Can vOK
  rw [lef_gs g, g.1]
theorem Nx_gs {h h' : Hp} (g : Gs h h') (T : List Int) (v : Int) : Nx T h' v ↔ Nx T h v := by
  unfold Nx
  rw [Can_gs g]
  exact and_congr Iff.rfl (forall_congr' (fun u => imp_congr Iff.rfl (not_congr (Can_gs g T u))))
theorem EU_gs {h h' : Hp} (g : Gs h h') (e : EU h) : EU h' := by
  intro T ⟨u, hu, hn⟩
  obtain ⟨v, hv⟩ := e T ⟨u, by unfold vOK at hu ⊢; rw [g.1] at hu; exact hu, hn⟩
  exact ⟨v, (Can_gs g T v).mpr hv⟩
/-- marks of what is taken -/
def TkI (h : Hp) (T : List Int) : Prop := ∀ v, 0 ≤ v → v < h 1 6 → h 21 v = if v ∈ T then 1 else 0
def p_nbLeft (v : Int) (h : Hp) : Prop := (∃ R, GI h R) ∧ vOK h v ∧ ∃ T, TkI h T
def q_nbLeft (v : Int) (h : Hp) (r : Int) : Prop := ∀ T, TkI h T → r = lef T h v
set_option maxHeartbeats 1000000 in
theorem ct_nbLeft {l : Launch} (v : Int) (h : Hp) (hb : p_nbLeft v h) : Ct l yX0_neighboursLeft cX0_neighboursLeft 5 (some .int) 1 21 0 [vr 4, vi v] h [] (fun r _ => q_nbLeft v h r) (fun _ => False) := by
  obtain ⟨⟨R, G⟩, hv, T0, t0⟩ := hb
  have hd := G.deg hv
  have g1 := G.1
  have hv' := hv
  unfold vOK at hv'
  refine w_X0_neighboursLeft _ p_target q_target (fun n g x1 x2 x3 x4 => g = h ∧ x1 = v ∧ ∃ k : Nat, x4 = k ∧ (k : Int) ≤ h 11 v ∧ ((k : Int) < h 11 v → x3 = sk h v k) ∧ (0 ≤ x2 ∧ x2 ≤ k) ∧ (∀ T, TkI h T → x2 = cnt (fun k => nbr h v k.toNat ∉ T) k) ∧ n = 30 - k) h v ct_target ?_ (fun _ _ => ?_)
  · rintro n g x1 x2 x3 x4 - F - - - - ⟨rfl, rfl, k, rfl, i1, i2, i3, i4, i5⟩
    unfold V_X0_neighboursLeft_15 V_X0_neighboursLeft_48
    refine ⟨by omega, fun c => ?_, fun c => ?_⟩
    · intro T t
      unfold lef
      rw [i4 T t, show k = (g 11 x1).toNat by omega]
    · have hk : (k : Int) < g 11 x1 := by omega
      have i2 := i2 hk
      subst i2
      have hs := sk_S G hv hk
      have hw : vOK g (nbr g x1 k) := nbr_v G hv hk
      refine ⟨Sd_lt G hs.1, fun r _ q => ?_⟩
      have q : r = nbr g x1 k := q
      subst q
      have hw' := hw
      unfold vOK at hw'
      refine ⟨by omega, fun c1 => ⟨Sd_lt G hs.1, fun z ez => ⟨by unfold InR; omega, fun z3 e3 => ⟨30 - (k + 1), by omega, rfl, rfl, k + 1, by omega, by omega, fun _ => ez, by omega, fun T t => ?_, rfl⟩⟩⟩, fun c1 => ⟨by unfold InR; omega, fun z11 e11 => ⟨Sd_lt G hs.1, fun z ez => ⟨by unfold InR; omega, fun z3 e3 => ⟨30 - (k + 1), by omega, rfl, rfl, k + 1, by omega, by omega, fun _ => ez, by omega, fun T t => ?_, rfl⟩⟩⟩⟩⟩
      · rw [cnt_succ, if_neg (by
          show ¬ nbr g x1 k ∉ T
          intro z
          rw [t _ hw'.1 hw'.2, if_neg z] at c1
          exact c1 rfl), ← i4 T t]
        omega
      · rw [cnt_succ, if_pos (by
          show nbr g x1 k ∉ T
          intro z
          rw [t _ hw'.1 hw'.2, if_pos z] at c1
          omega), ← i4 T t]
        omega
  · unfold V_X0_neighboursLeft
    exact fun z0 e0 => ⟨by omega, fun z1 e1 z2 e2 => ⟨30, rfl, rfl, 0, e2, by omega, fun _ => e1, by omega, fun T _ => e0, rfl⟩⟩
def p_least (h : Hp) : Prop := (∃ R, GI h R) ∧ ∃ T, TkI h T
def q_least (h : Hp) (r : Int) : Prop := ∀ T, TkI h T → (Nx T h r) ∨ (r = -1 ∧ ∀ v, ¬ Can T h v)
theorem ct_least {l : Launch} (h : Hp) (hb : p_least h) : Ct l yX0_leastToTake cX0_leastToTake 2 (some .int) 2 45 0 [vr 4] h [] (fun r _ => q_least h r) (fun _ => False) := by
  obtain ⟨⟨R, G⟩, T0, t0⟩ := hb
  have g1 := G.1
  refine w_X0_leastToTake _ p_nbLeft q_nbLeft (fun n g x1 => g = h ∧ ∃ k : Nat, x1 = k ∧ (k : Int) ≤ h 1 6 ∧ (∀ T, TkI h T → ∀ u : Int, u < k → ¬ Can T h u) ∧ n = 30 - k) h ct_nbLeft ?_ (fun _ => ?_)
  · rintro n g x1 - F - ⟨rfl, k, rfl, i1, i2, i3⟩
    have step : ∀ T, TkI g T → ¬ Can T g k → ∀ u, u < ((k + 1 : Nat) : Int) → ¬ Can T g u := by
      intro T t z u hu
      by_cases w : u = k
      · rw [w]; exact z
      · exact i2 T t u (by omega)
    unfold V_X0_leastToTake_2 V_X0_leastToTake_33
    refine ⟨fun c T t => Or.inr ⟨rfl, fun v hv => ?_⟩, fun c => ⟨by omega, fun c1 => ⟨by unfold InR; omega, fun z ez => ⟨30 - (k + 1), by omega, rfl, k + 1, by omega, by omega, fun T t => step T t ?_, rfl⟩⟩, fun c1 => ⟨⟨⟨R, G⟩, ⟨by omega, by omega⟩, T0, t0⟩, fun r _ q => ⟨fun c2 => ⟨by unfold InR; omega, fun z ez => ⟨30 - (k + 1), by omega, rfl, k + 1, by omega, by omega, fun T t => step T t ?_, rfl⟩⟩, fun c2 => fun T t => Or.inl ⟨⟨⟨by omega, by omega⟩, ?_, ?_⟩, i2 T t⟩⟩⟩⟩⟩
    · have := hv.1
      unfold vOK at this
      exact i2 T t v (by omega) hv
    · intro z
      rw [t k (by omega) (by omega), if_neg z.2.1] at c1
      exact c1 rfl
    · intro z
      have := z.2.2
      rw [← q T t] at this
      omega
    · intro z
      rw [t k (by omega) (by omega), if_pos z] at c1
      omega
    · rw [← q T t]
      omega
  · unfold V_X0_leastToTake
    exact fun z ez => ⟨30, rfl, 0, ez, by omega, fun T t u hu z => by have := z.1; unfold vOK at this; omega, rfl⟩
/-- an order in which each is the least that may be taken -/
def Ord (g : Hp) (L : List Int) : Prop := ∀ i v, L[i]? = some v → Nx (L.take i) g v
theorem Ord_nil {g : Hp} : Ord g [] := by
  intro i v e
  rw [List.getElem?_nil] at e
  cases e
theorem Ord_gs {h h' : Hp} (g : Gs h h') {L : List Int} (o : Ord h L) : Ord h' L := fun i v e => (Nx_gs g _ v).mpr (o i v e)
theorem Ord_uniq {g : Hp} {L L' : List Int} (a : Ord g L) (b : Ord g L') (hl : L.length = L'.length) : L = L' := by
  have key : ∀ i : Nat, L.take i = L'.take i := by
    intro i
    induction i with
    | zero => rw [List.take_zero, List.take_zero]
    | succ i ih =>
      rw [List.take_succ, List.take_succ, ih]
      congr 1
      by_cases w : i < L.length
      · have e1 := List.getElem?_eq_getElem w
        have e2 := List.getElem?_eq_getElem (show i < L'.length by omega)
        have n1 := a i _ e1
        have n2 := b i _ e2
        rw [ih] at n1
        rw [e1, e2, Nx_uniq n1 n2]
      · rw [List.getElem?_eq_none (by omega), List.getElem?_eq_none (by omega)]
  have := key L.length
  rw [List.take_of_length_le (Nat.le_refl _), List.take_of_length_le (by omega)] at this
  exact this
theorem Ord_VL {g : Hp} {L : List Int} (a : Ord g L) : VL g L := by
  refine ⟨List.pairwise_iff_getElem.mpr (fun i j hi hj hij => ?_), fun w hw => ?_⟩
  · have n := (a j _ (List.getElem?_eq_getElem hj)).1.2.1
    intro e
    refine n ?_
    rw [← e]
    refine List.mem_iff_getElem?.mpr ⟨i, ?_⟩
    rw [List.getElem?_take, if_pos hij, List.getElem?_eq_getElem hi]
  · obtain ⟨i, hi⟩ := List.mem_iff_getElem?.mp hw
    exact (a i w hi).1.1
theorem Ord_add {g : Hp} {L : List Int} {v : Int} (a : Ord g L) (n : Nx L g v) : Ord g (L ++ [v]) := by
  intro i w e
  have hi := (List.getElem?_eq_some_iff.mp e).1
  rw [List.length_append] at hi
  have : ([v] : List Int).length = 1 := rfl
  by_cases z : i < L.length
  · rw [List.getElem?_append_left z] at e
    rw [List.take_append_of_le_length (by omega)]
    exact a i w e
  · have z2 : i = L.length := by omega
    subst z2
    rw [List.getElem?_append_right (Nat.le_refl _), Nat.sub_self] at e
    have e : some v = some w := e
    rw [List.take_append_of_le_length (Nat.le_refl _), List.take_of_length_le (Nat.le_refl _), ← Option.some.inj e]
    exact n
/-- not all vertices stand in a shorter list -/
theorem out_ex {h : Hp} {L : List Int} (hl : (L.length : Int) < h 1 6) : ∃ u, vOK h u ∧ u ∉ L := by
  apply Classical.byContradiction
  intro z
  have all : ∀ u : Int, 0 ≤ u → u < h 1 6 → u ∈ L := fun u h1 h2 => Classical.byContradiction (fun q => z ⟨u, ⟨h1, h2⟩, q⟩)
  have ex : ∀ u : Nat, ∃ i : Nat, (u : Int) < h 1 6 → L[i]? = some (u : Int) := by
    intro u
    by_cases w : (u : Int) < h 1 6
    · obtain ⟨i, hi⟩ := List.mem_iff_getElem?.mp (all u (by omega) w)
      exact ⟨i, fun _ => hi⟩
    · exact ⟨0, fun q => absurd q w⟩
  have := inj_le L.length (fun u => ((Classical.choose (ex u) : Nat) : Int)) (h 1 6).toNat (fun u hu => by
    have := Classical.choose_spec (ex u) (by omega)
    have := (List.getElem?_eq_some_iff.mp this).1
    show (0 : Int) ≤ ((Classical.choose (ex u) : Nat) : Int) ∧ ((Classical.choose (ex u) : Nat) : Int) < _
    omega) (fun u w hu hw e => by
    have a1 := Classical.choose_spec (ex u) (by omega)
    have a2 := Classical.choose_spec (ex w) (by omega)
    have e : ((Classical.choose (ex u) : Nat) : Int) = ((Classical.choose (ex w) : Nat) : Int) := e
    have e' : Classical.choose (ex u) = Classical.choose (ex w) := by omega
    rw [e'] at a1
    have := Option.some.inj (a1.symm.trans a2)
    omega)
  omega
def p_takeAll (h : Hp) : Prop := (∃ R, GI h R) ∧ EU h
def q_takeAll (h : Hp) (r : Int) (h' : Hp) : Prop := ∃ L, Ord h L ∧ (L.length : Int) = h 1 6 ∧ r = h 1 6 ∧ ∀ i : Nat, i < L.length → L[i]? = some (h' 22 i)
set_option maxHeartbeats 1000000 in
theorem ct_takeAll {l : Launch} (h : Hp) (hb : p_takeAll h) : Ct l yX0_takeAll cX0_takeAll 4 (some .int) 3 66 0 [vr 4] h [21, 22] (fun r h1 => q_takeAll h r h1) (fun _ => False) := by
  obtain ⟨⟨R, G⟩, eu⟩ := hb
  have g1 := G.1
  refine w_X0_takeAll _ p_least q_least
    (fun n g x1 => ∃ k : Nat, x1 = k ∧ (k : Int) ≤ h 1 6 ∧ (∀ w : Int, 0 ≤ w → w < k → g 21 w = 0) ∧ n = 30 - k)
    (fun n g x1 x2 => ∃ L, x1 = (L.length : Nat) ∧ x2 = (L.length : Nat) ∧ (L.length : Int) ≤ h 1 6 ∧ Ord h L ∧ TkI g L ∧ (∀ i : Nat, i < L.length → L[i]? = some (g 22 i)) ∧ n = 30 - L.length) h ct_least ?_ ?_ (fun _ => ?_)
  · rintro n g x1 - F - ⟨k, rfl, i1, i2, i3⟩
    unfold V_X0_takeAll_2
    rw [F 1 (by decide)]
    refine ⟨fun c z15 e15 z16 e16 => ⟨30, [], by rw [e15]; rfl, by rw [e16]; rfl, g1.1, Ord_nil, fun v v1 v2 => ?_, fun i hi => absurd hi (Nat.not_lt_zero _), rfl⟩, fun c => ⟨by omega, fun h18 e18 => ⟨by unfold InR; omega, fun z ez => ⟨30 - (k + 1), by omega, k + 1, by omega, by omega, fun w w1 w2 => ?_, rfl⟩⟩⟩⟩
    · rw [F 1 (by decide)] at v2
      rw [i2 v v1 (by omega), if_neg List.not_mem_nil]
    · rw [e18]
      by_cases z : w = k
      · rw [z, hup_s]
      · rw [hup_o (fun q => z q.2)]
        exact i2 w w1 (by omega)
  · rintro n g x1 x2 - F - - ⟨L, rfl, rfl, i1, i2, i3, i4, i5⟩
    have gs : Gs h g := Gs.of F (by decide)
    unfold V_X0_takeAll_30 V_X0_takeAll_68
    rw [gs.1]
    refine ⟨fun c => ⟨L, i2, by omega, by omega, i4⟩, fun c => ⟨⟨⟨R, Gs_GI gs G⟩, L, i3⟩, fun r5 _ q5 z6 e6 => ?_⟩⟩
    have nx : Nx L h r5 := by
      rcases q5 L i3 with q | q
      · exact (Nx_gs gs L r5).mp q
      · obtain ⟨v, hv⟩ := eu L (out_ex (by omega))
        exact absurd ((Can_gs gs L v).mpr hv) (q.2 v)
    have hr := nx.1.1
    unfold vOK at hr
    subst e6
    refine ⟨fun c1 => by omega, fun c1 => ⟨by omega, fun h9 e9 => ⟨by omega, fun h11 e11 => ⟨by unfold InR; omega, fun z12 e12 => ⟨by unfold InR; omega, fun z1 e1 => ⟨30 - (L.length + 1), by omega, L ++ [z6], ?_, ?_, ?_, Ord_add i2 nx, ?_, ?_, ?_⟩⟩⟩⟩⟩⟩
    · rw [List.length_append, e12]; rfl
    · rw [List.length_append, e1]; rfl
    · rw [List.length_append]
      show ((L.length + 1 : Nat) : Int) ≤ _
      omega
    · intro v v1 v2
      rw [e11, hup_k (by decide), e9, hup_k (by decide), gs.1] at v2
      rw [e11, hup_k (by decide), e9]
      by_cases z : v = z6
      · rw [z, hup_s, if_pos (List.mem_append_right _ (List.mem_singleton.mpr rfl))]
      · rw [hup_o (fun q => z q.2), i3 v v1 (by rw [gs.1]; exact v2)]
        have : v ∈ L ++ [z6] ↔ v ∈ L := by
          rw [List.mem_append, List.mem_singleton]
          exact ⟨fun y => y.resolve_right z, Or.inl⟩
        by_cases y : v ∈ L
        · rw [if_pos y, if_pos (this.mpr y)]
        · rw [if_neg y, if_neg (fun q => y (this.mp q))]
    · intro i hi
      rw [List.length_append] at hi
      have h1 : ([z6] : List Int).length = 1 := rfl
      rw [e11]
      by_cases z : i = L.length
      · subst z
        rw [hup_s, List.getElem?_append_right (Nat.le_refl _), Nat.sub_self]
        rfl
      · have hl : i < L.length := by omega
        rw [hup_o (fun y => z (by have := y.2; omega)), List.getElem?_append_left hl, e9, hup_k (by decide)]
        exact i4 i hl
    · rw [List.length_append]; rfl
  · unfold V_X0_takeAll
    exact fun z ez => ⟨30, 0, ez, by omega, fun w w1 w2 => by omega, rfl⟩

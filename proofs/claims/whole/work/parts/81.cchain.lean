/-! Colouring: the contracts of addToChain, addNeighboursOf, collectChain, swapChain -/
def p_addToChain (v : Int) (h : Hp) : Prop := (0 ≤ v ∧ v < 30) ∧ 0 ≤ h 4 7 ∧ h 4 7 < 30
def q_addToChain (v : Int) (h h' : Hp) : Prop := h' = hup (hup (hup h 24 v 1) 25 (h 4 7) v) 4 7 (h 4 7 + 1)
theorem ct_addToChain {l : Launch} (v : Int) (h : Hp) (hb : p_addToChain v h) : Ct l yX0_addToChain cX0_addToChain 2 none 0 0 0 [vr 4, vi v] h [4, 24, 25] (fun _ h1 => q_addToChain v h h1) (fun _ => False) := by
  obtain ⟨b1, b2⟩ := hb
  refine w_X0_addToChain _ h v (fun _ _ => ?_)
  unfold V_X0_addToChain
  refine ⟨b1, fun h2 e2 => ?_⟩
  have k2 : h2 4 7 = h 4 7 := by rw [e2, hup_k (by decide)]
  rw [k2]
  refine ⟨b2, fun h4 e4 => ?_⟩
  have k4 : h4 4 7 = h 4 7 := by rw [e4, hup_k (by decide), k2]
  rw [k4]
  refine ⟨by unfold InR; omega, fun h6 e6 => ?_⟩
  show h6 = _
  rw [e6, e4, e2]
/-- the class's list of the chain -/
def CLi (h : Hp) (L : List Int) : Prop := ChI 4 25 24 7 h L
def p_addNb (u _ _ : Int) (h : Hp) : Prop := (∃ R, GI h R) ∧ vOK h u ∧ ∃ L, CLi h L ∧ VL h L
def q_addNb (u x y : Int) (h h' : Hp) : Prop := (∃ L, CLi h L ∧ CLi h' (addN (okC (nc h 20) x y) h u (h 11 u).toNat L)) ∧ ∀ j, j ≠ 7 → h' 4 j = h 4 j
set_option maxHeartbeats 1000000 in
theorem ct_addNb {l : Launch} (u x y : Int) (h : Hp) (hb : p_addNb u x y h) : Ct l yX0_addNeighboursOf cX0_addNeighboursOf 8 none 1 21 0 [vr 4, vi u, vi x, vi y] h [4, 24, 25] (fun _ h1 => q_addNb u x y h h1) (fun _ => False) := by
  obtain ⟨⟨R, G⟩, hu, L, c0, v0⟩ := hb
  have hd := G.deg hu
  have g1 := G.1
  have hu' := hu
  unfold vOK at hu'
  refine w_X0_addNeighboursOf _ p_target q_target p_addToChain q_addToChain (fun n g x1 x2 x3 x4 x5 => x1 = u ∧ x2 = x ∧ x3 = y ∧ ∃ k : Nat, x5 = k ∧ (k : Int) ≤ h 11 u ∧ ((k : Int) < h 11 u → x4 = sk h u k) ∧ CLi g (addN (okC (nc h 20) x y) h u k L) ∧ (∀ j, j ≠ 7 → g 4 j = h 4 j) ∧ n = 30 - k) h u x y ct_target ct_addToChain ?_ (fun _ _ _ _ => ?_)
  · rintro n g x1 x2 x3 x4 x5 - F - - - - - ⟨rfl, rfl, rfl, k, rfl, i1, i2, i3, i4, i5⟩
    have gs : Gs h g := Gs.of F (by decide)
    obtain ⟨a1, T, a2⟩ := addN_ok G (ok := okC (nc h 20) x2 x3) hu k i1 v0
    have next : (k : Int) < h 11 x1 → ∀ g', Fr [4, 24, 25] h g' → CLi g' (addN (okC (nc h 20) x2 x3) h x1 (k + 1) L) → (∀ j, j ≠ 7 → g' 4 j = h 4 j) → V_X0_addNeighboursOf_76 (fun _ h1 => q_addNb x1 x2 x3 h h1) p_target q_target p_addToChain q_addToChain (fun n g a1 a2 a3 x4 x5 => a1 = x1 ∧ a2 = x2 ∧ a3 = x3 ∧ ∃ k : Nat, x5 = k ∧ (k : Int) ≤ h 11 x1 ∧ ((k : Int) < h 11 x1 → x4 = sk h x1 k) ∧ CLi g (addN (okC (nc h 20) x2 x3) h x1 k L) ∧ (∀ j, j ≠ 7 → g 4 j = h 4 j) ∧ n = 30 - k) n g' x1 x2 x3 (sk h x1 k) k := by
      intro hk g' F' e1 e2
      have hs := sk_S G hu hk
      unfold V_X0_addNeighboursOf_76
      refine ⟨Sd_lt G hs.1, fun z ez => ⟨by unfold InR; omega, fun z3 e3 => ⟨30 - (k + 1), by omega, rfl, rfl, rfl, k + 1, by omega, by omega, fun _ => ?_, e1, e2, rfl⟩⟩⟩
      rw [ez, F' 7 (by decide)]
      rfl
    unfold V_X0_addNeighboursOf_14
    rw [gs.2.2.2.2.2.2]
    refine ⟨by omega, fun c => ⟨⟨L, c0, ?_⟩, i4⟩, fun c => ?_⟩
    · rw [show (h 11 x1).toNat = k by omega]
      exact i3
    · have hk : (k : Int) < h 11 x1 := by omega
      have i2 := i2 hk
      subst i2
      have hs := sk_S G hu hk
      refine ⟨Sd_lt G hs.1, fun r _ q z ez => ?_⟩
      have q : r = g 6 (tw (sk h x1 k)) := q
      have hw : vOK h (nbr h x1 k) := nbr_v G hu hk
      have ez : z = nbr h x1 k := by rw [ez, q, gs.2.1]; rfl
      subst ez
      have hw' := hw
      unfold vOK at hw'
      have f24 := i3.2.2 (nbr h x1 k) hw'.1 (by rw [gs.1]; exact hw'.2)
      have e20 : g 20 (nbr h x1 k) = nc h 20 (nbr h x1 k) := by rw [F 20 (by decide), nc_v hw]
      have no : ¬ (okC (nc h 20) x2 x3 (nbr h x1 k) = true ∧ nbr h x1 k ∉ addN (okC (nc h 20) x2 x3) h x1 k L) → addN (okC (nc h 20) x2 x3) h x1 (k + 1) L = addN (okC (nc h 20) x2 x3) h x1 k L := fun z => if_neg z
      have same : ¬ (okC (nc h 20) x2 x3 (nbr h x1 k) = true ∧ nbr h x1 k ∉ addN (okC (nc h 20) x2 x3) h x1 k L) → CLi g (addN (okC (nc h 20) x2 x3) h x1 (k + 1) L) := fun z => by rw [no z]; exact i3
      have put : nbr h x1 k ∉ addN (okC (nc h 20) x2 x3) h x1 k L → okC (nc h 20) x2 x3 (nbr h x1 k) = true → V_X0_addNeighboursOf_70 (fun _ h1 => q_addNb x1 x2 x3 h h1) p_target q_target p_addToChain q_addToChain (fun n g a1 a2 a3 x4 x5 => a1 = x1 ∧ a2 = x2 ∧ a3 = x3 ∧ ∃ k : Nat, x5 = k ∧ (k : Int) ≤ h 11 x1 ∧ ((k : Int) < h 11 x1 → x4 = sk h x1 k) ∧ CLi g (addN (okC (nc h 20) x2 x3) h x1 k L) ∧ (∀ j, j ≠ 7 → g 4 j = h 4 j) ∧ n = 30 - k) n g x1 x2 x3 (sk h x1 k) k (nbr h x1 k) := by
        intro n1 n2
        have hl := VL_lt G a1 hw n1
        have e7 : g 4 7 = (addN (okC (nc h 20) x2 x3) h x1 k L).length := i3.1
        unfold V_X0_addNeighboursOf_70
        refine ⟨⟨by omega, by omega, by omega⟩, fun h6 f6 _ q6 => ?_⟩
        have q6 : h6 = hup (hup (hup g 24 (nbr h x1 k) 1) 25 (g 4 7) (nbr h x1 k)) 4 7 (g 4 7 + 1) := q6
        refine next hk h6 (F.trans f6 (fun _ z => z)) ?_ (fun j hj => ?_)
        · have : addN (okC (nc h 20) x2 x3) h x1 (k + 1) L = addN (okC (nc h 20) x2 x3) h x1 k L ++ [nbr h x1 k] := if_pos ⟨n2, n1⟩
          rw [this]
          exact ChI_add i3 hw'.1 n1 q6 (by decide) (by decide) (by decide) (by decide) (by decide) (by decide)
        · rw [q6, hup_o (fun z => hj z.2), hup_k (by decide), hup_k (by decide)]
          exact i4 j hj
      refine ⟨by omega, fun z13 e13 => ⟨by omega, fun c1 => next hk g F (same ?_) i4, fun c1 => ?_⟩⟩
      · intro z
        rw [f24, if_neg z.2] at c1
        exact c1 rfl
      · have n1 : nbr h x1 k ∉ addN (okC (nc h 20) x2 x3) h x1 k L := by
          intro z
          rw [f24, if_pos z] at c1
          omega
        rw [e20] at e13
        refine ⟨fun c2 => put n1 (okC_t.mpr (Or.inl (e13.symm.trans c2))), fun c2 => ⟨fun c3 => next hk g F (same ?_) i4, fun c3 => put n1 (okC_t.mpr (Or.inr (e13.symm.trans c3)))⟩⟩
        intro z
        rcases okC_t.mp z.1 with y | y
        · exact c2 (e13.trans y)
        · exact c3 (e13.trans y)
  · unfold V_X0_addNeighboursOf
    exact ⟨by omega, fun z1 e1 z2 e2 => ⟨30, rfl, rfl, rfl, 0, e2, by omega, fun _ => e1, c0, fun _ _ => rfl, rfl⟩⟩
def p_collect (v _ : Int) (h : Hp) : Prop := (∃ R, GI h R) ∧ vOK h v
def q_collect (v y : Int) (h h' : Hp) : Prop := CLi h' (CH h (nc h 20) v y) ∧ ∀ j, j ≠ 7 → h' 4 j = h 4 j
set_option maxHeartbeats 1000000 in
theorem ct_collect {l : Launch} (v y : Int) (h : Hp) (hb : p_collect v y h) : Ct l yX0_collectChain cX0_collectChain 5 none 2 48 0 [vr 4, vi v, vi y] h [4, 24, 25] (fun _ h1 => q_collect v y h h1) (fun _ => False) := by
  obtain ⟨⟨R, G⟩, hv⟩ := hb
  have g1 := G.1
  have hv' := hv
  unfold vOK at hv'
  refine w_X0_collectChain _ p_addToChain q_addToChain p_addNb q_addNb
    (fun n g x1 x2 x3 => x1 = v ∧ x2 = y ∧ ∃ k : Nat, x3 = k ∧ (k : Int) ≤ h 1 6 ∧ (∀ w : Int, 0 ≤ w → w < k → g 24 w = 0) ∧ g 4 = h 4 ∧ n = 30 - k)
    (fun n g x2 x3 x4 => x2 = y ∧ x3 = nc h 20 v ∧ ∃ i : Nat, x4 = i ∧ i ≤ 30 ∧ CLi g (bfs (okC (nc h 20) (nc h 20 v) y) h v i) ∧ (∀ j, j ≠ 7 → g 4 j = h 4 j) ∧ n = 30 - i) h v y ct_addToChain ct_addNb ?_ ?_ (fun _ _ _ => ?_)
  · rintro n g x1 x2 x3 - F - - - ⟨rfl, rfl, k, rfl, i1, i2, i3, i4⟩
    have gs : Gs h g := Gs.of F (by decide)
    unfold V_X0_collectChain_2
    rw [gs.1]
    refine ⟨fun c => ⟨by omega, fun z10 e10 h11 e11 => ⟨⟨by omega, by rw [e11, hup_s]; omega⟩, fun h13 f13 _ q13 z14 e14 => ⟨30, rfl, ?_, 0, e14, by omega, ?_, fun j hj => ?_, rfl⟩⟩⟩, fun c => ⟨by omega, fun h16 e16 => ⟨by unfold InR; omega, fun z ez => ⟨30 - (k + 1), by omega, rfl, rfl, k + 1, by omega, by omega, fun w w1 w2 => ?_, by rw [e16, hup_k (by decide)]; exact i3, rfl⟩⟩⟩⟩
    · rw [e10, F 20 (by decide), nc_v hv]
    · have q13 : h13 = hup (hup (hup h11 24 x1 1) 25 (h11 4 7) x1) 4 7 (h11 4 7 + 1) := q13
      have c0 : ChI 4 25 24 7 h11 [] := by
        refine ⟨by rw [e11, hup_s]; rfl, fun i hi => absurd hi (Nat.not_lt_zero _), fun w w1 w2 => ?_⟩
        rw [e11, hup_k (by decide), gs.1] at w2
        rw [e11, hup_k (by decide), i2 w w1 (by omega), if_neg List.not_mem_nil]
      exact ChI_add c0 hv'.1 List.not_mem_nil q13 (by decide) (by decide) (by decide) (by decide) (by decide) (by decide)
    · have q13 : h13 = hup (hup (hup h11 24 x1 1) 25 (h11 4 7) x1) 4 7 (h11 4 7 + 1) := q13
      rw [q13, hup_o (fun z => hj z.2), hup_k (by decide), hup_k (by decide), e11, hup_o (fun z => hj z.2), i3]
    · rw [e16]
      by_cases z : w = k
      · rw [z, hup_s]
      · rw [hup_o (fun q => z q.2)]
        exact i2 w w1 (by omega)
  · rintro n g x2 x3 x4 - F - - - ⟨rfl, rfl, i, rfl, i1, i2, i3, i4⟩
    have gs : Gs h g := Gs.of F (by decide)
    have vl := bfs_ok G (ok := okC (nc h 20) (nc h 20 v) x2) hv i
    have hl := VL_len G vl
    have e7 : g 4 7 = (bfs (okC (nc h 20) (nc h 20 v) x2) h v i).length := i2.1
    have stop : g 4 7 ≤ i → CLi g (CH h (nc h 20) v x2) := by
      intro c
      unfold CH
      have := bfs_stop (ok := okC (nc h 20) (nc h 20 v) x2) (h := h) (v := v) (i := i) (by omega) (30 - i)
      rw [show i + (30 - i) = 30 by omega] at this
      rw [this]
      exact i2
    unfold V_X0_collectChain_46 V_X0_collectChain_81
    refine ⟨fun c => ⟨stop c, i3⟩, fun c => ⟨fun c1 => ⟨stop (by omega), i3⟩, fun c1 => ⟨by omega, ?_, fun h5 f5 _ q5 => ⟨by unfold InR; omega, fun z ez => ⟨30 - (i + 1), by omega, rfl, rfl, i + 1, by omega, by omega, ?_, fun j hj => ?_, rfl⟩⟩⟩⟩⟩
    · have hi := i2.2.1 i (by omega)
      have hu := vl.2 _ (List.mem_of_getElem? hi)
      refine ⟨⟨R, Gs_GI gs G⟩, ?_, _, i2, vl.1, fun w hw => ?_⟩
      · unfold vOK
        rw [gs.1]
        exact hu
      · have := vl.2 w hw
        unfold vOK at this ⊢
        rw [gs.1]
        exact this
    · obtain ⟨⟨L, l1, l2⟩, -⟩ := q5
      have eL : L = _ := ChI_uniq l1 i2
      have hi := i2.2.1 i (by omega)
      rw [eL] at l2
      have e20 : nc g 20 = nc h 20 := nc_cong (F 20 (by decide)) (F 1 (by decide))
      rw [addN_gs gs, e20, gs.2.2.2.2.2.2] at l2
      show ChI _ _ _ _ _ (match (bfs (okC (nc h 20) (nc h 20 v) x2) h v i)[i]? with
        | some u => addN (okC (nc h 20) (nc h 20 v) x2) h u (h 11 u).toNat (bfs (okC (nc h 20) (nc h 20 v) x2) h v i)
        | none => bfs (okC (nc h 20) (nc h 20 v) x2) h v i)
      rw [hi]
      exact l2
    · rw [q5.2 j hj]
      exact i3 j hj
  · unfold V_X0_collectChain
    exact fun z ez => ⟨30, rfl, rfl, 0, ez, by omega, fun w w1 w2 => by omega, rfl, rfl⟩
/-- changing the colours of a list -/
def p_swap (x y : Int) (h : Hp) : Prop := (∃ R, GI h R) ∧ ∃ L, CLi h L ∧ VL h L ∧ ∀ w ∈ L, nc h 20 w = x ∨ nc h 20 w = y
def q_swap (x y : Int) (h h' : Hp) : Prop := ∃ L, CLi h L ∧ nc h' 20 = Sw (nc h 20) L x y
theorem mem_take_iff {L : List Int} {i : Nat} {w : Int} (hn : L.Nodup) {x : Int} (e : L[i]? = some x) : w ∈ L.take (i + 1) ↔ w ∈ L.take i ∨ w = x := by
  rw [List.take_succ, e, List.mem_append]
  exact or_congr Iff.rfl List.mem_singleton
theorem not_mem_take {L : List Int} {i : Nat} (hn : L.Nodup) {x : Int} (e : L[i]? = some x) : x ∉ L.take i := by
  intro z
  obtain ⟨j, hj⟩ := List.mem_iff_getElem?.mp z
  have hlt : j < (L.take i).length := (List.getElem?_eq_some_iff.mp hj).1
  rw [List.length_take] at hlt
  rw [List.getElem?_take, if_pos (by omega)] at hj
  obtain ⟨a1, a2⟩ := List.getElem?_eq_some_iff.mp e
  obtain ⟨b1, b2⟩ := List.getElem?_eq_some_iff.mp hj
  exact List.pairwise_iff_getElem.mp hn j i b1 a1 (by omega) (b2.trans a2.symm)
set_option maxHeartbeats 1000000 in
theorem ct_swap {l : Launch} (x y : Int) (h : Hp) (hb : p_swap x y h) : Ct l yX0_swapChain cX0_swapChain 5 none 0 0 0 [vr 4, vi x, vi y] h [20] (fun _ h1 => q_swap x y h h1) (fun _ => False) := by
  obtain ⟨⟨R, G⟩, L, c0, v0, hL⟩ := hb
  have g1 := G.1
  have hlen := VL_len G v0
  have e7 : h 4 7 = L.length := c0.1
  refine w_X0_swapChain _ (fun n g x1 x2 x3 => x1 = x ∧ x2 = y ∧ ∃ i : Nat, x3 = i ∧ i ≤ L.length ∧ nc g 20 = Sw (nc h 20) (L.take i) x y ∧ n = 30 - i) h x y ?_ (fun _ _ _ => ?_)
  · rintro n g x1 x2 x3 - F - - - ⟨rfl, rfl, i, rfl, i1, i2, i3⟩
    have gs : Gs h g := Gs.of F (by decide)
    have k4 : g 4 = h 4 := F 4 (by decide)
    unfold V_X0_swapChain_2 V_X0_swapChain_40
    rw [k4, F 25 (by decide)]
    refine ⟨fun c => ⟨L, c0, ?_⟩, fun c => ⟨by omega, fun z7 e7' => ?_⟩⟩
    · rw [i2, List.take_of_length_le (by omega)]
    · have hi : L[i]? = some z7 := by rw [e7']; exact c0.2.1 i (by omega)
      have hm := List.mem_of_getElem? hi
      have hz := v0.2 z7 hm
      have hzg : vOK g z7 := by unfold vOK at hz ⊢; rw [gs.1]; exact hz
      have nm := not_mem_take v0.1 hi
      have ecol : g 20 z7 = nc h 20 z7 := by
        rw [← nc_v hzg, i2]
        unfold Sw
        rw [if_neg nm]
      have fin : ∀ r, r = x1 + x2 - nc h 20 z7 → ∀ h2, h2 = hup g 20 z7 r → nc h2 20 = Sw (nc h 20) (L.take (i + 1)) x1 x2 := by
        intro r er h2 e2
        rw [nc_up hzg e2 (by decide), i2]
        funext u
        unfold upc Sw
        by_cases w : u = z7
        · subst w
          rw [if_pos rfl, if_pos ((mem_take_iff v0.1 hi).mpr (Or.inr rfl)), er]
        · rw [if_neg w]
          by_cases w2 : u ∈ L.take i
          · rw [if_pos w2, if_pos ((mem_take_iff v0.1 hi).mpr (Or.inl w2))]
          · rw [if_neg w2, if_neg (fun q => by rcases (mem_take_iff v0.1 hi).mp q with q | q; exact w2 q; exact w q)]
      have hz' := hz
      unfold vOK at hz'
      have two := hL z7 hm
      refine ⟨by omega, fun c1 => ⟨by omega, fun h2 e2 => ⟨by unfold InR; omega, fun z3 e3 => ⟨30 - (i + 1), by omega, rfl, rfl, i + 1, by omega, by omega, fin _ ?_ h2 e2, rfl⟩⟩⟩, fun c1 => ⟨by omega, fun h2 e2 => ⟨by unfold InR; omega, fun z3 e3 => ⟨30 - (i + 1), by omega, rfl, rfl, i + 1, by omega, by omega, fin _ ?_ h2 e2, rfl⟩⟩⟩⟩
      · rw [ecol] at c1
        rcases two with q | q
        · exact absurd q c1
        · omega
      · rw [ecol] at c1
        omega
  · unfold V_X0_swapChain
    refine fun z ez => ⟨30, rfl, rfl, 0, ez, by omega, ?_, rfl⟩
    funext u
    unfold Sw
    rw [List.take_zero, if_neg List.not_mem_nil]

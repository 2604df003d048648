/-! The reference's neighbour, makeFree, colour, exchange -/
theorem nbl_pre {h : Hp} {c : Int → Int} {v : Int} {k : Nat} : ∀ d : Nat, ∃ T, nbl h c v (k + d) = nbl h c v k ++ T := by
  intro d
  induction d with
  | zero => exact ⟨[], by rw [List.append_nil]; rfl⟩
  | succ d ih =>
    obtain ⟨T, e⟩ := ih
    show ∃ T, (if c (nbr h v (k + d)) = 0 then nbl h c v (k + d) else nbl h c v (k + d) ++ [nbr h v (k + d)]) = _
    split
    · exact ⟨T, e⟩
    · exact ⟨T ++ [nbr h v (k + d)], by rw [e, List.append_assoc]⟩
def p_neighbour (v i : Int) (h : Hp) : Prop := Sy h ∧ vOK h v ∧ HC h ∧ 0 ≤ i ∧ i < (NB h (nc h 36) v).length
def q_neighbour (v i : Int) (h : Hp) (r : Int) : Prop := (NB h (nc h 36) v)[i.toNat]? = some r
theorem ct_neighbour {l : Launch} (v i : Int) (h : Hp) (hb : p_neighbour v i h) : Ct l yX6_neighbour cX6_neighbour 6 (some .int) 1 22 0 [vr 30, vi v, vi i] h [] (fun r _ => q_neighbour v i h r) (fun _ => False) := by
  obtain ⟨⟨R, G, m⟩, hv, hc, hi0, hi1⟩ := hb
  have g1 := G.1
  have md := mr_deg G m hv
  have hv' := hv
  unfold vOK at hv'
  refine w_X6_neighbour _ p_far q_far (fun n g x1 x2 x3 x4 => g = h ∧ x1 = v ∧ x2 = i ∧ ∃ k : Nat, x4 = k ∧ (k : Int) ≤ h 11 v ∧ x3 = (nbl h (nc h 36) v k).length ∧ (x3 ≤ i ∧ x3 ≤ k) ∧ n = 30 - k) h v i ct_far ?_ (fun _ _ _ => ?_)
  · rintro n g x1 x2 x3 x4 - F - - - - ⟨rfl, rfl, rfl, k, rfl, i1, i2, i3, i4⟩
    unfold V_X6_neighbour_5 V_X6_neighbour_56
    rw [md.1]
    refine ⟨by omega, fun c => ?_, fun c => ?_⟩
    · exfalso
      have : (NB g (nc g 36) x1).length = (nbl g (nc g 36) x1 k).length := by
        unfold NB
        rw [show (g 11 x1).toNat = k by omega]
      omega
    · have hk : (k : Int) < g 11 x1 := by omega
      have hr := (mr_nbr G m hv hk).1
      have hw := nbr_v G hv hk
      refine ⟨by unfold InR; omega, by unfold InR; omega, by omega, hr, fun r _ q z10 e10 => ?_⟩
      have q := far_at G m hv hk rfl rfl q
      have e10 := e10.trans q
      subst e10
      have hw' := hw
      unfold vOK at hw'
      have h0 := hc _ hw
      refine ⟨by omega, fun c1 => ⟨by unfold InR; omega, fun z ez => ⟨30 - (k + 1), by omega, rfl, rfl, rfl, k + 1, by omega, by omega, ?_, by omega, rfl⟩⟩, fun c1 => ?_⟩
      · rw [show nbl g (nc g 36) x1 (k + 1) = nbl g (nc g 36) x1 k from if_pos (h0.mp c1)]
        exact i2
      · have en : nbl g (nc g 36) x1 (k + 1) = nbl g (nc g 36) x1 k ++ [nbr g x1 k] := if_neg (fun z => c1 (h0.mpr z))
        refine ⟨fun c2 => ⟨by unfold InR; omega, fun z14 e14 => ⟨by unfold InR; omega, fun z ez => ⟨30 - (k + 1), by omega, rfl, rfl, rfl, k + 1, by omega, by omega, ?_, by omega, rfl⟩⟩⟩, fun c2 => ?_⟩
        · rw [en, List.length_append, e14, i2]
          rfl
        · show (NB g (nc g 36) x1)[x2.toNat]? = some (nbr g x1 k)
          obtain ⟨T, e⟩ := nbl_pre (h := g) (c := nc g 36) (v := x1) (k := k + 1) ((g 11 x1).toNat - (k + 1))
          rw [show k + 1 + ((g 11 x1).toNat - (k + 1)) = (g 11 x1).toNat by omega, en, List.append_assoc] at e
          unfold NB
          rw [e, show x2.toNat = (nbl g (nc g 36) x1 k).length by omega, List.getElem?_append_right (Nat.le_refl _), Nat.sub_self]
          rfl
  · unfold V_X6_neighbour
    exact fun z0 e0 z1 e1 => ⟨30, rfl, rfl, rfl, 0, e1, by omega, e0, by omega, rfl⟩
theorem HC_cong {h h' : Hp} (a : HC h) (e1 : h' 1 = h 1) (e36 : h' 36 = h 36) (e42 : h' 42 = h 42) : HC h' := by
  intro w hw
  rw [nc_cong e36 e1, e42]
  exact a w (by unfold vOK at hw ⊢; rw [e1] at hw; exact hw)
theorem Keep.fc {a b : Hp} (x : ∀ j, j ≠ 20 → b 30 j = a 30 j) : Keep a b := fun j _ _ _ h4 => x j h4
-- makeFree
def p_makeFree (v : Int) (h : Hp) : Prop := Sy h ∧ vOK h v ∧ HC h ∧ Nof h (nc h 36) v ∧ CR (nc h 36) ∧ 0 ≤ h 30 10 ∧ h 30 10 ≤ 1000
def q_makeFree (v : Int) (h : Hp) (r : Int) (h' : Hp) : Prop := (∃ a b, SEL h (nc h 36) v a b ∧ r = nc h 36 a ∧ nc h' 36 = Sw (nc h 36) (CH h (nc h 36) a (nc h 36 b)) (nc h 36 a) (nc h 36 b)) ∧ h' 30 10 = h 30 10 + 1 ∧ ∀ j, j ≠ 10 → j ≠ 20 → h' 30 j = h 30 j
set_option maxHeartbeats 1000000 in
theorem ct_makeFree {l : Launch} (v : Int) (h : Hp) (hb : p_makeFree v h) : Ct l yX6_makeFree cX6_makeFree 5 (some .int) 2 49 0 [vr 30, vi v] h [30, 36, 40, 43] (fun r h1 => q_makeFree v h r h1) (fun _ => False) := by
  obtain ⟨sy, hv, hc, n5, cr, hx⟩ := hb
  obtain ⟨R, G, m⟩ := id sy
  have g1 := G.1
  have l5 := NB_five n5
  obtain ⟨c, ec⟩ : ∃ c, c = nc h 36 := ⟨_, rfl⟩
  rw [← ec] at n5 l5 cr
  have hh : ∀ g, g 1 = h 1 → g 36 = h 36 → g 42 = h 42 → ∀ a b, c a ≠ 0 → c b ≠ 0 → ∀ w, vOK g w → (nc g 36 w = c a ∨ nc g 36 w = c b) → g 42 w ≠ 0 := by
    intro g e1 e36 e42 a b ha hb w hw e z
    have := (HC_cong hc e1 e36 e42 w hw).mp z
    rw [this] at e
    rcases e with e | e
    · exact ha e.symm
    · exact hb e.symm
  have fin : ∀ (g : Hp) (a b : Int), Fr [30, 40, 43] h g → (∀ j, j ≠ 20 → g 30 j = h 30 j) → SEL h c v a b → MLi g (CH h c a (c b)) → V_X6_makeFree_71 (fun r h1 => q_makeFree v h r h1) p_neighbour q_neighbour p_findChain q_findChain p_changeChain q_changeChain g a b := by
    intro g a b F k30 sel cl
    obtain ⟨⟨va, -⟩, vb, -⟩ := SEL_v G hv sel
    have enc : nc g 36 = c := by rw [ec]; exact nc_cong (F 36 (by decide)) (F 1 (by decide))
    have ea : g 36 a = c a := by rw [F 36 (by decide), ec, nc_v va]
    have eb : g 36 b = c b := by rw [F 36 (by decide), ec, nc_v vb]
    have va' := va
    have vb' := vb
    unfold vOK at va' vb'
    have sg : Sy g := Sy_keep sy F (by decide) (Keep.fc k30)
    have vl := (CH_ok G (c := c) (y := c b) va).1
    unfold V_X6_makeFree_71
    rw [ea, eb]
    refine ⟨by omega, fun z2 e2 => ⟨by omega, ⟨sg, ⟨_, cl⟩, by rw [e2]; exact cr a, cr b, by rw [enc]; exact cr⟩, fun h5 f5 _ q5 => ?_⟩⟩
    have q5 := q5 _ cl ⟨vl.1, fun w hw => by have := vl.2 w hw; unfold vOK at this ⊢; rw [F 1 (by decide)]; exact this⟩
    rw [enc, e2] at q5
    have e10 : h5 30 10 = h 30 10 := by rw [f5 30 (by decide)]; exact k30 10 (by decide)
    rw [e10]
    refine ⟨by unfold InR; omega, fun h7 e7 => ⟨⟨a, b, ?_⟩, by rw [e7, hup_s], fun j h1 h2 => ?_⟩⟩
    · rw [← ec]
      refine ⟨sel, e2, ?_⟩
      rw [nc_cong (h := h5) (by rw [e7, hup_k (by decide)]) (by rw [e7, hup_k (by decide)])]
      exact q5
    · rw [e7, hup_o (fun z => h1 z.2), f5 30 (by decide)]
      exact k30 j h2
  refine w_X6_makeFree _ p_neighbour q_neighbour p_findChain q_findChain p_changeChain q_changeChain h v ct_neighbour ct_findChain ct_changeChain (fun _ _ => ?_)
  unfold V_X6_makeFree
  refine ⟨⟨sy, hv, hc, by omega, by rw [← ec]; omega⟩, fun r9 _ q9 z10 e10 => ?_⟩
  have q9 : (NB h (nc h 36) v)[0]? = some r9 := q9
  rw [← ec, ← e10] at q9
  refine ⟨⟨sy, hv, hc, by omega, by rw [← ec]; omega⟩, fun r12 _ q12 z13 e13 => ?_⟩
  have q12 : (NB h (nc h 36) v)[2]? = some r12 := q12
  rw [← ec, ← e13] at q12
  obtain ⟨v0, c0⟩ := NB_v G hv (List.mem_of_getElem? q9)
  obtain ⟨v2, c2⟩ := NB_v G hv (List.mem_of_getElem? q12)
  have v0' := v0
  have v2' := v2
  unfold vOK at v0' v2'
  have ea : h 36 z10 = c z10 := by rw [ec, nc_v v0]
  have eb : h 36 z13 = c z13 := by rw [ec, nc_v v2]
  rw [ea, eb]
  refine ⟨by omega, by omega, ⟨sy, v0, by rw [← ec], hh h rfl rfl rfl z10 z13 c0 c2⟩, fun h17 f17 _ q17 => ?_⟩
  have cl := q17.1
  rw [← ec] at cl
  have k30 := q17.2
  have enc : nc h17 36 = c := by rw [ec]; exact nc_cong (f17 36 (by decide)) (f17 1 (by decide))
  have sg : Sy h17 := Sy_keep sy f17 (by decide) (Keep.fc k30)
  have gs17 : Gs h h17 := Gs.of f17 (by decide)
  have hv17 : vOK h17 v := by unfold vOK; rw [gs17.1]; exact hv
  have hc17 := HC_cong hc (f17 1 (by decide)) (f17 36 (by decide)) (f17 42 (by decide))
  have eNB : NB h17 (nc h17 36) v = NB h c v := by rw [enc]; exact NB_gs gs17
  have m2 := cl.2.2 z13 v2'.1 (by rw [gs17.1]; exact v2'.2)
  have x1 : ∃ w, (NB h c v)[1]? = some w := ⟨_, List.getElem?_eq_getElem (by omega)⟩
  have x3 : ∃ w, (NB h c v)[3]? = some w := ⟨_, List.getElem?_eq_getElem (by omega)⟩
  obtain ⟨w1, x1⟩ := x1
  obtain ⟨w3, x3⟩ := x3
  refine ⟨by omega, fun d1 => fin h17 z10 z13 f17 k30 ⟨_, _, _, _, q9, q12, x1, x3, Or.inl ⟨fun z => ?_, rfl, rfl⟩⟩ cl, fun d1 => ?_⟩
  · rw [m2, if_pos z] at d1
    omega
  · refine ⟨⟨sg, hv17, hc17, by omega, by rw [eNB]; omega⟩, fun r21 _ q21 z22 e22 => ?_⟩
    have q21 : (NB h17 (nc h17 36) v)[1]? = some r21 := q21
    rw [eNB, ← e22] at q21
    refine ⟨⟨sg, hv17, hc17, by omega, by rw [eNB]; omega⟩, fun r24 _ q24 z25 e25 => ?_⟩
    have q24 : (NB h17 (nc h17 36) v)[3]? = some r24 := q24
    rw [eNB, ← e25] at q24
    obtain ⟨v1, c1⟩ := NB_v G hv (List.mem_of_getElem? q21)
    obtain ⟨v3, c3⟩ := NB_v G hv (List.mem_of_getElem? q24)
    have v1' := v1
    have v3' := v3
    unfold vOK at v1' v3'
    have ea : h17 36 z22 = c z22 := by rw [f17 36 (by decide), ec, nc_v v1]
    have eb : h17 36 z25 = c z25 := by rw [f17 36 (by decide), ec, nc_v v3]
    rw [ea, eb]
    refine ⟨by omega, by omega, ⟨sg, by unfold vOK; rw [gs17.1]; exact v1, by rw [enc], hh h17 (f17 1 (by decide)) (f17 36 (by decide)) (f17 42 (by decide)) z22 z25 c1 c3⟩, fun h29 f29 _ q29 => ?_⟩
    have cl2 := q29.1
    rw [enc, CH_gs gs17] at cl2
    refine fin h29 z22 z25 (f17.trans f29 (fun _ z => z)) (fun j hj => by rw [q29.2 j hj]; exact k30 j hj) ⟨_, _, _, _, q9, q12, q21, q24, Or.inr ⟨Classical.byContradiction (fun z => ?_), rfl, rfl⟩⟩ cl2
    rw [m2, if_neg z] at d1
    exact d1 rfl
